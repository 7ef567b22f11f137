/-! the timetable's own calls, side by side -/
section
variable {tr i s t : Nat} {cc cs ct w U E O T : Nat → Nat} {v1 v2 v3 : Int32} {pX : Int32 → SX → Prop} {pY : Int32 → SY → Prop}
theorem tz_e4 (hi : i < 10) : nI i * 5 + tz_F cc (nI i).toNatClampNeg = nI (i * 5 + cc i) := by rw [tz_at cc i, tz_i5]
theorem tz_e5 (hi : i < 10) : tz_F cc (nI i).toNatClampNeg + 1 = nI (cc i + 1) := by rw [tz_at cc i, nI_1]
theorem tz_e6 (hi : i < 10) (h1 : 1 ≤ cc i) : nI i * 5 + tz_F cc (nI i).toNatClampNeg - 1 = nI (i * 5 + (cc i - 1)) := by
  rw [tz_at cc i, tz_i5, tz_s1 (by omega)]
  exact congrArg nI (by omega)
theorem xs_app {post : SX → Prop} (hi : i < 10) (hc : cc i < 5) (k : post (nI (i + 1), tz_F (tz_u cc i (cc i + 1)), tz_F (tz_u cs (i * 5 + cc i) s), tz_F (tz_u ct (i * 5 + cc i) t), tz_F w, tz_F U, tz_F E)) :
    wpX_appendCall post (nI (i + 1), tz_F cc, tz_F cs, tz_F ct, tz_F w, tz_F U, tz_F E) (nI s) (nI t) :=
  nm_r (nI_pred i) ⟨pk_in i 10 hi, nm_r (tz_e4 hi) ⟨pk_in (i * 5 + cc i) 50 (by omega), tz_st cs (i * 5 + cc i) s ⟨pk_in (i * 5 + cc i) 50 (by omega), tz_st ct (i * 5 + cc i) t ⟨pk_in i 10 hi, pk_in i 10 hi, tz_st cc i (cc i + 1) k rfl (tz_e5 hi)⟩⟩⟩⟩
/-- trip -/
theorem xs_tri_u (k : pX (-2) (nI 10, tz_F cc, tz_F cs, tz_F ct, tz_F w, tz_F U, tz_F E)) : wpX_trip pX (nI 10, tz_F cc, tz_F cs, tz_F ct, tz_F w, tz_F U, tz_F E) v1 v2 := br_t rfl k
theorem ys_tri_u (k : pY (-2) (nI 10, tz_F cc, tz_F cs, tz_F ct, tz_F w, tz_F O, tz_F T)) : wpY_trip pY (nI 10, tz_F cc, tz_F cs, tz_F ct, tz_F w, tz_F O, tz_F T) v1 v2 := br_t rfl k
theorem tz_n10 (h : tr < 10) : ¬ nI tr = 10 := fun z => absurd ((nI_eq (a := tr) (b := 10) (by omega) (by decide)).mp z) (by omega)
theorem xs_tri_f (htr : tr < 10) (h : ¬ (tz_in v1 8 ∧ tz_in v2 1000)) (k : pX (-1) (nI tr, tz_F cc, tz_F cs, tz_F ct, tz_F w, tz_F U, tz_F E)) : wpX_trip pX (nI tr, tz_F cc, tz_F cs, tz_F ct, tz_F w, tz_F U, tz_F E) v1 v2 := by
  refine br_f (tz_n10 htr) ?_
  by_cases h1 : tz_in v1 8
  · exact xs_sT h1 (xs_tF (fun h2 => h ⟨h1, h2⟩) k)
  · exact xs_sF h1 k
theorem ys_tri_f (htr : tr < 10) (h : ¬ (tz_in v1 8 ∧ tz_in v2 1000)) (k : pY (-1) (nI tr, tz_F cc, tz_F cs, tz_F ct, tz_F w, tz_F O, tz_F T)) : wpY_trip pY (nI tr, tz_F cc, tz_F cs, tz_F ct, tz_F w, tz_F O, tz_F T) v1 v2 := by
  refine br_f (tz_n10 htr) ?_
  by_cases h1 : tz_in v1 8
  · exact ys_sT h1 (ys_tF (fun h2 => h ⟨h1, h2⟩) k)
  · exact ys_sF h1 k
theorem xs_tri_t (htr : tr < 10) (hs : s < 8) (ht : t ≤ 999) (k : pX (nI tr) (nI (tr + 1), tz_F (tz_u cc tr 1), tz_F (tz_u cs (tr * 5) s), tz_F (tz_u ct (tr * 5) t), tz_F w, tz_F U, tz_F E)) : wpX_trip pX (nI tr, tz_F cc, tz_F cs, tz_F ct, tz_F w, tz_F U, tz_F E) (nI s) (nI t) := by
  refine br_f (tz_n10 htr) (xs_sT ⟨s, hs, rfl⟩ (xs_tT ⟨t, by omega, rfl⟩ ⟨pk_in tr 10 htr, tz_st cc tr 0 (nm_r (nI_1 tr) ?_)⟩))
  have e1 : tz_u cc tr 0 tr = 0 := tz_us cc tr 0
  refine xs_app htr (by rw [e1]; decide) ?_
  rw [e1, tz_uu, Nat.add_zero, Nat.zero_add]
  rw [← nI_pred tr] at k
  exact k
theorem ys_tri_t (htr : tr < 10) (hs : s < 8) (ht : t ≤ 999) (k : pY (nI tr) (nI (tr + 1), tz_F (tz_u cc tr 1), tz_F (tz_u cs (tr * 5) s), tz_F (tz_u ct (tr * 5) t), tz_F w, tz_F O, tz_F T)) : wpY_trip pY (nI tr, tz_F cc, tz_F cs, tz_F ct, tz_F w, tz_F O, tz_F T) (nI s) (nI t) := by
  refine br_f (tz_n10 htr) (ys_sT ⟨s, hs, rfl⟩ (ys_tT ⟨t, by omega, rfl⟩ ?_))
  refine ⟨pk_in (tr * 5) 50 (by omega) (tz_m5 tr), tz_st cs (tr * 5) s ⟨pk_in (tr * 5) 50 (by omega) (tz_m5 tr), tz_st ct (tr * 5) t ⟨pk_in tr 10 htr, tz_st cc tr 1 (nm_r (nI_1 tr) ?_)⟩ (tz_m5 tr)⟩ (tz_m5 tr)⟩
  rw [← nI_pred tr] at k
  exact k
/-- call -/
theorem xs_cal_0 (k : pX (-1) (nI 0, tz_F cc, tz_F cs, tz_F ct, tz_F w, tz_F U, tz_F E)) : wpX_call pX (nI 0, tz_F cc, tz_F cs, tz_F ct, tz_F w, tz_F U, tz_F E) v1 v2 := br_t rfl k
theorem ys_cal_0 (k : pY (-1) (nI 0, tz_F cc, tz_F cs, tz_F ct, tz_F w, tz_F O, tz_F T)) : wpY_call pY (nI 0, tz_F cc, tz_F cs, tz_F ct, tz_F w, tz_F O, tz_F T) v1 v2 := br_t rfl k
theorem xs_cal_f (hi : i < 10) (h : ¬ (tz_in v1 8 ∧ tz_in v2 1000)) (k : pX (-1) (nI (i + 1), tz_F cc, tz_F cs, tz_F ct, tz_F w, tz_F U, tz_F E)) : wpX_call pX (nI (i + 1), tz_F cc, tz_F cs, tz_F ct, tz_F w, tz_F U, tz_F E) v1 v2 := by
  refine br_f (nI_ne0 (by omega) (by omega)) ?_
  by_cases h1 : tz_in v1 8
  · exact xs_sT h1 (xs_tF (fun h2 => h ⟨h1, h2⟩) k)
  · exact xs_sF h1 k
theorem ys_cal_f (hi : i < 10) (h : ¬ (tz_in v1 8 ∧ tz_in v2 1000)) (k : pY (-1) (nI (i + 1), tz_F cc, tz_F cs, tz_F ct, tz_F w, tz_F O, tz_F T)) : wpY_call pY (nI (i + 1), tz_F cc, tz_F cs, tz_F ct, tz_F w, tz_F O, tz_F T) v1 v2 := by
  refine br_f (nI_ne0 (by omega) (by omega)) ?_
  by_cases h1 : tz_in v1 8
  · exact ys_sT h1 (ys_tF (fun h2 => h ⟨h1, h2⟩) k)
  · exact ys_sF h1 k
theorem xs_vis2 {post : Int32 → Prop} (hi : i < 10) (hc : cc i ≤ 5) (hs : s < 8) (hcs : ∀ j, cs j < 8) (k1 : (∃ c, c < cc i ∧ cs (i * 5 + c) = s) → post 1) (k0 : (∀ c, c < cc i → ¬ cs (i * 5 + c) = s) → post 0) :
    ∀ n c, cc i < n + c → c ≤ cc i → (∀ q, q < c → ¬ cs (i * 5 + q) = s) → wX_visits_2 post (nI i) (nI s) (nI tr) (tz_F cc) (tz_F cs) (tz_F ct) (tz_F w) (tz_F U) (tz_F E) n (nI c) := by
  intro n
  induction n with
  | zero =>
    intro c h1 h2
    omega
  | succ n ih =>
    intro c h1 h2 h3
    have hc8 := hcs (i * 5 + c)
    refine ⟨pk_in i 10 hi, pk_le (cc i) c (fun h => ?_) (fun h => ?_) (tz_at cc i) rfl⟩
    · exact k0 (fun q hq => h3 q (by omega))
    · refine ⟨pk_in (i * 5 + c) 50 (by omega) (tz_i5 i c), pk_eq (cs (i * 5 + c)) s (fun h4 => k1 ⟨c, h, h4⟩) (fun h4 => nm_r (nI_1 c) (ih (c + 1) (by omega) (by omega) (fun q hq => ?_))) (tz_at cs (i * 5 + c) (tz_i5 i c)) rfl⟩
      by_cases e : q = c
      · subst e
        exact h4
      · exact h3 q (by omega)
theorem xs_vis {post : Int32 → Prop} (hi : i < 10) (hc : cc i ≤ 5) (hs : s < 8) (hcs : ∀ j, cs j < 8) (k1 : (∃ c, c < cc i ∧ cs (i * 5 + c) = s) → post 1) (k0 : (∀ c, c < cc i → ¬ cs (i * 5 + c) = s) → post 0) : wpX_visits post (nI tr, tz_F cc, tz_F cs, tz_F ct, tz_F w, tz_F U, tz_F E) (nI i) (nI s) :=
  ⟨cc i + 1, xs_vis2 hi hc hs hcs k1 k0 (cc i + 1) 0 (by omega) (by omega) (fun q hq => absurd hq (Nat.not_lt_zero q))⟩
theorem xs_last {post : Int32 → Prop} (hi : i < 10) (hc : cc i ≤ 5) (h1 : 1 ≤ cc i) (k : post (nI (ct (i * 5 + (cc i - 1))))) : wpX_lastTime post (nI tr, tz_F cc, tz_F cs, tz_F ct, tz_F w, tz_F U, tz_F E) (nI i) :=
  ⟨pk_in i 10 hi, pk_in (i * 5 + (cc i - 1)) 50 (by omega) (tz_e6 hi h1), ek_v (tz_at ct (i * 5 + (cc i - 1)) (tz_e6 hi h1)) k⟩
/-- three ends of a call on the latest trip i: full, refused, taken -/
theorem xs_cal_t (hI : tz_I (i + 1) cc cs ct w) (hs : s < 8) (ht : t ≤ 999) (k5 : cc i = 5 → pX (-2) (nI (i + 1), tz_F cc, tz_F cs, tz_F ct, tz_F w, tz_F U, tz_F E))
    (kb : cc i < 5 → (∃ c, c < cc i ∧ cs (i * 5 + c) = s) ∨ t < ct (i * 5 + (cc i - 1)) → pX (-1) (nI (i + 1), tz_F cc, tz_F cs, tz_F ct, tz_F w, tz_F U, tz_F E))
    (kt : cc i < 5 → (∀ c, c < cc i → ¬ cs (i * 5 + c) = s) → ct (i * 5 + (cc i - 1)) ≤ t → pX (nI (cc i + 1)) (nI (i + 1), tz_F (tz_u cc i (cc i + 1)), tz_F (tz_u cs (i * 5 + cc i) s), tz_F (tz_u ct (i * 5 + cc i) t), tz_F w, tz_F U, tz_F E)) :
    wpX_call pX (nI (i + 1), tz_F cc, tz_F cs, tz_F ct, tz_F w, tz_F U, tz_F E) (nI s) (nI t) := by
  obtain ⟨g1, g2, g3, g4, g5, g6, g7⟩ := hI
  have hi : i < 10 := by omega
  have hc := g2 i
  have hc1 := g6 i (by omega)
  have hl := g4 (i * 5 + (cc i - 1))
  refine br_f (nI_ne0 (by omega) (by omega)) (xs_sT ⟨s, hs, rfl⟩ (xs_tT ⟨t, by omega, rfl⟩ (nm_r (nI_pred i) ⟨pk_in i 10 hi, pk_eq (cc i) 5 k5 (fun h5 => ?_) (tz_at cc i) rfl⟩)))
  have h5' : cc i < 5 := by omega
  refine xs_vis hi hc hs g3 (fun h => xs_b1 (kb h5' (Or.inl h))) (fun h => xs_b0 (xs_last hi hc hc1 (pk_le (ct (i * 5 + (cc i - 1))) t (fun h6 => ?_) (fun h6 => kb h5' (Or.inr h6)))))
  refine xs_app hi h5' ⟨pk_in i 10 hi, ?_⟩
  have kk := kt h5' h h6
  have e : tz_F (tz_u cc i (cc i + 1)) (nI i).toNatClampNeg = nI (cc i + 1) := (tz_at _ i).trans (congrArg nI (tz_us cc i (cc i + 1)))
  rw [← e] at kk
  exact kk
theorem ys_c48 (hi : i < 10) (hc : cc i < 5) (hc1 : 1 ≤ cc i) (hs : s < 8) (ht : t ≤ 999) (hcs : ∀ j, cs j < 8) (hct : ∀ j, ct j ≤ 999)
    (kb : (∃ c, c < cc i ∧ cs (i * 5 + c) = s) ∨ t < ct (i * 5 + (cc i - 1)) → pY (-1) (nI (i + 1), tz_F cc, tz_F cs, tz_F ct, tz_F w, tz_F O, tz_F T))
    (kt : (∀ c, c < cc i → ¬ cs (i * 5 + c) = s) → ct (i * 5 + (cc i - 1)) ≤ t → pY (nI (cc i + 1)) (nI (i + 1), tz_F (tz_u cc i (cc i + 1)), tz_F (tz_u cs (i * 5 + cc i) s), tz_F (tz_u ct (i * 5 + cc i) t), tz_F w, tz_F O, tz_F T)) :
    ∀ n c, cc i < n + c → c ≤ cc i → (∀ q, q < c → ¬ cs (i * 5 + q) = s) → wY_call_48 pY (nI s) (nI t) (nI i) (nI (i + 1)) (tz_F cc) (tz_F cs) (tz_F ct) (tz_F w) (tz_F O) (tz_F T) n (nI c) := by
  have hl := hct (i * 5 + (cc i - 1))
  intro n
  induction n with
  | zero =>
    intro c h1 h2
    omega
  | succ n ih =>
    intro c h1 h2 h3
    have hc8 := hcs (i * 5 + c)
    refine ⟨pk_in i 10 hi, pk_le (cc i) c (fun h => ?_) (fun h => ?_) (tz_at cc i) rfl⟩
    · refine ⟨pk_in i 10 hi, pk_in (i * 5 + (cc i - 1)) 50 (by omega) (tz_e6 hi hc1), pk_le (ct (i * 5 + (cc i - 1))) t (fun h6 => ?_) (fun h6 => kb (Or.inr h6)) (tz_at ct (i * 5 + (cc i - 1)) (tz_e6 hi hc1)) rfl⟩
      have kk := kt (fun q hq => h3 q (by omega)) h6
      have e : tz_F (tz_u cc i (cc i + 1)) (nI i).toNatClampNeg = nI (cc i + 1) := (tz_at _ i).trans (congrArg nI (tz_us cc i (cc i + 1)))
      rw [← e] at kk
      exact ⟨pk_in i 10 hi, pk_in (i * 5 + cc i) 50 (by omega) (tz_e4 hi), tz_st cs (i * 5 + cc i) s ⟨pk_in i 10 hi, pk_in (i * 5 + cc i) 50 (by omega) (tz_e4 hi), tz_st ct (i * 5 + cc i) t ⟨pk_in i 10 hi, pk_in i 10 hi, tz_st cc i (cc i + 1) ⟨pk_in i 10 hi, kk⟩ rfl (tz_e5 hi)⟩ (tz_e4 hi)⟩ (tz_e4 hi)⟩
    · refine ⟨pk_in (i * 5 + c) 50 (by omega) (tz_i5 i c), pk_eq (cs (i * 5 + c)) s (fun h4 => kb (Or.inl ⟨c, h, h4⟩)) (fun h4 => nm_r (nI_1 c) (ih (c + 1) (by omega) (by omega) (fun q hq => ?_))) (tz_at cs (i * 5 + c) (tz_i5 i c)) rfl⟩
      by_cases e : q = c
      · subst e
        exact h4
      · exact h3 q (by omega)
theorem ys_cal_t (hI : tz_I (i + 1) cc cs ct w) (hs : s < 8) (ht : t ≤ 999) (k5 : cc i = 5 → pY (-2) (nI (i + 1), tz_F cc, tz_F cs, tz_F ct, tz_F w, tz_F O, tz_F T))
    (kb : cc i < 5 → (∃ c, c < cc i ∧ cs (i * 5 + c) = s) ∨ t < ct (i * 5 + (cc i - 1)) → pY (-1) (nI (i + 1), tz_F cc, tz_F cs, tz_F ct, tz_F w, tz_F O, tz_F T))
    (kt : cc i < 5 → (∀ c, c < cc i → ¬ cs (i * 5 + c) = s) → ct (i * 5 + (cc i - 1)) ≤ t → pY (nI (cc i + 1)) (nI (i + 1), tz_F (tz_u cc i (cc i + 1)), tz_F (tz_u cs (i * 5 + cc i) s), tz_F (tz_u ct (i * 5 + cc i) t), tz_F w, tz_F O, tz_F T)) :
    wpY_call pY (nI (i + 1), tz_F cc, tz_F cs, tz_F ct, tz_F w, tz_F O, tz_F T) (nI s) (nI t) := by
  obtain ⟨g1, g2, g3, g4, g5, g6, g7⟩ := hI
  have hi : i < 10 := by omega
  have hc := g2 i
  have hc1 := g6 i (by omega)
  refine br_f (nI_ne0 (by omega) (by omega)) (ys_sT ⟨s, hs, rfl⟩ (ys_tT ⟨t, by omega, rfl⟩ (nm_r (nI_pred i) ⟨pk_in i 10 hi, pk_eq (cc i) 5 k5 (fun h5 => ?_) (tz_at cc i) rfl⟩)))
  have h5' : cc i < 5 := by omega
  exact ⟨cc i + 1, ys_c48 hi h5' hc1 hs ht g3 g4 (kb h5') (kt h5') (cc i + 1) 0 (by omega) (by omega) (fun q hq => absurd hq (Nat.not_lt_zero q))⟩
end
section
variable {tr i m N : Nat} {cc cs ct w U E O T : Nat → Nat} {v1 v2 v3 : Int32} {pX : Int32 → SX → Prop} {pY : Int32 → SY → Prop}
/-- cancel -/
theorem xs_cp2 {post : SX → Prop} (him : i ≤ m) (hm : m + 1 < 10) (k : post (nI tr, tz_F (tz_sh cc 1 i (m + 1)), tz_F (tz_sh cs 5 (i * 5) (m * 5 + 5)), tz_F (tz_sh ct 5 (i * 5) (m * 5 + 5)), tz_F w, tz_F U, tz_F E)) :
    ∀ n c, 5 < n + c → c ≤ 5 → wX_copyTrip_2 post (nI (m + 1)) (nI m) (nI tr) n (nI c) (tz_F (tz_sh cc 1 i m)) (tz_F (tz_sh cs 5 (i * 5) (m * 5 + c))) (tz_F (tz_sh ct 5 (i * 5) (m * 5 + c))) (tz_F w) (tz_F U) (tz_F E) := by
  intro n
  induction n with
  | zero =>
    intro c h1 h2
    omega
  | succ n ih =>
    intro c h1 h2
    refine pk_le 5 c (fun h => ?_) (fun h => ?_)
    · obtain rfl : c = 5 := by omega
      rw [← tz_sh_s cc him] at k
      exact ⟨pk_in (m + 1) 10 (by omega), pk_in m 10 (by omega), tz_st _ m (cc (m + 1)) k rfl ((tz_at _ (m + 1)).trans (congrArg nI (tz_sh_r cc (by omega))))⟩
    · have kk := ih (c + 1) (by omega) (by omega)
      have e1 : tz_sh cs 5 (i * 5) (m * 5 + (c + 1)) = tz_u (tz_sh cs 5 (i * 5) (m * 5 + c)) (m * 5 + c) (cs (m * 5 + c + 5)) := (tz_sh_s cs (hi := m * 5 + c) (by omega)).symm
      have e2 : tz_sh ct 5 (i * 5) (m * 5 + (c + 1)) = tz_u (tz_sh ct 5 (i * 5) (m * 5 + c)) (m * 5 + c) (ct (m * 5 + c + 5)) := (tz_sh_s ct (hi := m * 5 + c) (by omega)).symm
      rw [e1, e2] at kk
      have ex : nI (m + 1) * 5 + nI c = nI (m * 5 + c + 5) := (tz_i5 (m + 1) c).trans (congrArg nI (by omega))
      have f1 : tz_F (tz_sh cs 5 (i * 5) (m * 5 + c)) (nI (m + 1) * 5 + nI c).toNatClampNeg = nI (cs (m * 5 + c + 5)) := (tz_at _ _ ex).trans (congrArg nI (tz_sh_r cs (by omega)))
      have f2 : tz_F (tz_sh ct 5 (i * 5) (m * 5 + c)) (nI (m + 1) * 5 + nI c).toNatClampNeg = nI (ct (m * 5 + c + 5)) := (tz_at _ _ ex).trans (congrArg nI (tz_sh_r ct (by omega)))
      exact ⟨pk_in _ 50 (by omega) ex, pk_in _ 50 (by omega) (tz_i5 m c), tz_st _ (m * 5 + c) (cs (m * 5 + c + 5)) ⟨pk_in _ 50 (by omega) ex, pk_in _ 50 (by omega) (tz_i5 m c), tz_st _ (m * 5 + c) (ct (m * 5 + c + 5)) (nm_r (nI_1 c) kk) (tz_i5 m c) f2⟩ (tz_i5 m c) f1⟩
theorem xs_can12 (hN : N < 10) (k : pX (nI N) (nI N, tz_F (tz_sh cc 1 i N), tz_F (tz_sh cs 5 (i * 5) (N * 5)), tz_F (tz_sh ct 5 (i * 5) (N * 5)), tz_F w, tz_F U, tz_F E)) :
    ∀ n m, N < n + m → i ≤ m → m ≤ N → wX_cancel_12 pX n (nI m) (nI (N + 1)) (tz_F (tz_sh cc 1 i m)) (tz_F (tz_sh cs 5 (i * 5) (m * 5))) (tz_F (tz_sh ct 5 (i * 5) (m * 5))) (tz_F w) (tz_F U) (tz_F E) := by
  intro n
  induction n with
  | zero =>
    intro m h1 h2
    omega
  | succ n ih =>
    intro m h1 h2 h3
    refine pk_le N m (fun h => ?_) (fun h => ?_) (nI_pred N) rfl
    · obtain rfl : m = N := by omega
      exact nm_r (nI_pred m) k
    · have kk := ih (m + 1) (by omega) (by omega) (by omega)
      have e : (m + 1) * 5 = m * 5 + 5 := by omega
      rw [e] at kk
      rw [nI_1 m]
      exact ⟨6, xs_cp2 h2 (by omega) (fun x ex => by subst ex; exact kk) 6 0 (by omega) (by omega)⟩
theorem xs_can_f (ht : tr ≤ 10) (h : ¬ tz_in v1 tr) (k : pX (-1) (nI tr, tz_F cc, tz_F cs, tz_F ct, tz_F w, tz_F U, tz_F E)) : wpX_cancel pX (nI tr, tz_F cc, tz_F cs, tz_F ct, tz_F w, tz_F U, tz_F E) v1 := by
  unfold wpX_cancel
  dsimp only
  exact xs_iF ht h k
theorem xs_can_t (hN : N < 10) (hi : i ≤ N) (k : pX (nI N) (nI N, tz_F (tz_sh cc 1 i N), tz_F (tz_sh cs 5 (i * 5) (N * 5)), tz_F (tz_sh ct 5 (i * 5) (N * 5)), tz_F w, tz_F U, tz_F E)) : wpX_cancel pX (nI (N + 1), tz_F cc, tz_F cs, tz_F ct, tz_F w, tz_F U, tz_F E) (nI i) := by
  unfold wpX_cancel
  dsimp only
  refine xs_iT (by omega) ⟨i, by omega, rfl⟩ ?_
  have kk := xs_can12 hN k (N + 1) i (by omega) (Nat.le_refl i) hi
  rw [tz_sh_0, tz_sh_0, tz_sh_0] at kk
  exact ⟨N + 1, kk⟩
theorem ys_can58 {ccN : Nat → Nat} (hN : N < 10) (k : pY (nI N) (nI N, tz_F ccN, tz_F (tz_sh cs 5 (i * 5) (N * 5)), tz_F (tz_sh ct 5 (i * 5) (N * 5)), tz_F w, tz_F O, tz_F T)) :
    ∀ n c, N * 5 < n + c → i * 5 ≤ c → c ≤ N * 5 → wY_cancel_58 pY (nI N) n (nI c) (tz_F ccN) (tz_F (tz_sh cs 5 (i * 5) c)) (tz_F (tz_sh ct 5 (i * 5) c)) (tz_F w) (tz_F O) (tz_F T) := by
  intro n
  induction n with
  | zero =>
    intro c h1 h2
    omega
  | succ n ih =>
    intro c h1 h2 h3
    refine pk_le (N * 5) c (fun h => ?_) (fun h => ?_) (tz_m5 N) rfl
    · obtain rfl : c = N * 5 := by omega
      exact k
    · have kk := ih (c + 1) (by omega) (by omega) (by omega)
      rw [← tz_sh_s cs h2, ← tz_sh_s ct h2] at kk
      have ex : nI c + 5 = nI (c + 5) := nI_add c 5
      have f1 : tz_F (tz_sh cs 5 (i * 5) c) (nI c + 5).toNatClampNeg = nI (cs (c + 5)) := (tz_at _ _ ex).trans (congrArg nI (tz_sh_r cs (by omega)))
      have f2 : tz_F (tz_sh ct 5 (i * 5) c) (nI c + 5).toNatClampNeg = nI (ct (c + 5)) := (tz_at _ _ ex).trans (congrArg nI (tz_sh_r ct (by omega)))
      exact ⟨pk_in (c + 5) 50 (by omega) ex, pk_in c 50 (by omega), tz_st _ c (cs (c + 5)) ⟨pk_in (c + 5) 50 (by omega) ex, pk_in c 50 (by omega), tz_st _ c (ct (c + 5)) (nm_r (nI_1 c) kk) rfl f2⟩ rfl f1⟩
theorem ys_can26 (hN : N < 10) (hi : i ≤ N) (k : pY (nI N) (nI N, tz_F (tz_sh cc 1 i N), tz_F (tz_sh cs 5 (i * 5) (N * 5)), tz_F (tz_sh ct 5 (i * 5) (N * 5)), tz_F w, tz_F O, tz_F T)) :
    ∀ n m, N < n + m → i ≤ m → m ≤ N → wY_cancel_26 pY (nI i) (nI N) n (nI m) (tz_F (tz_sh cc 1 i m)) (tz_F cs) (tz_F ct) (tz_F w) (tz_F O) (tz_F T) := by
  intro n
  induction n with
  | zero =>
    intro m h1 h2
    omega
  | succ n ih =>
    intro m h1 h2 h3
    refine pk_le N m (fun h => ?_) (fun h => ?_)
    · obtain rfl : m = N := by omega
      have kk := ys_can58 hN k (m * 5 + 1) (i * 5) (by omega) (Nat.le_refl _) (by omega)
      rw [tz_sh_0, tz_sh_0] at kk
      exact nm_r (tz_m5 i) ⟨m * 5 + 1, kk⟩
    · have kk := ih (m + 1) (by omega) (by omega) (by omega)
      rw [← tz_sh_s cc h2] at kk
      exact ⟨pk_in (m + 1) 10 (by omega) (nI_1 m), pk_in m 10 (by omega), tz_st _ m (cc (m + 1)) (nm_r (nI_1 m) kk) rfl ((tz_at _ (m + 1) (nI_1 m)).trans (congrArg nI (tz_sh_r cc (by omega))))⟩
theorem ys_can_f (ht : tr ≤ 10) (h : ¬ tz_in v1 tr) (k : pY (-1) (nI tr, tz_F cc, tz_F cs, tz_F ct, tz_F w, tz_F O, tz_F T)) : wpY_cancel pY (nI tr, tz_F cc, tz_F cs, tz_F ct, tz_F w, tz_F O, tz_F T) v1 :=
  br_c (fun _ => k) (fun h0 => br_f (tz_in_f (n := tr) (by omega) h h0) k)
theorem ys_can_t (hN : N < 10) (hi : i ≤ N) (k : pY (nI N) (nI N, tz_F (tz_sh cc 1 i N), tz_F (tz_sh cs 5 (i * 5) (N * 5)), tz_F (tz_sh ct 5 (i * 5) (N * 5)), tz_F w, tz_F O, tz_F T)) : wpY_cancel pY (nI (N + 1), tz_F cc, tz_F cs, tz_F ct, tz_F w, tz_F O, tz_F T) (nI i) := by
  refine br_f (nI_pos (by omega)) (br_t (nI_lt (by omega) (by omega)) (nm_r (nI_pred N) ?_))
  have kk := ys_can26 hN hi k (N + 1) i (by omega) (Nat.le_refl i) hi
  rw [tz_sh_0] at kk
  exact ⟨N + 1, kk⟩
end
section
variable {tr i q d : Nat} {cc cs ct w U E O T : Nat → Nat} {v1 v2 v3 : Int32} {pX : Int32 → SX → Prop} {pY : Int32 → SY → Prop}
/-- delay -/
theorem tz_d1 {c : Nat} (hi : i < 10) (hc : c < 5) : tz_F (tz_dl ct d (i * 5 + q) (i * 5 + c)) (nI i * 5 + nI c).toNatClampNeg + nI d = nI (ct (i * 5 + c) + d) := by
  rw [tz_at _ (i * 5 + c) (tz_i5 i c), tz_dl_r, nI_add]
theorem xs_del54 (hi : i < 10) (hc : cc i ≤ 5) (k : pX 1 (nI tr, tz_F cc, tz_F cs, tz_F (tz_dl ct d (i * 5 + q) (i * 5 + cc i)), tz_F w, tz_F U, tz_F E)) :
    ∀ n c, cc i < n + c → q ≤ c → c ≤ cc i → wX_delay_54 pX (nI i) (nI d) (nI tr) n (nI c) (tz_F cc) (tz_F cs) (tz_F (tz_dl ct d (i * 5 + q) (i * 5 + c))) (tz_F w) (tz_F U) (tz_F E) := by
  intro n
  induction n with
  | zero =>
    intro c h1 h2
    omega
  | succ n ih =>
    intro c h1 h2 h3
    refine ⟨pk_in i 10 hi, pk_le (cc i) c (fun h => ?_) (fun h => ?_) (tz_at cc i) rfl⟩
    · obtain rfl : c = cc i := by omega
      exact k
    · have kk := ih (c + 1) (by omega) (by omega) (by omega)
      have e1 : tz_dl ct d (i * 5 + q) (i * 5 + (c + 1)) = tz_u (tz_dl ct d (i * 5 + q) (i * 5 + c)) (i * 5 + c) (ct (i * 5 + c) + d) := (tz_dl_s ct (hi := i * 5 + c) (by omega)).symm
      rw [e1] at kk
      exact ⟨pk_in (i * 5 + c) 50 (by omega) (tz_i5 i c), pk_in (i * 5 + c) 50 (by omega) (tz_i5 i c), tz_st _ (i * 5 + c) (ct (i * 5 + c) + d) (nm_r (nI_1 c) kk) (tz_i5 i c) (tz_d1 hi (by omega))⟩
theorem ys_del82 (hi : i < 10) (hc : cc i ≤ 5) (k : pY 1 (nI tr, tz_F cc, tz_F cs, tz_F (tz_dl ct d (i * 5 + q) (i * 5 + cc i)), tz_F w, tz_F O, tz_F T)) :
    ∀ n c, cc i < n + c → q ≤ c → c ≤ cc i → wY_delay_82 pY (nI i) (nI d) (nI tr) n (nI c) (tz_F cc) (tz_F cs) (tz_F (tz_dl ct d (i * 5 + q) (i * 5 + c))) (tz_F w) (tz_F O) (tz_F T) := by
  intro n
  induction n with
  | zero =>
    intro c h1 h2
    omega
  | succ n ih =>
    intro c h1 h2 h3
    refine ⟨pk_in i 10 hi, pk_le (cc i) c (fun h => ?_) (fun h => ?_) (tz_at cc i) rfl⟩
    · obtain rfl : c = cc i := by omega
      exact k
    · have kk := ih (c + 1) (by omega) (by omega) (by omega)
      have e1 : tz_dl ct d (i * 5 + q) (i * 5 + (c + 1)) = tz_u (tz_dl ct d (i * 5 + q) (i * 5 + c)) (i * 5 + c) (ct (i * 5 + c) + d) := (tz_dl_s ct (hi := i * 5 + c) (by omega)).symm
      rw [e1] at kk
      exact ⟨pk_in (i * 5 + c) 50 (by omega) (tz_i5 i c), pk_in (i * 5 + c) 50 (by omega) (tz_i5 i c), tz_st _ (i * 5 + c) (ct (i * 5 + c) + d) (nm_r (nI_1 c) kk) (tz_i5 i c) (tz_d1 hi (by omega))⟩
theorem xs_del_1 (ht : tr ≤ 10) (h : ¬ tz_in v1 tr) (k : pX 0 (nI tr, tz_F cc, tz_F cs, tz_F ct, tz_F w, tz_F U, tz_F E)) : wpX_delay pX (nI tr, tz_F cc, tz_F cs, tz_F ct, tz_F w, tz_F U, tz_F E) v1 v2 v3 := by
  unfold wpX_delay
  dsimp only
  exact xs_iF ht h k
theorem ys_del_1 (ht : tr ≤ 10) (h : ¬ tz_in v1 tr) (k : pY 0 (nI tr, tz_F cc, tz_F cs, tz_F ct, tz_F w, tz_F O, tz_F T)) : wpY_delay pY (nI tr, tz_F cc, tz_F cs, tz_F ct, tz_F w, tz_F O, tz_F T) v1 v2 v3 :=
  br_c (fun _ => k) (fun h0 => br_t (Int32.not_lt.mp (tz_in_f (n := tr) (by omega) h h0)) k)
theorem xs_del_2 (ht : tr ≤ 10) (hi : i < tr) (hc : cc i ≤ 5) (h : ¬ tz_in v2 (cc i)) (k : pX 0 (nI tr, tz_F cc, tz_F cs, tz_F ct, tz_F w, tz_F U, tz_F E)) : wpX_delay pX (nI tr, tz_F cc, tz_F cs, tz_F ct, tz_F w, tz_F U, tz_F E) (nI i) v2 v3 := by
  unfold wpX_delay
  dsimp only
  refine xs_iT ht ⟨i, hi, rfl⟩ (br_c (fun _ => k) (fun h0 => ⟨pk_in i 10 (by omega), ?_⟩))
  rw [tz_at cc i]
  exact br_f (tz_in_f (n := cc i) (by omega) h h0) k
theorem ys_del_2 (ht : tr ≤ 10) (hi : i < tr) (hc : cc i ≤ 5) (h : ¬ tz_in v2 (cc i)) (k : pY 0 (nI tr, tz_F cc, tz_F cs, tz_F ct, tz_F w, tz_F O, tz_F T)) : wpY_delay pY (nI tr, tz_F cc, tz_F cs, tz_F ct, tz_F w, tz_F O, tz_F T) (nI i) v2 v3 := by
  unfold wpY_delay
  dsimp only
  refine br_f (nI_pos (by omega)) (br_f (nI_ge hi (by omega)) (br_c (fun _ => k) (fun h0 => ⟨pk_in i 10 (by omega), ?_⟩)))
  rw [tz_at cc i]
  exact br_t (Int32.not_lt.mp (tz_in_f (n := cc i) (by omega) h h0)) k
theorem xs_del_3 (ht : tr ≤ 10) (hi : i < tr) (hc : cc i ≤ 5) (hq : q < cc i) (h : ¬ tz_in v3 100) (k : pX 0 (nI tr, tz_F cc, tz_F cs, tz_F ct, tz_F w, tz_F U, tz_F E)) : wpX_delay pX (nI tr, tz_F cc, tz_F cs, tz_F ct, tz_F w, tz_F U, tz_F E) (nI i) (nI q) v3 := by
  unfold wpX_delay
  dsimp only
  refine xs_iT ht ⟨i, hi, rfl⟩ (br_f (nI_pos (by omega)) ⟨pk_in i 10 (by omega), pk_lt q (cc i) (fun _ => ?_) (fun h4 => absurd h4 (by omega)) rfl (tz_at cc i)⟩)
  exact br_c (fun _ => k) (fun h0 => br_f (tz_le_f (n := 99) (by decide) h h0) k)
theorem ys_del_3 (ht : tr ≤ 10) (hi : i < tr) (hc : cc i ≤ 5) (hq : q < cc i) (h : ¬ tz_in v3 100) (k : pY 0 (nI tr, tz_F cc, tz_F cs, tz_F ct, tz_F w, tz_F O, tz_F T)) : wpY_delay pY (nI tr, tz_F cc, tz_F cs, tz_F ct, tz_F w, tz_F O, tz_F T) (nI i) (nI q) v3 := by
  unfold wpY_delay
  dsimp only
  refine br_f (nI_pos (by omega)) (br_f (nI_ge hi (by omega)) (br_f (nI_pos (by omega)) ⟨pk_in i 10 (by omega), pk_le (cc i) q (fun h4 => absurd h4 (by omega)) (fun _ => ?_) (tz_at cc i) rfl⟩))
  exact br_c (fun _ => k) (fun h0 => br_f (tz_le_f (n := 99) (by decide) h h0) k)
theorem xs_del_t (hI : tz_I tr cc cs ct w) (hi : i < tr) (hq : q < cc i) (hd : d ≤ 99) (k0 : 999 < ct (i * 5 + (cc i - 1)) + d → pX 0 (nI tr, tz_F cc, tz_F cs, tz_F ct, tz_F w, tz_F U, tz_F E))
    (k1 : ct (i * 5 + (cc i - 1)) + d ≤ 999 → pX 1 (nI tr, tz_F cc, tz_F cs, tz_F (tz_dl ct d (i * 5 + q) (i * 5 + cc i)), tz_F w, tz_F U, tz_F E)) : wpX_delay pX (nI tr, tz_F cc, tz_F cs, tz_F ct, tz_F w, tz_F U, tz_F E) (nI i) (nI q) (nI d) := by
  obtain ⟨g1, g2, g3, g4, g5, g6, g7⟩ := hI
  have hc := g2 i
  have hl := g4 (i * 5 + (cc i - 1))
  unfold wpX_delay
  dsimp only
  refine xs_iT g1 ⟨i, hi, rfl⟩ (br_f (nI_pos (by omega)) ⟨pk_in i 10 (by omega), pk_lt q (cc i) (fun _ => ?_) (fun h4 => absurd h4 (by omega)) rfl (tz_at cc i)⟩)
  refine br_f (nI_pos (by omega)) (br_t (nI_le (b := 99) hd (by decide)) ?_)
  refine xs_last (by omega) hc (by omega) (pk_le (ct (i * 5 + (cc i - 1)) + d) 999 (fun h => ?_) k0 (nI_add _ _) rfl)
  have kk := xs_del54 (by omega) hc (k1 h) (cc i + 1) q (by omega) (Nat.le_refl q) (by omega)
  rw [tz_dl_0] at kk
  exact ⟨cc i + 1, kk⟩
theorem ys_del41 (hi : i < 10) (hc : cc i ≤ 5) (hd : d ≤ 99) (hq : q < cc i) (hct : ∀ j, ct j ≤ 999) (k0 : (∃ c, q ≤ c ∧ c < cc i ∧ 999 < ct (i * 5 + c) + d) → pY 0 (nI tr, tz_F cc, tz_F cs, tz_F ct, tz_F w, tz_F O, tz_F T))
    (k1 : (∀ c, q ≤ c → c < cc i → ct (i * 5 + c) + d ≤ 999) → pY 1 (nI tr, tz_F cc, tz_F cs, tz_F (tz_dl ct d (i * 5 + q) (i * 5 + cc i)), tz_F w, tz_F O, tz_F T)) :
    ∀ n c, cc i < n + c → q ≤ c → c ≤ cc i → (∀ p, q ≤ p → p < c → ct (i * 5 + p) + d ≤ 999) → wY_delay_41 pY (nI i) (nI q) (nI d) (nI tr) (tz_F cc) (tz_F cs) (tz_F ct) (tz_F w) (tz_F O) (tz_F T) n (nI c) := by
  intro n
  induction n with
  | zero =>
    intro c h1 h2
    omega
  | succ n ih =>
    intro c h1 h2 h3 h4
    have h9 := hct (i * 5 + c)
    refine ⟨pk_in i 10 hi, pk_le (cc i) c (fun h => ?_) (fun h => ?_) (tz_at cc i) rfl⟩
    · have kk := ys_del82 hi hc (k1 (fun p hp hp' => h4 p hp (by omega))) (cc i + 1) q (by omega) (Nat.le_refl q) (by omega)
      rw [tz_dl_0] at kk
      exact ⟨cc i + 1, kk⟩
    · have e : tz_F ct (nI i * 5 + nI c).toNatClampNeg + nI d = nI (ct (i * 5 + c) + d) := by rw [tz_at ct (i * 5 + c) (tz_i5 i c), nI_add]
      refine ⟨pk_in (i * 5 + c) 50 (by omega) (tz_i5 i c), pk_le (ct (i * 5 + c) + d) 999 (fun h6 => nm_r (nI_1 c) (ih (c + 1) (by omega) (by omega) (by omega) (fun p hp hp' => ?_))) (fun h6 => k0 ⟨c, h2, h, h6⟩) e rfl⟩
      by_cases e : p = c
      · subst e
        exact h6
      · exact h4 p hp (by omega)
theorem ys_del_t (hI : tz_I tr cc cs ct w) (hi : i < tr) (hq : q < cc i) (hd : d ≤ 99) (k0 : (∃ c, q ≤ c ∧ c < cc i ∧ 999 < ct (i * 5 + c) + d) → pY 0 (nI tr, tz_F cc, tz_F cs, tz_F ct, tz_F w, tz_F O, tz_F T))
    (k1 : (∀ c, q ≤ c → c < cc i → ct (i * 5 + c) + d ≤ 999) → pY 1 (nI tr, tz_F cc, tz_F cs, tz_F (tz_dl ct d (i * 5 + q) (i * 5 + cc i)), tz_F w, tz_F O, tz_F T)) : wpY_delay pY (nI tr, tz_F cc, tz_F cs, tz_F ct, tz_F w, tz_F O, tz_F T) (nI i) (nI q) (nI d) := by
  obtain ⟨g1, g2, g3, g4, g5, g6, g7⟩ := hI
  have hc := g2 i
  unfold wpY_delay
  dsimp only
  refine br_f (nI_pos (by omega)) (br_f (nI_ge hi (by omega)) (br_f (nI_pos (by omega)) ⟨pk_in i 10 (by omega), pk_le (cc i) q (fun h4 => absurd h4 (by omega)) (fun _ => ?_) (tz_at cc i) rfl⟩))
  refine br_f (nI_pos (by omega)) (br_t (nI_le (b := 99) hd (by decide)) ?_)
  exact ⟨cc i + 1, ys_del41 (by omega) hc hd hq g4 k0 k1 (cc i + 1) q (by omega) (Nat.le_refl q) (by omega) (fun p hp hp' => by omega)⟩
/-- walk -/
theorem xs_wal_f (h : ¬ (tz_in v1 8 ∧ tz_in v2 8 ∧ ¬ v1 = v2 ∧ tz_in v3 100)) (k : pX 0 (nI tr, tz_F cc, tz_F cs, tz_F ct, tz_F w, tz_F U, tz_F E)) : wpX_walk pX (nI tr, tz_F cc, tz_F cs, tz_F ct, tz_F w, tz_F U, tz_F E) v1 v2 v3 := by
  unfold wpX_walk
  dsimp only
  by_cases h1 : tz_in v1 8
  · by_cases h2 : tz_in v2 8
    · refine xs_sT h1 (xs_sT h2 (br_c (fun _ => k) (fun h3 => br_c (fun _ => k) (fun h0 => br_f ?_ k))))
      exact tz_le_f (n := 99) (by decide) (fun z => h ⟨h1, h2, h3, z⟩) h0
    · exact xs_sT h1 (xs_sF h2 k)
  · exact xs_sF h1 k
theorem ys_wal_f (h : ¬ (tz_in v1 8 ∧ tz_in v2 8 ∧ ¬ v1 = v2 ∧ tz_in v3 100)) (k : pY 0 (nI tr, tz_F cc, tz_F cs, tz_F ct, tz_F w, tz_F O, tz_F T)) : wpY_walk pY (nI tr, tz_F cc, tz_F cs, tz_F ct, tz_F w, tz_F O, tz_F T) v1 v2 v3 := by
  unfold wpY_walk
  dsimp only
  by_cases h1 : tz_in v1 8
  · by_cases h2 : tz_in v2 8
    · refine ys_sT h1 (ys_sT h2 (br_c (fun _ => k) (fun h3 => br_c (fun _ => k) (fun h0 => br_f ?_ k))))
      exact tz_le_f (n := 99) (by decide) (fun z => h ⟨h1, h2, h3, z⟩) h0
    · exact ys_sT h1 (ys_sF h2 k)
  · exact ys_sF h1 k
theorem xs_wal_t {a b : Nat} (ha : a < 8) (hb : b < 8) (hn : ¬ nI a = nI b) (hd : d ≤ 99) (k : pX 1 (nI tr, tz_F cc, tz_F cs, tz_F ct, tz_F (tz_u (tz_u w (a * 8 + b) d) (b * 8 + a) d), tz_F U, tz_F E)) : wpX_walk pX (nI tr, tz_F cc, tz_F cs, tz_F ct, tz_F w, tz_F U, tz_F E) (nI a) (nI b) (nI d) := by
  unfold wpX_walk
  dsimp only
  refine xs_sT ⟨a, ha, rfl⟩ (xs_sT ⟨b, hb, rfl⟩ (br_f hn (br_f (nI_pos (by omega)) (br_t (nI_le (b := 99) hd (by decide)) ?_))))
  exact ⟨pk_in (a * 8 + b) 64 (by omega) (tz_i8 a b), tz_st w (a * 8 + b) d ⟨pk_in (b * 8 + a) 64 (by omega) (tz_i8 b a), tz_st _ (b * 8 + a) d k (tz_i8 b a)⟩ (tz_i8 a b)⟩
theorem ys_wal_t {a b : Nat} (ha : a < 8) (hb : b < 8) (hn : ¬ nI a = nI b) (hd : d ≤ 99) (k : pY 1 (nI tr, tz_F cc, tz_F cs, tz_F ct, tz_F (tz_u (tz_u w (a * 8 + b) d) (b * 8 + a) d), tz_F O, tz_F T)) : wpY_walk pY (nI tr, tz_F cc, tz_F cs, tz_F ct, tz_F w, tz_F O, tz_F T) (nI a) (nI b) (nI d) := by
  unfold wpY_walk
  dsimp only
  refine ys_sT ⟨a, ha, rfl⟩ (ys_sT ⟨b, hb, rfl⟩ (br_f hn (br_f (nI_pos (by omega)) (br_t (nI_le (b := 99) hd (by decide)) ?_))))
  exact ⟨pk_in (a * 8 + b) 64 (by omega) (tz_i8 a b), tz_st w (a * 8 + b) d ⟨pk_in (b * 8 + a) 64 (by omega) (tz_i8 b a), tz_st _ (b * 8 + a) d k (tz_i8 b a)⟩ (tz_i8 a b)⟩
end
