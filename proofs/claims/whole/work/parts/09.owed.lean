/-- both sides hold the same timetable and the same walks; the scratch arrays are free -/
def i_Rel (_ : Nat) (u : SX) (v : SY) : Prop := ∃ (tr : Nat) (cc cs ct w U E O T : Nat → Nat), tz_I tr cc cs ct w ∧ u = (nI tr, tz_F cc, tz_F cs, tz_F ct, tz_F w, tz_F U, tz_F E) ∧ v = (nI tr, tz_F cc, tz_F cs, tz_F ct, tz_F w, tz_F O, tz_F T)
theorem zz_R {k tr : Nat} {cc cs ct w U E O T : Nat → Nat} (h : tz_I tr cc cs ct w) : i_Rel k (nI tr, tz_F cc, tz_F cs, tz_F ct, tz_F w, tz_F U, tz_F E) (nI tr, tz_F cc, tz_F cs, tz_F ct, tz_F w, tz_F O, tz_F T) := ⟨tr, cc, cs, ct, w, U, E, O, T, h, rfl, rfl⟩
theorem i_up {k : Nat} {u : SX} {v : SY} (h : i_Rel k u v) : i_Rel (k + 5) u v := h
theorem i_vc0 : wpX_init (fun u => wpY_init (fun v => i_Rel 0 u v)) :=
  ⟨0, fun _ => 0, fun _ => 0, fun _ => 0, fun _ => 0, fun _ => 0, fun _ => 0, fun _ => 0, fun _ => 0, tz_I_0, rfl, rfl⟩
theorem i_vc_trip {k : Nat} {u : SX} {v : SY} (I : i_Rel k u v) (hk : k + 5 ≤ 2560) (v1 : Int32) (v2 : Int32) : wpX_trip (fun r u' => wpY_trip (fun r' v' => r' = r ∧ i_Rel (k + 5) u' v') v v1 v2) u v1 v2 := by
  obtain ⟨tr, cc, cs, ct, w, U, E, O, T, hI, rfl, rfl⟩ := I
  have h1 := hI.1
  by_cases h10 : tr = 10
  · subst h10
    exact xs_tri_u (ys_tri_u ⟨rfl, zz_R hI⟩)
  · have htr : tr < 10 := by omega
    by_cases h : tz_in v1 8 ∧ tz_in v2 1000
    · obtain ⟨⟨s, hs, rfl⟩, t, ht, rfl⟩ := h
      exact xs_tri_t htr hs (by omega) (ys_tri_t htr hs (by omega) ⟨rfl, zz_R (tz_I_trip hI htr hs (by omega))⟩)
    · exact xs_tri_f htr h (ys_tri_f htr h ⟨rfl, zz_R hI⟩)
theorem i_vc_call {k : Nat} {u : SX} {v : SY} (I : i_Rel k u v) (hk : k + 5 ≤ 2560) (v1 : Int32) (v2 : Int32) : wpX_call (fun r u' => wpY_call (fun r' v' => r' = r ∧ i_Rel (k + 5) u' v') v v1 v2) u v1 v2 := by
  obtain ⟨tr, cc, cs, ct, w, U, E, O, T, hI, rfl, rfl⟩ := I
  have h1 := hI.1
  by_cases h0 : tr = 0
  · subst h0
    exact xs_cal_0 (ys_cal_0 ⟨rfl, zz_R hI⟩)
  · obtain ⟨i, rfl⟩ : ∃ i, tr = i + 1 := ⟨tr - 1, by omega⟩
    by_cases h : tz_in v1 8 ∧ tz_in v2 1000
    · obtain ⟨⟨s, hs, rfl⟩, t, ht, rfl⟩ := h
      have ht' : t ≤ 999 := by omega
      refine xs_cal_t hI hs ht' (fun h5 => ?_) (fun h5 hb => ?_) (fun h5 ha hl => ?_)
      · exact ys_cal_t hI hs ht' (fun _ => ⟨rfl, zz_R hI⟩) (fun h _ => absurd h (by omega)) (fun h _ _ => absurd h (by omega))
      · refine ys_cal_t hI hs ht' (fun h => absurd h (by omega)) (fun _ _ => ⟨rfl, zz_R hI⟩) (fun _ ha hl => ?_)
        rcases hb with ⟨c, hc, hs⟩ | hb
        · exact absurd hs (ha c hc)
        · omega
      · refine ys_cal_t hI hs ht' (fun h => absurd h (by omega)) (fun _ hb => ?_) (fun _ _ _ => ⟨rfl, zz_R (tz_I_call hI h5 hs ht' hl)⟩)
        rcases hb with ⟨c, hc, hs⟩ | hb
        · exact absurd hs (ha c hc)
        · omega
    · exact xs_cal_f (by omega) h (ys_cal_f (by omega) h ⟨rfl, zz_R hI⟩)
theorem i_vc_cancel {k : Nat} {u : SX} {v : SY} (I : i_Rel k u v) (hk : k + 5 ≤ 2560) (v1 : Int32) : wpX_cancel (fun r u' => wpY_cancel (fun r' v' => r' = r ∧ i_Rel (k + 5) u' v') v v1) u v1 := by
  obtain ⟨tr, cc, cs, ct, w, U, E, O, T, hI, rfl, rfl⟩ := I
  have h1 := hI.1
  by_cases h : tz_in v1 tr
  · obtain ⟨i, hi, rfl⟩ := h
    obtain ⟨N, rfl⟩ : ∃ N, tr = N + 1 := ⟨tr - 1, by omega⟩
    exact xs_can_t (by omega) (by omega) (ys_can_t (by omega) (by omega) ⟨rfl, zz_R (tz_I_cancel hI (by omega))⟩)
  · exact xs_can_f h1 h (ys_can_f h1 h ⟨rfl, zz_R hI⟩)
theorem i_vc_delay {k : Nat} {u : SX} {v : SY} (I : i_Rel k u v) (hk : k + 5 ≤ 2560) (v1 : Int32) (v2 : Int32) (v3 : Int32) : wpX_delay (fun r u' => wpY_delay (fun r' v' => r' = r ∧ i_Rel (k + 5) u' v') v v1 v2 v3) u v1 v2 v3 := by
  obtain ⟨tr, cc, cs, ct, w, U, E, O, T, hI, rfl, rfl⟩ := I
  have h1 := hI.1
  by_cases h : tz_in v1 tr
  · obtain ⟨i, hi, rfl⟩ := h
    have hc := hI.2.1 i
    by_cases h2 : tz_in v2 (cc i)
    · obtain ⟨q, hq, rfl⟩ := h2
      by_cases h3 : tz_in v3 100
      · obtain ⟨d, hd, rfl⟩ := h3
        have hd' : d ≤ 99 := by omega
        refine xs_del_t hI hi hq hd' (fun h4 => ?_) (fun h4 => ?_)
        · refine ys_del_t hI hi hq hd' (fun _ => ⟨rfl, zz_R hI⟩) (fun h5 => ?_)
          have h6 := h5 (cc i - 1) (by omega) (by omega)
          omega
        · have hm : ∀ c, q ≤ c → c < cc i → ct (i * 5 + c) + d ≤ 999 := fun c _ hc' => by
            have h6 := tz_mono hI hi (k := c) (c := cc i - 1) (by omega) (by omega)
            omega
          refine ys_del_t hI hi hq hd' (fun ⟨c, h5, h6, h7⟩ => ?_) (fun _ => ⟨rfl, zz_R (tz_I_delay hI hi hm)⟩)
          have h8 := hm c h5 h6
          omega
      · exact xs_del_3 h1 hi hc hq h3 (ys_del_3 h1 hi hc hq h3 ⟨rfl, zz_R hI⟩)
    · exact xs_del_2 h1 hi hc h2 (ys_del_2 h1 hi hc h2 ⟨rfl, zz_R hI⟩)
  · exact xs_del_1 h1 h (ys_del_1 h1 h ⟨rfl, zz_R hI⟩)
theorem i_vc_walk {k : Nat} {u : SX} {v : SY} (I : i_Rel k u v) (hk : k + 5 ≤ 2560) (v1 : Int32) (v2 : Int32) (v3 : Int32) : wpX_walk (fun r u' => wpY_walk (fun r' v' => r' = r ∧ i_Rel (k + 5) u' v') v v1 v2 v3) u v1 v2 v3 := by
  obtain ⟨tr, cc, cs, ct, w, U, E, O, T, hI, rfl, rfl⟩ := I
  by_cases h : tz_in v1 8 ∧ tz_in v2 8 ∧ ¬ v1 = v2 ∧ tz_in v3 100
  · obtain ⟨⟨a, ha, rfl⟩, ⟨b, hb, rfl⟩, hn, d, hd, rfl⟩ := h
    exact xs_wal_t ha hb hn (by omega) (ys_wal_t ha hb hn (by omega) ⟨rfl, zz_R (tz_I_walk hI (by omega))⟩)
  · exact xs_wal_f h (ys_wal_f h ⟨rfl, zz_R hI⟩)
theorem i_vc_arrival {k : Nat} {u : SX} {v : SY} (I : i_Rel k u v) (hk : k + 5 ≤ 2560) (v1 : Int32) (v2 : Int32) (v3 : Int32) (v4 : Int32) : wpX_arrival (fun r u' => wpY_arrival (fun r' v' => r' = r ∧ i_Rel (k + 5) u' v') v v1 v2 v3 v4) u v1 v2 v3 v4 := by
  obtain ⟨tr, cc, cs, ct, w, U, E, O, T, hI, rfl, rfl⟩ := I
  by_cases h : tz_in v1 8 ∧ tz_in v2 8 ∧ tz_in v3 1000 ∧ tz_in v4 11
  · obtain ⟨⟨a, ha, rfl⟩, ⟨b, hb, rfl⟩, ⟨t, ht, rfl⟩, R, hR, rfl⟩ := h
    refine xs_arr_t hI ha hb (by omega) (by omega) (fun U' E' hE => ys_arr_t hI ha hb (by omega) (by omega) (fun O' T' hT => ⟨?_, zz_R hI⟩))
    have hs := tz_sim_k hb (by omega) hE hT
    unfold tz_sim at hs
    by_cases c : E' b = 1000000
    · rw [if_pos c, if_pos (by omega)]
    · rw [if_neg c, if_neg (by omega)]
      exact congrArg nI (by omega)
  · exact xs_arr_f h (ys_arr_f h ⟨rfl, zz_R hI⟩)
theorem i_vc_fewest {k : Nat} {u : SX} {v : SY} (I : i_Rel k u v) (hk : k + 5 ≤ 2560) (v1 : Int32) (v2 : Int32) (v3 : Int32) : wpX_fewest (fun r u' => wpY_fewest (fun r' v' => r' = r ∧ i_Rel (k + 5) u' v') v v1 v2 v3) u v1 v2 v3 := by
  obtain ⟨tr, cc, cs, ct, w, U, E, O, T, hI, rfl, rfl⟩ := I
  by_cases h : tz_in v1 8 ∧ tz_in v2 8 ∧ tz_in v3 1000
  · obtain ⟨⟨a, ha, rfl⟩, ⟨b, hb, rfl⟩, t, ht, rfl⟩ := h
    have ht' : t ≤ 999 := by omega
    refine xs_few_t hI ha hb ht' (fun j U' E' hj h1 h2 => ?_) (fun U' E' h1 => ?_)
    · refine ys_few_t hI ha hb ht' (fun O' T' hT j' hj' h3 h4 => ?_) (fun O' T' hT h3 => ?_)
      · have e : j' = j := by
          by_cases c : j' < j
          · have h5 := (tz_few_1 hI ha hb ht' hT (by omega)).mp (h1 j' c) j' (Nat.le_refl _)
            omega
          · by_cases c' : j < j'
            · exact absurd ((tz_few_1 hI ha hb ht' hT hj).mpr (fun q hq => h3 q (by omega))) h2
            · omega
        subst e
        exact ⟨rfl, zz_R hI⟩
      · exact absurd ((tz_few_1 hI ha hb ht' hT hj).mpr (fun q hq => h3 q (by omega))) h2
    · refine ys_few_t hI ha hb ht' (fun O' T' hT j' hj' h3 h4 => ?_) (fun O' T' hT h3 => ⟨rfl, zz_R hI⟩)
      have h5 := (tz_few_1 hI ha hb ht' hT hj').mp (h1 j' hj') j' (Nat.le_refl _)
      omega
  · exact xs_few_f h (ys_few_f h ⟨rfl, zz_R hI⟩)
theorem i_vc_choices {k : Nat} {u : SX} {v : SY} (I : i_Rel k u v) (hk : k + 5 ≤ 2560) (v1 : Int32) (v2 : Int32) (v3 : Int32) : wpX_choices (fun r u' => wpY_choices (fun r' v' => r' = r ∧ i_Rel (k + 5) u' v') v v1 v2 v3) u v1 v2 v3 := by
  obtain ⟨tr, cc, cs, ct, w, U, E, O, T, hI, rfl, rfl⟩ := I
  by_cases h : tz_in v1 8 ∧ tz_in v2 8 ∧ tz_in v3 1000
  · obtain ⟨⟨a, ha, rfl⟩, ⟨b, hb, rfl⟩, t, ht, rfl⟩ := h
    have ht' : t ≤ 999 := by omega
    refine xs_cho_t (e := fun q => tz_EX cs ct cc w tr a t q b) hI ha hb ht' (fun q => rfl) (fun U' E' => ?_)
    refine ys_cho_t hI ha hb ht' (fun O' T' hT => ⟨?_, zz_R hI⟩)
    have hs := (tz_cxy (e := fun q => tz_EX cs ct cc w tr a t q b) (T := T') (b := b) 11 (fun q hq => tz_sim_k hb (by omega) (tz_EXb hI ha ht' q) hT)).2
    exact congrArg nI hs.symm
  · exact xs_cho_f h (ys_cho_f h ⟨rfl, zz_R hI⟩)
theorem i_vc_leave {k : Nat} {u : SX} {v : SY} (I : i_Rel k u v) (hk : k + 5 ≤ 2560) (v1 : Int32) (v2 : Int32) (v3 : Int32) : wpX_leave (fun r u' => wpY_leave (fun r' v' => r' = r ∧ i_Rel (k + 5) u' v') v v1 v2 v3) u v1 v2 v3 := by
  obtain ⟨tr, cc, cs, ct, w, U, E, O, T, hI, rfl, rfl⟩ := I
  by_cases h : tz_in v1 8 ∧ tz_in v2 8 ∧ tz_in v3 1000
  · obtain ⟨⟨a, ha, rfl⟩, ⟨b, hb, rfl⟩, y, hy, rfl⟩ := h
    have hy' : y ≤ 999 := by omega
    refine xs_lea_t hI ha hb hy' (fun q U' E' hq h1 h2 => ?_) (fun U' E' h1 => ?_)
    · refine ys_lea_t hI ha hb hy' (fun q' O' T' hq' h3 h4 => ?_) (fun O' T' h3 => absurd h2 (h3 q hq))
      have e : q' = q := by
        by_cases c : q' < q
        · exact absurd h2 (h3 q c hq)
        · by_cases c' : q < q'
          · exact absurd h4 (h1 q' c' hq')
          · omega
      subst e
      exact ⟨rfl, zz_R hI⟩
    · exact ys_lea_t hI ha hb hy' (fun q' O' T' hq' h3 h4 => absurd h4 (h1 q' hq')) (fun O' T' h3 => ⟨rfl, zz_R hI⟩)
  · exact xs_lea_f h (ys_lea_f h ⟨rfl, zz_R hI⟩)
theorem i_vc_within {k : Nat} {u : SX} {v : SY} (I : i_Rel k u v) (hk : k + 5 ≤ 2560) (v1 : Int32) (v2 : Int32) (v3 : Int32) : wpX_within (fun r u' => wpY_within (fun r' v' => r' = r ∧ i_Rel (k + 5) u' v') v v1 v2 v3) u v1 v2 v3 := by
  obtain ⟨tr, cc, cs, ct, w, U, E, O, T, hI, rfl, rfl⟩ := I
  by_cases h : tz_in v1 8 ∧ tz_in v2 1000 ∧ tz_in v3 1000
  · obtain ⟨⟨a, ha, rfl⟩, ⟨t, ht, rfl⟩, y, hy, rfl⟩ := h
    exact xs_wit_t hI ha (by omega) (by omega) rfl (fun U' E' => ys_wit_t hI ha (by omega) (by omega) rfl (fun O' T' => ⟨rfl, zz_R hI⟩))
  · exact xs_wit_f h (ys_wit_f h ⟨rfl, zz_R hI⟩)
