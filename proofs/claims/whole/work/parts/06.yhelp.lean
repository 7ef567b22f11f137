/-! the reference's private methods -/
theorem ys_stop_t {post : Int32 → Prop} {u : SY} {x : Int32} (h : tz_in x 8) (k : post 1) : wpY_isStop post u x := by
  obtain ⟨u1, u2, u3, u4, u5, u6, u7⟩ := u
  obtain ⟨s, hs, rfl⟩ := h
  exact br_f (nI_pos (by omega)) (br_f (nI_ge (b := 8) hs (by decide)) k)
theorem ys_stop_f {post : Int32 → Prop} {u : SY} {x : Int32} (h : ¬ tz_in x 8) (k : post 0) : wpY_isStop post u x := by
  obtain ⟨u1, u2, u3, u4, u5, u6, u7⟩ := u
  exact br_c (fun _ => k) (fun h0 => br_t (Int32.not_lt.mp (tz_in_f (n := 8) (by decide) h h0)) k)
theorem ys_time_t {post : Int32 → Prop} {u : SY} {x : Int32} (h : tz_in x 1000) (k : post 1) : wpY_isTime post u x := by
  obtain ⟨u1, u2, u3, u4, u5, u6, u7⟩ := u
  obtain ⟨s, hs, rfl⟩ := h
  exact br_f (nI_pos (by omega)) (br_f (nI_nlt (a := 999) (by omega) (by decide)) k)
theorem ys_time_f {post : Int32 → Prop} {u : SY} {x : Int32} (h : ¬ tz_in x 1000) (k : post 0) : wpY_isTime post u x := by
  obtain ⟨u1, u2, u3, u4, u5, u6, u7⟩ := u
  exact br_c (fun _ => k) (fun h0 => br_t (tz_999 h h0) k)
theorem ys_sT {A B : Prop} {u : SY} {x : Int32} (h : tz_in x 8) (k : B) : wpY_isStop (fun r => (r = 0 → A) ∧ (¬ r = 0 → B)) u x := ys_stop_t h (xs_b1 k)
theorem ys_sF {A B : Prop} {u : SY} {x : Int32} (h : ¬ tz_in x 8) (k : A) : wpY_isStop (fun r => (r = 0 → A) ∧ (¬ r = 0 → B)) u x := ys_stop_f h (xs_b0 k)
theorem ys_tT {A B : Prop} {u : SY} {x : Int32} (h : tz_in x 1000) (k : B) : wpY_isTime (fun r => (r = 0 → A) ∧ (¬ r = 0 → B)) u x := ys_time_t h (xs_b1 k)
theorem ys_tF {A B : Prop} {u : SY} {x : Int32} (h : ¬ tz_in x 1000) (k : A) : wpY_isTime (fun r => (r = 0 → A) ∧ (¬ r = 0 → B)) u x := ys_time_f h (xs_b0 k)
section
variable {tr : Nat} {cc cs ct w O T : Nat → Nat}
/-- walkOn -/
theorem ys_w23 {post : SY → Prop} {J2 : Int32 → (Nat → Int32) → (Nat → Int32) → (Nat → Int32) → (Nat → Int32) → (Nat → Int32) → (Nat → Int32) → Prop} {r s : Nat} (hr : r ≤ 10) (hs : s < 8) (hw : ∀ j, w j ≤ 99) (hO : ∀ q, q < 8 → O (r * 8 + q) ≤ 100000)
    (k : J2 (nI (s + 1)) (tz_F cc) (tz_F cs) (tz_F ct) (tz_F w) (tz_F O) (tz_F (tz_u T (r * 8 + s) (tz_sp w (fun q => O (r * 8 + q)) s 8)))) :
    ∀ n f, 8 < n + f → f ≤ 8 → wY_walkOn_23 post J2 (nI r) (nI s) (nI tr) (tz_F cc) (tz_F cs) (tz_F ct) (tz_F w) (tz_F O) (tz_F T) n (nI (tz_sp w (fun q => O (r * 8 + q)) s f)) (nI f) := by
  intro n
  induction n with
  | zero =>
    intro f h1 h2
    omega
  | succ n ih =>
    intro f h1 h2
    refine pk_le 8 f (fun h => ?_) (fun h => ?_)
    · obtain rfl : f = 8 := by omega
      exact ⟨pk_in (r * 8 + s) 88 (by omega) (tz_i8 r s), tz_st T (r * 8 + s) _ (nm_r (nI_1 s) k) (tz_i8 r s)⟩
    · have kk := ih (f + 1) (by omega) (by omega)
      have hwf := hw (f * 8 + s)
      have hOf := hO f h
      have hsp : tz_sp w (fun q => O (r * 8 + q)) s f ≤ 100000 := tz_sp_ub (hO s hs)
      refine ⟨pk_in (f * 8 + s) 64 (by omega) (tz_i8 f s), tz_rd w (f * 8 + s) ?_ (tz_i8 f s)⟩
      refine pk_le (w (f * 8 + s)) 0 (fun h3 => ?_) (fun h3 => ?_)
      · have e : tz_sp w (fun q => O (r * 8 + q)) s (f + 1) = tz_sp w (fun q => O (r * 8 + q)) s f := if_neg (by omega)
        rw [e] at kk
        exact nm_r (nI_1 f) kk
      · have ey : tz_F O (nI r * 8 + nI f).toNatClampNeg + nI (w (f * 8 + s)) = nI (O (r * 8 + f) + w (f * 8 + s)) := by rw [tz_at O (r * 8 + f) (tz_i8 r f), nI_add]
        refine ⟨pk_in (r * 8 + f) 88 (by omega) (tz_i8 r f), pk_le (tz_sp w (fun q => O (r * 8 + q)) s f) (O (r * 8 + f) + w (f * 8 + s)) (fun h4 => ?_) (fun h4 => ?_) rfl ey⟩
        · have e : tz_sp w (fun q => O (r * 8 + q)) s (f + 1) = tz_sp w (fun q => O (r * 8 + q)) s f := if_neg (fun z => absurd z.2 (Nat.not_lt.mpr h4))
          rw [e] at kk
          exact nm_r (nI_1 f) kk
        · have e : tz_sp w (fun q => O (r * 8 + q)) s (f + 1) = O (r * 8 + f) + w (f * 8 + s) := if_pos (And.intro h3 h4)
          rw [e] at kk
          exact ⟨pk_in (r * 8 + f) 88 (by omega) (tz_i8 r f), nm_r ey (nm_r (nI_1 f) kk)⟩
theorem ys_w2 {post : SY → Prop} {r : Nat} (hr : r ≤ 10) (hw : ∀ j, w j ≤ 99) (hO : ∀ q, q < 8 → O (r * 8 + q) ≤ 100000)
    (k : ∀ T', (∀ s, s < 8 → T' (r * 8 + s) = tz_sp w (fun q => O (r * 8 + q)) s 8) → (∀ j, j < r * 8 → T' j = T j) → post (nI tr, tz_F cc, tz_F cs, tz_F ct, tz_F w, tz_F O, tz_F T')) :
    ∀ n s T', 8 < n + s → s ≤ 8 → (∀ q, q < s → T' (r * 8 + q) = tz_sp w (fun q => O (r * 8 + q)) q 8) → (∀ j, j < r * 8 → T' j = T j) → wY_walkOn_2 post (nI r) (nI tr) n (nI s) (tz_F cc) (tz_F cs) (tz_F ct) (tz_F w) (tz_F O) (tz_F T') := by
  intro n
  induction n with
  | zero =>
    intro s T' h1 h2
    omega
  | succ n ih =>
    intro s T' h1 h2 h3 h4
    refine pk_le 8 s (fun h => ?_) (fun h => ?_)
    · exact k T' (fun q hq => h3 q (by omega)) h4
    · refine ⟨pk_in (r * 8 + s) 88 (by omega) (tz_i8 r s), tz_rd O (r * 8 + s) ?_ (tz_i8 r s)⟩
      refine ⟨9, ys_w23 hr h hw hO (ih (s + 1) _ (by omega) (by omega) (fun q hq => ?_) (fun j hj => ?_)) 9 0 (by omega) (by omega)⟩
      · by_cases e : q = s
        · subst e
          exact tz_us _ _ _
        · rw [tz_un T' (r * 8 + s) _ (r * 8 + q) (by omega)]
          exact h3 q (by omega)
      · rw [tz_un T' (r * 8 + s) _ j (by omega)]
        exact h4 j hj
theorem ys_walkOn {post : SY → Prop} {r : Nat} (hr : r ≤ 10) (hw : ∀ j, w j ≤ 99) (hO : ∀ q, q < 8 → O (r * 8 + q) ≤ 100000)
    (k : ∀ T', (∀ s, s < 8 → T' (r * 8 + s) = tz_sp w (fun q => O (r * 8 + q)) s 8) → (∀ j, j < r * 8 → T' j = T j) → post (nI tr, tz_F cc, tz_F cs, tz_F ct, tz_F w, tz_F O, tz_F T')) : wpY_walkOn post (nI tr, tz_F cc, tz_F cs, tz_F ct, tz_F w, tz_F O, tz_F T) (nI r) :=
  ⟨9, ys_w2 hr hw hO k 9 0 T (by omega) (by omega) (fun q hq => absurd hq (Nat.not_lt_zero q)) (fun j _ => rfl)⟩
/-- ride -/
theorem ys_r41 {post : SY → Prop} {r i q : Nat} (hr : r ≤ 10) (hi : i < 10) (hq : q < cc i) (hcc : ∀ j, cc j ≤ 5) (hcs : ∀ j, cs j < 8) (hct : ∀ j, ct j ≤ 999) (hO : ∀ j, j < 88 → O j ≤ 100000)
    (k : post (nI tr, tz_F cc, tz_F cs, tz_F ct, tz_F w, tz_F (tz_yc cs ct r (i * 5) q O (cc i - (q + 1))), tz_F T)) :
    ∀ n m, cc i < n + (q + 1 + m) → q + 1 + m ≤ cc i → wY_ride_41 post (nI r) (nI i) (nI tr) n (nI (q + 1 + m)) (tz_F cc) (tz_F cs) (tz_F ct) (tz_F w) (tz_F (tz_yc cs ct r (i * 5) q O m)) (tz_F T) := by
  intro n
  induction n with
  | zero =>
    intro m h1 h2
    omega
  | succ n ih =>
    intro m h1 h2
    have h5 := hcc i
    refine ⟨pk_in i 10 hi, pk_le (cc i) (q + 1 + m) (fun h => ?_) (fun h => ?_) (tz_at cc i) rfl⟩
    · have e : cc i - (q + 1) = m := by omega
      rw [e] at k
      exact k
    · have kk := ih (m + 1) (by omega) (by omega)
      have hc8 := hcs (i * 5 + (q + 1 + m))
      have ht9 := hct (i * 5 + (q + 1 + m))
      have hyc : tz_yc cs ct r (i * 5) q O m (r * 8 + cs (i * 5 + (q + 1 + m))) ≤ 100000 := tz_yc_ub (hO _ (by omega))
      have e5 : nI r * 8 + tz_F cs (nI i * 5 + nI (q + 1 + m)).toNatClampNeg = nI (r * 8 + cs (i * 5 + (q + 1 + m))) := by rw [tz_at cs (i * 5 + (q + 1 + m)) (tz_i5 i _), tz_i8]
      have et : tz_F ct (nI i * 5 + nI (q + 1 + m)).toNatClampNeg = nI (ct (i * 5 + (q + 1 + m))) := tz_at ct (i * 5 + (q + 1 + m)) (tz_i5 i _)
      refine ⟨pk_in (i * 5 + (q + 1 + m)) 50 (by omega) (tz_i5 i _), nm_r e5 ?_⟩
      refine ⟨pk_in (i * 5 + (q + 1 + m)) 50 (by omega) (tz_i5 i _), pk_in (r * 8 + cs (i * 5 + (q + 1 + m))) 88 (by omega), ?_⟩
      refine pk_le (tz_yc cs ct r (i * 5) q O m (r * 8 + cs (i * 5 + (q + 1 + m)))) (ct (i * 5 + (q + 1 + m))) (fun h2 => ?_) (fun h2 => ?_) (tz_at _ _) et
      · have e : tz_yc cs ct r (i * 5) q O (m + 1) = tz_yc cs ct r (i * 5) q O m := if_neg (Nat.not_lt.mpr h2)
        rw [e] at kk
        exact nm_r (nI_1 _) kk
      · have e : tz_yc cs ct r (i * 5) q O (m + 1) = tz_u (tz_yc cs ct r (i * 5) q O m) (r * 8 + cs (i * 5 + (q + 1 + m))) (ct (i * 5 + (q + 1 + m))) := if_pos h2
        rw [e] at kk
        exact ⟨pk_in (i * 5 + (q + 1 + m)) 50 (by omega) (tz_i5 i _), pk_in (r * 8 + cs (i * 5 + (q + 1 + m))) 88 (by omega), tz_st _ (r * 8 + cs (i * 5 + (q + 1 + m))) (ct (i * 5 + (q + 1 + m))) (nm_r (nI_1 _) kk) rfl et⟩
theorem ys_ride {post : SY → Prop} {r i q : Nat} (hr1 : 1 ≤ r) (hr : r ≤ 10) (hi : i < 10) (hq : q < cc i) (hcc : ∀ j, cc j ≤ 5) (hcs : ∀ j, cs j < 8) (hct : ∀ j, ct j ≤ 999) (hO : ∀ j, j < 88 → O j ≤ 100000) (hT : ∀ s, s < 8 → T ((r - 1) * 8 + s) ≤ 100000)
    (k : post (nI tr, tz_F cc, tz_F cs, tz_F ct, tz_F w, tz_F (tz_yr cs ct cc T r i q O), tz_F T)) : wpY_ride post (nI tr, tz_F cc, tz_F cs, tz_F ct, tz_F w, tz_F O, tz_F T) (nI r) (nI i) (nI q) := by
  have h5 := hcc i
  have hc8 := hcs (i * 5 + q)
  have ht9 := hct (i * 5 + q)
  have hTq := hT _ hc8
  have e1 : (nI r - 1) * 8 + tz_F cs (nI i * 5 + nI q).toNatClampNeg = nI ((r - 1) * 8 + cs (i * 5 + q)) := by rw [tz_at cs (i * 5 + q) (tz_i5 i q), tz_s1 hr1, tz_i8]
  have et : tz_F ct (nI i * 5 + nI q).toNatClampNeg = nI (ct (i * 5 + q)) := tz_at ct (i * 5 + q) (tz_i5 i q)
  refine ⟨pk_in (i * 5 + q) 50 (by omega) (tz_i5 i q), pk_in _ 88 (by omega) e1, pk_in (i * 5 + q) 50 (by omega) (tz_i5 i q), ?_⟩
  refine pk_le (T ((r - 1) * 8 + cs (i * 5 + q))) (ct (i * 5 + q)) (fun h => ?_) (fun h => ?_) (tz_at T _ e1) et
  · have e : tz_yr cs ct cc T r i q O = tz_yc cs ct r (i * 5) q O (cc i - (q + 1)) := if_neg (Nat.not_lt.mpr h)
    rw [e] at k
    exact nm_r (nI_1 q) ⟨cc i + 1, ys_r41 hr hi hq hcc hcs hct hO k (cc i + 1) 0 (by omega) (by omega)⟩
  · have e : tz_yr cs ct cc T r i q O = O := if_pos h
    rw [e] at k
    exact k
/-- search: one round -/
theorem ys_s47 {post : SY → Prop} {J38 : Int32 → Int32 → (Nat → Int32) → (Nat → Int32) → (Nat → Int32) → (Nat → Int32) → (Nat → Int32) → (Nat → Int32) → Prop} {r : Nat} (hI : tz_I tr cc cs ct w) (hr1 : 1 ≤ r) (hr : r ≤ 10) (hO : ∀ j, j < 88 → O j ≤ 100000) (hT : ∀ s, s < 8 → T ((r - 1) * 8 + s) ≤ 100000)
    (k : ∀ T', (∀ s, s < 8 → T' (r * 8 + s) = tz_sp w (fun q => tz_ym cs ct cc T r O (tr * 5) (r * 8 + q)) s 8) → (∀ j, j < r * 8 → T' j = T j) → J38 (nI (r + 1)) (nI tr) (tz_F cc) (tz_F cs) (tz_F ct) (tz_F w) (tz_F (tz_ym cs ct cc T r O (tr * 5))) (tz_F T')) :
    ∀ n m, tr * 5 < n + m → m ≤ tr * 5 → wY_search_47 post J38 (nI r) n (nI m) (nI tr) (tz_F cc) (tz_F cs) (tz_F ct) (tz_F w) (tz_F (tz_ym cs ct cc T r O m)) (tz_F T) := by
  obtain ⟨g1, g2, g3, g4, g5, g6, g7⟩ := hI
  intro n
  induction n with
  | zero =>
    intro m h1 h2
    omega
  | succ n ih =>
    intro m h1 h2
    refine pk_le (tr * 5) m (fun h => ?_) (fun h => ?_) (tz_m5 tr) rfl
    · obtain rfl : m = tr * 5 := by omega
      exact ys_walkOn hr g5 (fun q hq => tz_ym_ub (hO _ (by omega))) (fun T' h3 h4 => nm_r (nI_1 r) (k T' h3 h4))
    · have kk := ih (m + 1) (by omega) (by omega)
      have hcd := g2 (m / 5)
      have ed : nI m / 5 = nI (m / 5) := pk_div (d := 5) (by omega) (by decide) (by decide)
      have em : nI m - nI m / 5 * 5 = nI (m % 5) := pk_rem (d := 5) (by omega) (by decide) (by decide)
      refine ⟨by decide, by decide, pk_in (m / 5) 10 (by omega) ed, pk_le (cc (m / 5)) (m % 5) (fun h3 => ?_) (fun h3 => ?_) (tz_at cc (m / 5) ed) em⟩
      · have e : tz_ym cs ct cc T r O (m + 1) = tz_ym cs ct cc T r O m := if_neg (Nat.not_lt.mpr h3)
        rw [e] at kk
        exact nm_r (nI_1 m) kk
      · have e : tz_ym cs ct cc T r O (m + 1) = tz_yr cs ct cc T r (m / 5) (m % 5) (tz_ym cs ct cc T r O m) := if_pos h3
        rw [e] at kk
        refine ⟨by decide, by decide, ?_⟩
        rw [ed, show nI m - nI (m / 5) * 5 = nI (m % 5) from ed ▸ em]
        exact ys_ride hr1 hr (by omega) h3 g2 g3 g4 (fun j hj => tz_ym_ub (hO j hj)) hT (nm_r (nI_1 m) kk)
end
section
variable {tr a t : Nat} {cc cs ct w O T : Nat → Nat}
theorem ys_s38 {post : SY → Prop} (hI : tz_I tr cc cs ct w) (k : ∀ O T, tz_YR cs ct cc w tr a t 11 O T → post (nI tr, tz_F cc, tz_F cs, tz_F ct, tz_F w, tz_F O, tz_F T)) :
    ∀ n r O T, 11 < n + r → 1 ≤ r → r ≤ 11 → tz_YR cs ct cc w tr a t r O T → wY_search_38 post n (nI r) (nI tr) (tz_F cc) (tz_F cs) (tz_F ct) (tz_F w) (tz_F O) (tz_F T) := by
  intro n
  induction n with
  | zero =>
    intro r O T h1 h2 h3
    omega
  | succ n ih =>
    intro r O T h1 h2 h3 h4
    refine pk_lt 10 r (fun h => ?_) (fun h => ?_)
    · obtain rfl : r = 11 := by omega
      exact k O T h4
    · exact ⟨tr * 5 + 1, ys_s47 hI h2 h h4.2.2 (h4.1 (r - 1) (by omega)).2 (fun T' h5 h6 => ih (r + 1) _ T' (by omega) (by omega) (by omega) (tz_YR_s hI.2.2.1 hI.2.2.2.1 hI.2.1 h2 h h4 h5 h6)) (tr * 5 + 1) 0 (by omega) (by omega)⟩
theorem ys_s2 {post : SY → Prop} (hI : tz_I tr cc cs ct w) (ha : a < 8) (ht : t ≤ 999) (k : ∀ O T, tz_YR cs ct cc w tr a t 11 O T → post (nI tr, tz_F cc, tz_F cs, tz_F ct, tz_F w, tz_F O, tz_F T)) :
    ∀ n s O, 88 < n + s → s ≤ 88 → (∀ q, q < s → O q = if q = a then t else 100000) → wY_search_2 post (nI a) (nI t) (nI tr) n (nI s) (tz_F cc) (tz_F cs) (tz_F ct) (tz_F w) (tz_F O) (tz_F T) := by
  intro n
  induction n with
  | zero =>
    intro s O h1 h2
    omega
  | succ n ih =>
    intro s O h1 h2 h3
    refine pk_le 88 s (fun h => ?_) (fun h => ?_)
    · have hO : ∀ q, q < 88 → O q = if q = a then t else 100000 := fun q hq => h3 q (by omega)
      refine ys_walkOn (r := 0) (by omega) hI.2.2.2.2.1 (fun q hq => ?_) (fun T' h5 h6 => ?_)
      · rw [hO _ (by omega)]
        split <;> omega
      · refine ⟨11, ys_s38 hI k 11 1 O T' (by omega) (by omega) (by omega) (tz_YR_1 ha ht hO (fun s hs => ?_))⟩
        have h7 := h5 s hs
        have e : (fun q => O (0 * 8 + q)) = O := by
          funext q
          rw [Nat.zero_mul, Nat.zero_add]
        rw [e, Nat.zero_mul, Nat.zero_add] at h7
        exact h7
    · refine pk_eq s a (fun h4 => ?_) (fun h4 => ?_)
      · refine ⟨pk_in s 88 h, tz_st O s t (nm_r (nI_1 s) (ih (s + 1) _ (by omega) (by omega) (fun q hq => ?_)))⟩
        by_cases e : q = s
        · subst e
          rw [tz_us, if_pos h4]
        · rw [tz_un _ _ _ _ e]
          exact h3 q (by omega)
      · refine ⟨pk_in s 88 h, tz_st O s 100000 (nm_r (nI_1 s) (ih (s + 1) _ (by omega) (by omega) (fun q hq => ?_)))⟩
        by_cases e : q = s
        · subst e
          rw [tz_us, if_neg h4]
        · rw [tz_un _ _ _ _ e]
          exact h3 q (by omega)
theorem ys_search {post : SY → Prop} (hI : tz_I tr cc cs ct w) (ha : a < 8) (ht : t ≤ 999) (k : ∀ O T, tz_YR cs ct cc w tr a t 11 O T → post (nI tr, tz_F cc, tz_F cs, tz_F ct, tz_F w, tz_F O, tz_F T)) : wpY_search post (nI tr, tz_F cc, tz_F cs, tz_F ct, tz_F w, tz_F O, tz_F T) (nI a) (nI t) :=
  ⟨89, ys_s2 hI ha ht k 89 0 O (by omega) (by omega) (fun q hq => absurd hq (Nat.not_lt_zero q))⟩
/-- best -/
theorem ys_b6 {post : Int32 → Prop} {b R : Nat} (hb : b < 8) (hR : R ≤ 10) (hT : ∀ j, j ≤ R → T (j * 8 + b) ≤ 100000) (k : post (nI (tz_b T b (R + 1)))) :
    ∀ n j, R + 1 < n + j → j ≤ R + 1 → wY_best_6 post (nI b) (nI R) (nI tr) (tz_F cc) (tz_F cs) (tz_F ct) (tz_F w) (tz_F O) (tz_F T) n (nI (tz_b T b j)) (nI j) := by
  intro n
  induction n with
  | zero =>
    intro j h1 h2
    omega
  | succ n ih =>
    intro j h1 h2
    refine pk_lt R j (fun h => ?_) (fun h => ?_)
    · obtain rfl : j = R + 1 := by omega
      exact k
    · have kk := ih (j + 1) (by omega) (by omega)
      have hTj := hT j h
      have hub : tz_b T b j ≤ 100000 := (tz_b_le T b j 100000).mpr (Or.inl (Nat.le_refl _))
      have ey : tz_F T (nI j * 8 + nI b).toNatClampNeg = nI (T (j * 8 + b)) := tz_at T (j * 8 + b) (tz_i8 j b)
      refine ⟨pk_in (j * 8 + b) 88 (by omega) (tz_i8 j b), pk_le (tz_b T b j) (T (j * 8 + b)) (fun h3 => ?_) (fun h3 => ?_) rfl ey⟩
      · have e : tz_b T b (j + 1) = tz_b T b j := if_neg (Nat.not_lt.mpr h3)
        rw [e] at kk
        exact nm_r (nI_1 j) kk
      · have e : tz_b T b (j + 1) = T (j * 8 + b) := if_pos h3
        rw [e] at kk
        exact ⟨pk_in (j * 8 + b) 88 (by omega) (tz_i8 j b), nm_r ey (nm_r (nI_1 j) kk)⟩
theorem ys_best {post : Int32 → Prop} {b R : Nat} (hb : b < 8) (hR : R ≤ 10) (hT : tz_YR cs ct cc w tr a t 11 O T) (k : post (nI (tz_b T b (R + 1)))) : wpY_best post (nI tr, tz_F cc, tz_F cs, tz_F ct, tz_F w, tz_F O, tz_F T) (nI b) (nI R) :=
  ⟨R + 2, ys_b6 hb hR (fun j hj => (hT.1 j (by omega)).2 b hb) k (R + 2) 0 (by omega) (by omega)⟩
theorem ys_ub {b n : Nat} : tz_b T b n ≤ 100000 := (tz_b_le T b n 100000).mpr (Or.inl (Nat.le_refl _))
end
