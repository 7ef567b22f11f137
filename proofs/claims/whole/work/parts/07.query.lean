/-! the questions, side by side -/
theorem tz_le_f {x : Int32} {n : Nat} (hn : n < 2 ^ 31) (h : ¬ tz_in x (n + 1)) (h0 : ¬ x < 0) : ¬ x ≤ nI n := by
  obtain ⟨j, hj, rfl⟩ := nI_of h0
  have h1 : ¬ j < n + 1 := fun z => h ⟨j, z, rfl⟩
  exact nI_ge (by omega) hj
theorem tz_sim_le {x l y : Nat} (h : tz_sim x l) (hy : y ≤ 999) : x ≤ y ↔ l ≤ y := by
  unfold tz_sim at h
  omega
theorem xs_pre_f {B C : Prop} {p0 p1 p2 : Int32} (h : ¬ (tz_in p0 8 ∧ tz_in p1 8 ∧ tz_in p2 1000)) (k : B) :
    wpX_isStop (fun r1 => (r1 = 0 → B) ∧ (¬ r1 = 0 → wpX_isStop (fun r3 => (r3 = 0 → B) ∧ (¬ r3 = 0 → wpX_isTime (fun r5 => (r5 = 0 → B) ∧ (¬ r5 = 0 → C)) p2)) p1)) p0 := by
  by_cases h1 : tz_in p0 8
  · by_cases h2 : tz_in p1 8
    · exact xs_sT h1 (xs_sT h2 (xs_tF (fun h3 => h ⟨h1, h2, h3⟩) k))
    · exact xs_sT h1 (xs_sF h2 k)
  · exact xs_sF h1 k
theorem ys_pre_f {B C : Prop} {u1 u2 u3 : SY} {p0 p1 p2 : Int32} (h : ¬ (tz_in p0 8 ∧ tz_in p1 8 ∧ tz_in p2 1000)) (k : B) :
    wpY_isStop (fun r1 => (r1 = 0 → B) ∧ (¬ r1 = 0 → wpY_isStop (fun r3 => (r3 = 0 → B) ∧ (¬ r3 = 0 → wpY_isTime (fun r5 => (r5 = 0 → B) ∧ (¬ r5 = 0 → C)) u3 p2)) u2 p1)) u1 p0 := by
  by_cases h1 : tz_in p0 8
  · by_cases h2 : tz_in p1 8
    · exact ys_sT h1 (ys_sT h2 (ys_tF (fun h3 => h ⟨h1, h2, h3⟩) k))
    · exact ys_sT h1 (ys_sF h2 k)
  · exact ys_sF h1 k
section
variable {tr a b t y R : Nat} {cc cs ct w U E O T : Nat → Nat} {v1 v2 v3 v4 : Int32} {pX : Int32 → SX → Prop} {pY : Int32 → SY → Prop}
/-- arrival -/
theorem xs_arr_f (h : ¬ (tz_in v1 8 ∧ tz_in v2 8 ∧ tz_in v3 1000 ∧ tz_in v4 11)) (k : pX (-1) (nI tr, tz_F cc, tz_F cs, tz_F ct, tz_F w, tz_F U, tz_F E)) : wpX_arrival pX (nI tr, tz_F cc, tz_F cs, tz_F ct, tz_F w, tz_F U, tz_F E) v1 v2 v3 v4 := by
  unfold wpX_arrival
  dsimp only
  by_cases h3 : tz_in v1 8 ∧ tz_in v2 8 ∧ tz_in v3 1000
  · refine xs_sT h3.1 (xs_sT h3.2.1 (xs_tT h3.2.2 (br_c (fun _ => k) (fun h0 => br_f ?_ k))))
    exact tz_le_f (n := 10) (by decide) (fun z => h ⟨h3.1, h3.2.1, h3.2.2, z⟩) h0
  · exact xs_pre_f h3 k
theorem ys_arr_f (h : ¬ (tz_in v1 8 ∧ tz_in v2 8 ∧ tz_in v3 1000 ∧ tz_in v4 11)) (k : pY (-1) (nI tr, tz_F cc, tz_F cs, tz_F ct, tz_F w, tz_F O, tz_F T)) : wpY_arrival pY (nI tr, tz_F cc, tz_F cs, tz_F ct, tz_F w, tz_F O, tz_F T) v1 v2 v3 v4 := by
  unfold wpY_arrival
  dsimp only
  by_cases h3 : tz_in v1 8 ∧ tz_in v2 8 ∧ tz_in v3 1000
  · refine ys_sT h3.1 (ys_sT h3.2.1 (ys_tT h3.2.2 (br_c (fun _ => k) (fun h0 => br_f ?_ k))))
    exact tz_le_f (n := 10) (by decide) (fun z => h ⟨h3.1, h3.2.1, h3.2.2, z⟩) h0
  · exact ys_pre_f h3 k
theorem xs_arr_t (hI : tz_I tr cc cs ct w) (ha : a < 8) (hb : b < 8) (ht : t ≤ 999) (hR : R ≤ 10)
    (k : ∀ U E, tz_XE cs ct cc w tr a t R E → pX (if E b = 1000000 then -3 else nI (E b)) (nI tr, tz_F cc, tz_F cs, tz_F ct, tz_F w, tz_F U, tz_F E)) : wpX_arrival pX (nI tr, tz_F cc, tz_F cs, tz_F ct, tz_F w, tz_F U, tz_F E) (nI a) (nI b) (nI t) (nI R) := by
  unfold wpX_arrival
  dsimp only
  refine xs_sT ⟨a, ha, rfl⟩ (xs_sT ⟨b, hb, rfl⟩ (xs_tT ⟨t, by omega, rfl⟩ (br_f (nI_pos (by omega)) (br_t (nI_le (b := 10) hR (by decide)) ?_))))
  refine xs_search hI ha ht hR (fun U' E' hU hE => ?_)
  have hEb := xs_EE hE b hb
  have kk := k U' E' hE
  refine ⟨pk_in b 8 hb, pk_eq (E' b) 1000000 (fun h => ?_) (fun h => ⟨pk_in b 8 hb, ?_⟩) (tz_at E' b) rfl⟩
  · rw [if_pos h] at kk
    exact kk
  · rw [if_neg h, ← tz_at E' b] at kk
    exact kk
theorem ys_arr_t (hI : tz_I tr cc cs ct w) (ha : a < 8) (hb : b < 8) (ht : t ≤ 999) (hR : R ≤ 10)
    (k : ∀ O T, tz_YR cs ct cc w tr a t 11 O T → pY (if tz_b T b (R + 1) = 100000 then -3 else nI (tz_b T b (R + 1))) (nI tr, tz_F cc, tz_F cs, tz_F ct, tz_F w, tz_F O, tz_F T)) : wpY_arrival pY (nI tr, tz_F cc, tz_F cs, tz_F ct, tz_F w, tz_F O, tz_F T) (nI a) (nI b) (nI t) (nI R) := by
  unfold wpY_arrival
  dsimp only
  refine ys_sT ⟨a, ha, rfl⟩ (ys_sT ⟨b, hb, rfl⟩ (ys_tT ⟨t, by omega, rfl⟩ (br_f (nI_pos (by omega)) (br_t (nI_le (b := 10) hR (by decide)) ?_))))
  refine ys_search hI ha ht (fun O' T' hT => ?_)
  have hub : tz_b T' b (R + 1) ≤ 100000 := ys_ub
  have kk := k O' T' hT
  refine ys_best hb hR hT (pk_eq (tz_b T' b (R + 1)) 100000 (fun h => ?_) (fun h => ?_))
  · rw [if_pos h] at kk
    exact kk
  · rw [if_neg h] at kk
    exact kk
/-- fewest -/
theorem xs_few_f (h : ¬ (tz_in v1 8 ∧ tz_in v2 8 ∧ tz_in v3 1000)) (k : pX (-1) (nI tr, tz_F cc, tz_F cs, tz_F ct, tz_F w, tz_F U, tz_F E)) : wpX_fewest pX (nI tr, tz_F cc, tz_F cs, tz_F ct, tz_F w, tz_F U, tz_F E) v1 v2 v3 := by
  unfold wpX_fewest
  dsimp only
  exact xs_pre_f h k
theorem ys_few_f (h : ¬ (tz_in v1 8 ∧ tz_in v2 8 ∧ tz_in v3 1000)) (k : pY (-1) (nI tr, tz_F cc, tz_F cs, tz_F ct, tz_F w, tz_F O, tz_F T)) : wpY_fewest pY (nI tr, tz_F cc, tz_F cs, tz_F ct, tz_F w, tz_F O, tz_F T) v1 v2 v3 := by
  unfold wpY_fewest
  dsimp only
  exact ys_pre_f h k
theorem tz_EXb (hI : tz_I tr cc cs ct w) (ha : a < 8) (ht : t ≤ 999) (k : Nat) : tz_XE cs ct cc w tr a t k (tz_EX cs ct cc w tr a t k) :=
  tz_EX_k cs ct cc w tr a t hI.2.2.1 hI.2.2.2.1 hI.2.2.2.2.1 ha ht k
theorem xs_few32 (hI : tz_I tr cc cs ct w) (ha : a < 8) (hb : b < 8) (ht : t ≤ 999)
    (k1 : ∀ j U E, j ≤ 10 → (∀ q, q < j → tz_EX cs ct cc w tr a t q b = 1000000) → ¬ tz_EX cs ct cc w tr a t j b = 1000000 → pX (nI j) (nI tr, tz_F cc, tz_F cs, tz_F ct, tz_F w, tz_F U, tz_F E))
    (k2 : ∀ U E, (∀ q, q ≤ 10 → tz_EX cs ct cc w tr a t q b = 1000000) → pX (-3) (nI tr, tz_F cc, tz_F cs, tz_F ct, tz_F w, tz_F U, tz_F E)) :
    ∀ n j U E, 11 < n + j → j ≤ 11 → (∀ q, q < j → tz_EX cs ct cc w tr a t q b = 1000000) → tz_XU cs ct cc w tr a t j U → tz_XE cs ct cc w tr a t j E → wX_fewest_32 pX (nI b) n (nI j) (nI tr) (tz_F cc) (tz_F cs) (tz_F ct) (tz_F w) (tz_F U) (tz_F E) := by
  intro n
  induction n with
  | zero =>
    intro j U E h1 h2
    omega
  | succ n ih =>
    intro j U E h1 h2 h3 hU hE
    refine pk_lt 10 j (fun h => ?_) (fun h => ?_)
    · exact k2 U E (fun q hq => h3 q (by omega))
    · have e : E b = tz_EX cs ct cc w tr a t j b := tz_XE_u hE (tz_EXb hI ha ht j) hb
      have hEb := xs_EE hE b hb
      refine ⟨pk_in b 8 hb, pk_eq (E b) 1000000 (fun h4 => ?_) (fun h4 => ?_) (tz_at E b) rfl⟩
      · refine xs_addk hI hU hE (fun U' E' hU' hE' => nm_r (nI_1 j) (ih (j + 1) U' E' (by omega) (by omega) (fun q hq => ?_) hU' hE'))
        by_cases c : q = j
        · subst c
          rw [← e]
          exact h4
        · exact h3 q (by omega)
      · exact k1 j U E h h3 (fun z => h4 (e.trans z))
theorem xs_few_t (hI : tz_I tr cc cs ct w) (ha : a < 8) (hb : b < 8) (ht : t ≤ 999)
    (k1 : ∀ j U E, j ≤ 10 → (∀ q, q < j → tz_EX cs ct cc w tr a t q b = 1000000) → ¬ tz_EX cs ct cc w tr a t j b = 1000000 → pX (nI j) (nI tr, tz_F cc, tz_F cs, tz_F ct, tz_F w, tz_F U, tz_F E))
    (k2 : ∀ U E, (∀ q, q ≤ 10 → tz_EX cs ct cc w tr a t q b = 1000000) → pX (-3) (nI tr, tz_F cc, tz_F cs, tz_F ct, tz_F w, tz_F U, tz_F E)) : wpX_fewest pX (nI tr, tz_F cc, tz_F cs, tz_F ct, tz_F w, tz_F U, tz_F E) (nI a) (nI b) (nI t) := by
  unfold wpX_fewest
  dsimp only
  refine xs_sT ⟨a, ha, rfl⟩ (xs_sT ⟨b, hb, rfl⟩ (xs_tT ⟨t, by omega, rfl⟩ ?_))
  exact xs_startk hI ha ht (fun U' E' hU hE => ⟨12, xs_few32 hI ha hb ht k1 k2 12 0 U' E' (by omega) (by omega) (fun q hq => absurd hq (Nat.not_lt_zero q)) hU hE⟩)
theorem ys_few35 (hb : b < 8) (hT : tz_YR cs ct cc w tr a t 11 O T)
    (k1 : ∀ j, j ≤ 10 → (∀ q, q < j → 100000 ≤ T (q * 8 + b)) → T (j * 8 + b) < 100000 → pY (nI j) (nI tr, tz_F cc, tz_F cs, tz_F ct, tz_F w, tz_F O, tz_F T))
    (k2 : (∀ q, q ≤ 10 → 100000 ≤ T (q * 8 + b)) → pY (-3) (nI tr, tz_F cc, tz_F cs, tz_F ct, tz_F w, tz_F O, tz_F T)) :
    ∀ n j, 11 < n + j → j ≤ 11 → (∀ q, q < j → 100000 ≤ T (q * 8 + b)) → wY_fewest_35 pY (nI b) (nI tr) (tz_F cc) (tz_F cs) (tz_F ct) (tz_F w) (tz_F O) (tz_F T) n (nI j) := by
  intro n
  induction n with
  | zero =>
    intro j h1 h2
    omega
  | succ n ih =>
    intro j h1 h2 h3
    refine pk_lt 10 j (fun h => ?_) (fun h => ?_)
    · exact k2 (fun q hq => h3 q (by omega))
    · have hub := (hT.1 j (by omega)).2 b hb
      refine ⟨pk_in (j * 8 + b) 88 (by omega) (tz_i8 j b), pk_le 100000 (T (j * 8 + b)) (fun h4 => ?_) (fun h4 => ?_) rfl (tz_at T (j * 8 + b) (tz_i8 j b))⟩
      · refine nm_r (nI_1 j) (ih (j + 1) (by omega) (by omega) (fun q hq => ?_))
        by_cases c : q = j
        · subst c
          exact h4
        · exact h3 q (by omega)
      · exact k1 j h h3 h4
theorem ys_few_t (hI : tz_I tr cc cs ct w) (ha : a < 8) (hb : b < 8) (ht : t ≤ 999)
    (k1 : ∀ O T, tz_YR cs ct cc w tr a t 11 O T → ∀ j, j ≤ 10 → (∀ q, q < j → 100000 ≤ T (q * 8 + b)) → T (j * 8 + b) < 100000 → pY (nI j) (nI tr, tz_F cc, tz_F cs, tz_F ct, tz_F w, tz_F O, tz_F T))
    (k2 : ∀ O T, tz_YR cs ct cc w tr a t 11 O T → (∀ q, q ≤ 10 → 100000 ≤ T (q * 8 + b)) → pY (-3) (nI tr, tz_F cc, tz_F cs, tz_F ct, tz_F w, tz_F O, tz_F T)) : wpY_fewest pY (nI tr, tz_F cc, tz_F cs, tz_F ct, tz_F w, tz_F O, tz_F T) (nI a) (nI b) (nI t) := by
  unfold wpY_fewest
  dsimp only
  refine ys_sT ⟨a, ha, rfl⟩ (ys_sT ⟨b, hb, rfl⟩ (ys_tT ⟨t, by omega, rfl⟩ ?_))
  exact ys_search hI ha ht (fun O' T' hT => ⟨12, ys_few35 hb hT (k1 O' T' hT) (k2 O' T' hT) 12 0 (by omega) (by omega) (fun q hq => absurd hq (Nat.not_lt_zero q))⟩)
/-- the first k that comes to b, on both sides -/
theorem tz_few_1 (hI : tz_I tr cc cs ct w) (ha : a < 8) (hb : b < 8) (ht : t ≤ 999) (hT : tz_YR cs ct cc w tr a t 11 O T) {j : Nat} (hj : j ≤ 10) :
    tz_EX cs ct cc w tr a t j b = 1000000 ↔ ∀ q, q ≤ j → 100000 ≤ T (q * 8 + b) := by
  have h1 := tz_sim_k hb hj (tz_EXb hI ha ht j) hT
  have h2 := tz_b_le T b (j + 1) 99999
  unfold tz_sim at h1
  constructor
  · intro h q hq
    by_cases c : 100000 ≤ T (q * 8 + b)
    · exact c
    · have h3 := h2.mpr (Or.inr ⟨q, by omega, trivial, by omega⟩)
      omega
  · intro h
    by_cases c : tz_b T b (j + 1) ≤ 99999
    · rcases h2.mp c with h3 | ⟨q, hq, _, h3⟩
      · omega
      · have h4 := h q (by omega)
        omega
    · omega
/-- choices -/
theorem xs_cho_f (h : ¬ (tz_in v1 8 ∧ tz_in v2 8 ∧ tz_in v3 1000)) (k : pX (-1) (nI tr, tz_F cc, tz_F cs, tz_F ct, tz_F w, tz_F U, tz_F E)) : wpX_choices pX (nI tr, tz_F cc, tz_F cs, tz_F ct, tz_F w, tz_F U, tz_F E) v1 v2 v3 := by
  unfold wpX_choices
  dsimp only
  exact xs_pre_f h k
theorem ys_cho_f (h : ¬ (tz_in v1 8 ∧ tz_in v2 8 ∧ tz_in v3 1000)) (k : pY (-1) (nI tr, tz_F cc, tz_F cs, tz_F ct, tz_F w, tz_F O, tz_F T)) : wpY_choices pY (nI tr, tz_F cc, tz_F cs, tz_F ct, tz_F w, tz_F O, tz_F T) v1 v2 v3 := by
  unfold wpY_choices
  dsimp only
  exact ys_pre_f h k
theorem xs_c68 {J39 : Int32 → Int32 → Int32 → Int32 → (Nat → Int32) → (Nat → Int32) → (Nat → Int32) → (Nat → Int32) → (Nat → Int32) → (Nat → Int32) → Prop} {x2 x4 x5 : Int32} {j : Nat} (hI : tz_I tr cc cs ct w) (hU : tz_XU cs ct cc w tr a t j U) (hE : tz_XE cs ct cc w tr a t j E)
    (k : ∀ U' E', tz_XU cs ct cc w tr a t (j + 1) U' → tz_XE cs ct cc w tr a t (j + 1) E' → J39 x4 x5 (nI (j + 1)) (nI tr) (tz_F cc) (tz_F cs) (tz_F ct) (tz_F w) (tz_F U') (tz_F E')) : wX_choices_68 pX J39 x2 x4 x5 (nI j) (nI tr) (tz_F cc) (tz_F cs) (tz_F ct) (tz_F w) (tz_F U) (tz_F E) := by
  unfold wX_choices_68
  exact xs_addk hI hU hE (fun U' E' h1 h2 => nm_r (nI_1 j) (k U' E' h1 h2))
theorem xs_cho39 {e : Nat → Nat} (hI : tz_I tr cc cs ct w) (ha : a < 8) (hb : b < 8) (ht : t ≤ 999) (he : ∀ q, e q = tz_EX cs ct cc w tr a t q b) (k : ∀ U E, pX (nI (tz_cx e 11)) (nI tr, tz_F cc, tz_F cs, tz_F ct, tz_F w, tz_F U, tz_F E)) :
    ∀ n j U E, 11 < n + j → j ≤ 11 → tz_XU cs ct cc w tr a t j U → tz_XE cs ct cc w tr a t j E → wX_choices_39 pX (nI b) n (nI (tz_cx e j)) (nI (tz_bx e j)) (nI j) (nI tr) (tz_F cc) (tz_F cs) (tz_F ct) (tz_F w) (tz_F U) (tz_F E) := by
  intro n
  induction n with
  | zero =>
    intro j U E h1 h2
    omega
  | succ n ih =>
    intro j U E h1 h2 hU hE
    refine pk_lt 10 j (fun h => ?_) (fun h => ?_)
    · obtain rfl : j = 11 := by omega
      exact k U E
    · have e1 : E b = e j := (tz_XE_u hE (tz_EXb hI ha ht j) hb).trans (he j).symm
      have hEb := xs_EE hE b hb
      have hbx := tz_bx_ub e j
      refine ⟨pk_in b 8 hb, pk_le (tz_bx e j) (E b) (fun h4 => ?_) (fun h4 => ?_) rfl (tz_at E b)⟩
      · have c : ¬ e j < tz_bx e j := by omega
        have e2 : tz_bx e (j + 1) = tz_bx e j := if_neg c
        have e3 : tz_cx e (j + 1) = tz_cx e j := if_neg c
        refine xs_c68 hI hU hE (fun U' E' hU' hE' => ?_)
        have kk := ih (j + 1) U' E' (by omega) (by omega) hU' hE'
        rw [e2, e3] at kk
        exact kk
      · have c : e j < tz_bx e j := by omega
        have e2 : tz_bx e (j + 1) = e j := if_pos c
        have e3 : tz_cx e (j + 1) = tz_cx e j + 1 := if_pos c
        refine ⟨pk_in b 8 hb, nm_r ((tz_at E b).trans (congrArg nI e1)) (nm_r (nI_1 _) (xs_c68 hI hU hE (fun U' E' hU' hE' => ?_)))⟩
        have kk := ih (j + 1) U' E' (by omega) (by omega) hU' hE'
        rw [e2, e3] at kk
        exact kk
theorem xs_cho_t {e : Nat → Nat} (hI : tz_I tr cc cs ct w) (ha : a < 8) (hb : b < 8) (ht : t ≤ 999) (he : ∀ q, e q = tz_EX cs ct cc w tr a t q b) (k : ∀ U E, pX (nI (tz_cx e 11)) (nI tr, tz_F cc, tz_F cs, tz_F ct, tz_F w, tz_F U, tz_F E)) : wpX_choices pX (nI tr, tz_F cc, tz_F cs, tz_F ct, tz_F w, tz_F U, tz_F E) (nI a) (nI b) (nI t) := by
  unfold wpX_choices
  dsimp only
  refine xs_sT ⟨a, ha, rfl⟩ (xs_sT ⟨b, hb, rfl⟩ (xs_tT ⟨t, by omega, rfl⟩ ?_))
  exact xs_startk hI ha ht (fun U' E' hU hE => ⟨12, xs_cho39 hI ha hb ht he k 12 0 U' E' (by omega) (by omega) hU hE⟩)
theorem ys_cho53 (hb : b < 8) (hT : tz_YR cs ct cc w tr a t 11 O T) (k : pY (nI (tz_cy T b 11)) (nI tr, tz_F cc, tz_F cs, tz_F ct, tz_F w, tz_F O, tz_F T)) :
    ∀ n q, 10 < n + q → q ≤ 10 → wY_choices_53 pY (nI b) (nI tr) (tz_F cc) (tz_F cs) (tz_F ct) (tz_F w) (tz_F O) (tz_F T) n (nI (tz_cy T b (q + 1))) (nI (q + 1)) := by
  intro n
  induction n with
  | zero =>
    intro q h1 h2
    omega
  | succ n ih =>
    intro q h1 h2
    refine pk_lt 10 (q + 1) (fun h => ?_) (fun h => ?_)
    · obtain rfl : q = 10 := by omega
      exact k
    · have kk := ih (q + 1) (by omega) (by omega)
      have hub := (hT.1 (q + 1) (by omega)).2 b hb
      have hbb : tz_b T b (q + 1) ≤ 100000 := ys_ub
      refine ⟨pk_in ((q + 1) * 8 + b) 88 (by omega) (tz_i8 (q + 1) b), ?_⟩
      rw [nI_pred q]
      refine ys_best hb (by omega) hT (pk_le (tz_b T b (q + 1)) (T ((q + 1) * 8 + b)) (fun h4 => ?_) (fun h4 => ?_) rfl (tz_at T ((q + 1) * 8 + b) (tz_i8 (q + 1) b)))
      · have e : tz_cy T b (q + 1 + 1) = tz_cy T b (q + 1) := if_neg (Nat.not_lt.mpr h4)
        rw [e] at kk
        exact nm_r (nI_1 (q + 1)) kk
      · have e : tz_cy T b (q + 1 + 1) = tz_cy T b (q + 1) + 1 := if_pos h4
        rw [e] at kk
        exact nm_r (nI_1 _) (nm_r (nI_1 (q + 1)) kk)
theorem ys_cho_t (hI : tz_I tr cc cs ct w) (ha : a < 8) (hb : b < 8) (ht : t ≤ 999) (k : ∀ O T, tz_YR cs ct cc w tr a t 11 O T → pY (nI (tz_cy T b 11)) (nI tr, tz_F cc, tz_F cs, tz_F ct, tz_F w, tz_F O, tz_F T)) : wpY_choices pY (nI tr, tz_F cc, tz_F cs, tz_F ct, tz_F w, tz_F O, tz_F T) (nI a) (nI b) (nI t) := by
  unfold wpY_choices
  dsimp only
  refine ys_sT ⟨a, ha, rfl⟩ (ys_sT ⟨b, hb, rfl⟩ (ys_tT ⟨t, by omega, rfl⟩ ?_))
  refine ys_search hI ha ht (fun O' T' hT => ?_)
  have kk := ys_cho53 hb hT (k O' T' hT) 11 0 (by omega) (by omega)
  have hub := (hT.1 0 (by omega)).2 b hb
  have e0 : T' b = T' (0 * 8 + b) := by rw [Nat.zero_mul, Nat.zero_add]
  refine ⟨pk_in b 88 (by omega), pk_le 100000 (T' b) (fun h4 => ?_) (fun h4 => ?_) rfl (tz_at T' b)⟩
  · have e : tz_cy T' b (0 + 1) = 0 := if_neg (by rw [← e0]; exact Nat.not_lt.mpr h4)
    rw [e] at kk
    exact ⟨11, kk⟩
  · have e : tz_cy T' b (0 + 1) = 1 := if_pos (by rw [← e0]; exact h4)
    rw [e] at kk
    exact ⟨11, kk⟩
/-- leave -/
theorem xs_lea_f (h : ¬ (tz_in v1 8 ∧ tz_in v2 8 ∧ tz_in v3 1000)) (k : pX (-1) (nI tr, tz_F cc, tz_F cs, tz_F ct, tz_F w, tz_F U, tz_F E)) : wpX_leave pX (nI tr, tz_F cc, tz_F cs, tz_F ct, tz_F w, tz_F U, tz_F E) v1 v2 v3 := by
  unfold wpX_leave
  dsimp only
  exact xs_pre_f h k
theorem ys_lea_f (h : ¬ (tz_in v1 8 ∧ tz_in v2 8 ∧ tz_in v3 1000)) (k : pY (-1) (nI tr, tz_F cc, tz_F cs, tz_F ct, tz_F w, tz_F O, tz_F T)) : wpY_leave pY (nI tr, tz_F cc, tz_F cs, tz_F ct, tz_F w, tz_F O, tz_F T) v1 v2 v3 := by
  unfold wpY_leave
  dsimp only
  exact ys_pre_f h k
theorem tz_neg1 : nI 0 + (-1) < 0 := by
  rw [nI_0]
  decide
theorem xs_lea26 (hI : tz_I tr cc cs ct w) (ha : a < 8) (hb : b < 8) (hy : y ≤ 999)
    (k1 : ∀ q U E, q ≤ y → (∀ p, q < p → p ≤ y → ¬ tz_EX cs ct cc w tr a p 10 b ≤ y) → tz_EX cs ct cc w tr a q 10 b ≤ y → pX (nI q) (nI tr, tz_F cc, tz_F cs, tz_F ct, tz_F w, tz_F U, tz_F E))
    (k2 : ∀ U E, (∀ p, p ≤ y → ¬ tz_EX cs ct cc w tr a p 10 b ≤ y) → pX (-3) (nI tr, tz_F cc, tz_F cs, tz_F ct, tz_F w, tz_F U, tz_F E)) :
    ∀ m n U E, m < n → m ≤ y + 1 → (∀ p, m ≤ p → p ≤ y → ¬ tz_EX cs ct cc w tr a p 10 b ≤ y) → wX_leave_26 pX (nI a) (nI b) (nI y) n (nI m + (-1)) (nI tr) (tz_F cc) (tz_F cs) (tz_F ct) (tz_F w) (tz_F U) (tz_F E) := by
  intro m
  induction m with
  | zero =>
    intro n U E h1 h2 h3
    obtain ⟨n, rfl⟩ : ∃ q, n = q + 1 := ⟨n - 1, by omega⟩
    exact br_t tz_neg1 (k2 U E (fun p hp => h3 p (Nat.zero_le p) hp))
  | succ m ih =>
    intro n U E h1 h2 h3
    obtain ⟨n, rfl⟩ : ∃ q, n = q + 1 := ⟨n - 1, by omega⟩
    rw [pk_m1]
    refine br_f (nI_pos (by omega)) ?_
    refine xs_search (R := 10) hI ha (by omega) (by omega) (fun U' E' hU hE => ?_)
    have e : E' b = tz_EX cs ct cc w tr a m 10 b := tz_XE_u hE (tz_EXb hI ha (by omega) 10) hb
    have hEb := xs_EE hE b hb
    refine ⟨pk_in b 8 hb, pk_lt y (E' b) (fun h4 => ?_) (fun h4 => ?_) rfl (tz_at E' b)⟩
    · refine nm_e (ih n U' E' (by omega) (by omega) (fun p hp hp' => ?_))
      by_cases c : p = m
      · subst c
        omega
      · exact h3 p (by omega) hp'
    · exact k1 m U' E' (by omega) (fun p hp hp' => h3 p (by omega) hp') (by omega)
theorem xs_lea_t (hI : tz_I tr cc cs ct w) (ha : a < 8) (hb : b < 8) (hy : y ≤ 999)
    (k1 : ∀ q U E, q ≤ y → (∀ p, q < p → p ≤ y → ¬ tz_EX cs ct cc w tr a p 10 b ≤ y) → tz_EX cs ct cc w tr a q 10 b ≤ y → pX (nI q) (nI tr, tz_F cc, tz_F cs, tz_F ct, tz_F w, tz_F U, tz_F E))
    (k2 : ∀ U E, (∀ p, p ≤ y → ¬ tz_EX cs ct cc w tr a p 10 b ≤ y) → pX (-3) (nI tr, tz_F cc, tz_F cs, tz_F ct, tz_F w, tz_F U, tz_F E)) : wpX_leave pX (nI tr, tz_F cc, tz_F cs, tz_F ct, tz_F w, tz_F U, tz_F E) (nI a) (nI b) (nI y) := by
  unfold wpX_leave
  dsimp only
  refine xs_sT ⟨a, ha, rfl⟩ (xs_sT ⟨b, hb, rfl⟩ (xs_tT ⟨y, by omega, rfl⟩ ?_))
  have kk := xs_lea26 hI ha hb hy k1 k2 (y + 1) (y + 2) U E (by omega) (by omega) (fun p h1 h2 => by omega)
  rw [pk_m1] at kk
  exact ⟨y + 2, kk⟩
theorem ys_lea29 (hI : tz_I tr cc cs ct w) (ha : a < 8) (hb : b < 8) (hy : y ≤ 999)
    (k1 : ∀ q O T, q ≤ y → (∀ p, q < p → p ≤ y → ¬ tz_EX cs ct cc w tr a p 10 b ≤ y) → tz_EX cs ct cc w tr a q 10 b ≤ y → pY (nI q) (nI tr, tz_F cc, tz_F cs, tz_F ct, tz_F w, tz_F O, tz_F T))
    (k2 : ∀ O T, (∀ p, p ≤ y → ¬ tz_EX cs ct cc w tr a p 10 b ≤ y) → pY (-3) (nI tr, tz_F cc, tz_F cs, tz_F ct, tz_F w, tz_F O, tz_F T)) :
    ∀ m n O T, m < n → m ≤ y + 1 → (∀ p, m ≤ p → p ≤ y → ¬ tz_EX cs ct cc w tr a p 10 b ≤ y) → wY_leave_29 pY (nI a) (nI b) (nI y) n (nI m + (-1)) (nI tr) (tz_F cc) (tz_F cs) (tz_F ct) (tz_F w) (tz_F O) (tz_F T) := by
  intro m
  induction m with
  | zero =>
    intro n O T h1 h2 h3
    obtain ⟨n, rfl⟩ : ∃ q, n = q + 1 := ⟨n - 1, by omega⟩
    exact br_t tz_neg1 (k2 O T (fun p hp => h3 p (Nat.zero_le p) hp))
  | succ m ih =>
    intro n O T h1 h2 h3
    obtain ⟨n, rfl⟩ : ∃ q, n = q + 1 := ⟨n - 1, by omega⟩
    rw [pk_m1]
    refine br_f (nI_pos (by omega)) ?_
    refine ys_search hI ha (by omega) (fun O' T' hT => ?_)
    have hs := tz_sim_le (tz_sim_k hb (Nat.le_refl 10) (tz_EXb hI ha (by omega) 10) hT) hy
    have hub : tz_b T' b (10 + 1) ≤ 100000 := ys_ub
    refine ys_best (R := 10) hb (by omega) hT (pk_lt y (tz_b T' b (10 + 1)) (fun h4 => ?_) (fun h4 => ?_))
    · refine nm_e (ih n O' T' (by omega) (by omega) (fun p hp hp' => ?_))
      by_cases c : p = m
      · subst c
        exact fun z => absurd (hs.mp z) (by omega)
      · exact h3 p (by omega) hp'
    · exact k1 m O' T' (by omega) (fun p hp hp' => h3 p (by omega) hp') (hs.mpr h4)
theorem ys_lea_t (hI : tz_I tr cc cs ct w) (ha : a < 8) (hb : b < 8) (hy : y ≤ 999)
    (k1 : ∀ q O T, q ≤ y → (∀ p, q < p → p ≤ y → ¬ tz_EX cs ct cc w tr a p 10 b ≤ y) → tz_EX cs ct cc w tr a q 10 b ≤ y → pY (nI q) (nI tr, tz_F cc, tz_F cs, tz_F ct, tz_F w, tz_F O, tz_F T))
    (k2 : ∀ O T, (∀ p, p ≤ y → ¬ tz_EX cs ct cc w tr a p 10 b ≤ y) → pY (-3) (nI tr, tz_F cc, tz_F cs, tz_F ct, tz_F w, tz_F O, tz_F T)) : wpY_leave pY (nI tr, tz_F cc, tz_F cs, tz_F ct, tz_F w, tz_F O, tz_F T) (nI a) (nI b) (nI y) := by
  unfold wpY_leave
  dsimp only
  refine ys_sT ⟨a, ha, rfl⟩ (ys_sT ⟨b, hb, rfl⟩ (ys_tT ⟨y, by omega, rfl⟩ ?_))
  have kk := ys_lea29 hI ha hb hy k1 k2 (y + 1) (y + 2) O T (by omega) (by omega) (fun p h1 h2 => by omega)
  rw [pk_m1] at kk
  exact ⟨y + 2, kk⟩
/-- within -/
theorem xs_wit_f (h : ¬ (tz_in v1 8 ∧ tz_in v2 1000 ∧ tz_in v3 1000)) (k : pX (-1) (nI tr, tz_F cc, tz_F cs, tz_F ct, tz_F w, tz_F U, tz_F E)) : wpX_within pX (nI tr, tz_F cc, tz_F cs, tz_F ct, tz_F w, tz_F U, tz_F E) v1 v2 v3 := by
  unfold wpX_within
  dsimp only
  by_cases h1 : tz_in v1 8
  · by_cases h2 : tz_in v2 1000
    · exact xs_sT h1 (xs_tT h2 (xs_tF (fun h3 => h ⟨h1, h2, h3⟩) k))
    · exact xs_sT h1 (xs_tF h2 k)
  · exact xs_sF h1 k
theorem ys_wit_f (h : ¬ (tz_in v1 8 ∧ tz_in v2 1000 ∧ tz_in v3 1000)) (k : pY (-1) (nI tr, tz_F cc, tz_F cs, tz_F ct, tz_F w, tz_F O, tz_F T)) : wpY_within pY (nI tr, tz_F cc, tz_F cs, tz_F ct, tz_F w, tz_F O, tz_F T) v1 v2 v3 := by
  unfold wpY_within
  dsimp only
  by_cases h1 : tz_in v1 8
  · by_cases h2 : tz_in v2 1000
    · exact ys_sT h1 (ys_tT h2 (ys_tF (fun h3 => h ⟨h1, h2, h3⟩) k))
    · exact ys_sT h1 (ys_tF h2 k)
  · exact ys_sF h1 k
theorem xs_wit37 {f : Nat → Nat} (hy : y ≤ 999) (hE : ∀ s, s < 8 → E s = f s) (hb : ∀ s, s < 8 → E s ≤ 1000000) (k : pX (tz_set f y 8) (nI tr, tz_F cc, tz_F cs, tz_F ct, tz_F w, tz_F U, tz_F E)) :
    ∀ n s, 8 < n + s → s ≤ 8 → wX_within_37 pX (nI y) (nI tr) (tz_F cc) (tz_F cs) (tz_F ct) (tz_F w) (tz_F U) (tz_F E) n (tz_set f y s) (nI s) := by
  intro n
  induction n with
  | zero =>
    intro s h1 h2
    omega
  | succ n ih =>
    intro s h1 h2
    refine pk_le 8 s (fun h => ?_) (fun h => ?_)
    · obtain rfl : s = 8 := by omega
      exact k
    · have kk := ih (s + 1) (by omega) (by omega)
      have e := hE s h
      have hb' := hb s h
      refine ⟨pk_in s 8 h, pk_lt y (E s) (fun h4 => ?_) (fun h4 => ?_) rfl (tz_at E s)⟩
      · have e2 : tz_set f y (s + 1) = tz_set f y s := if_neg (by omega)
        rw [e2] at kk
        exact nm_r (nI_1 s) kk
      · have e2 : tz_set f y (s + 1) = tz_set f y s ||| (1 <<< (nI s &&& 31)) := if_pos (by omega)
        rw [e2] at kk
        exact nm_e (nm_r (nI_1 s) kk)
theorem xs_wit_t {f : Nat → Nat} (hI : tz_I tr cc cs ct w) (ha : a < 8) (ht : t ≤ 999) (hy : y ≤ 999) (hf : f = tz_EX cs ct cc w tr a t 10) (k : ∀ U E, pX (tz_set f y 8) (nI tr, tz_F cc, tz_F cs, tz_F ct, tz_F w, tz_F U, tz_F E)) : wpX_within pX (nI tr, tz_F cc, tz_F cs, tz_F ct, tz_F w, tz_F U, tz_F E) (nI a) (nI t) (nI y) := by
  unfold wpX_within
  dsimp only
  refine xs_sT ⟨a, ha, rfl⟩ (xs_tT ⟨t, by omega, rfl⟩ (xs_tT ⟨y, by omega, rfl⟩ ?_))
  refine xs_search (R := 10) hI ha ht (by omega) (fun U' E' hU hE => ?_)
  exact ⟨9, xs_wit37 hy (fun s hs => by rw [hf]; exact tz_XE_u hE (tz_EXb hI ha ht 10) hs) (xs_EE hE) (k U' E') 9 0 (by omega) (by omega)⟩
theorem ys_wit38 {f : Nat → Nat} (hy : y ≤ 999) (hT : tz_YR cs ct cc w tr a t 11 O T) (hf : ∀ s, s < 8 → (f s ≤ y ↔ tz_b T s (10 + 1) ≤ y)) (k : pY (tz_set f y 8) (nI tr, tz_F cc, tz_F cs, tz_F ct, tz_F w, tz_F O, tz_F T)) :
    ∀ n s, 8 < n + s → s ≤ 8 → wY_within_38 pY (nI y) (nI tr) (tz_F cc) (tz_F cs) (tz_F ct) (tz_F w) (tz_F O) (tz_F T) n (tz_set f y s) (nI s) := by
  intro n
  induction n with
  | zero =>
    intro s h1 h2
    omega
  | succ n ih =>
    intro s h1 h2
    refine pk_le 8 s (fun h => ?_) (fun h => ?_)
    · obtain rfl : s = 8 := by omega
      exact k
    · have kk := ih (s + 1) (by omega) (by omega)
      have e := hf s h
      have hub : tz_b T s (10 + 1) ≤ 100000 := ys_ub
      refine ys_best (R := 10) h (by omega) hT (pk_lt y (tz_b T s (10 + 1)) (fun h4 => ?_) (fun h4 => ?_))
      · have e2 : tz_set f y (s + 1) = tz_set f y s := if_neg (fun z => absurd (e.mp z) (by omega))
        rw [e2] at kk
        exact nm_r (nI_1 s) kk
      · have e2 : tz_set f y (s + 1) = tz_set f y s ||| (1 <<< (nI s &&& 31)) := if_pos (e.mpr h4)
        rw [e2] at kk
        exact nm_e (nm_r (nI_1 s) kk)
theorem ys_wit_t {f : Nat → Nat} (hI : tz_I tr cc cs ct w) (ha : a < 8) (ht : t ≤ 999) (hy : y ≤ 999) (hf : f = tz_EX cs ct cc w tr a t 10) (k : ∀ O T, pY (tz_set f y 8) (nI tr, tz_F cc, tz_F cs, tz_F ct, tz_F w, tz_F O, tz_F T)) : wpY_within pY (nI tr, tz_F cc, tz_F cs, tz_F ct, tz_F w, tz_F O, tz_F T) (nI a) (nI t) (nI y) := by
  unfold wpY_within
  dsimp only
  refine ys_sT ⟨a, ha, rfl⟩ (ys_tT ⟨t, by omega, rfl⟩ (ys_tT ⟨y, by omega, rfl⟩ ?_))
  refine ys_search hI ha ht (fun O' T' hT => ?_)
  refine ⟨9, ys_wit38 hy hT (fun s hs => ?_) (k O' T') 9 0 (by omega) (by omega)⟩
  rw [hf]
  exact tz_sim_le (tz_sim_k hs (Nat.le_refl 10) (tz_EXb hI ha ht 10) hT) hy
end
