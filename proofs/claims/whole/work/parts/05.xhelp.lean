/-! the component's private methods -/
theorem xs_stop_t {post : Int32 → Prop} {x : Int32} (h : tz_in x 8) (k : post 1) : wpX_isStop post x := by
  obtain ⟨s, hs, rfl⟩ := h
  exact br_f (nI_pos (by omega)) (br_f (nI_ge (b := 8) hs (by decide)) k)
theorem xs_stop_f {post : Int32 → Prop} {x : Int32} (h : ¬ tz_in x 8) (k : post 0) : wpX_isStop post x :=
  br_c (fun _ => k) (fun h0 => br_t (Int32.not_lt.mp (tz_in_f (n := 8) (by decide) h h0)) k)
theorem xs_time_t {post : Int32 → Prop} {x : Int32} (h : tz_in x 1000) (k : post 1) : wpX_isTime post x := by
  obtain ⟨s, hs, rfl⟩ := h
  exact br_f (nI_pos (by omega)) (br_f (nI_nlt (a := 999) (by omega) (by decide)) k)
theorem tz_999 {x : Int32} (h : ¬ tz_in x 1000) (h0 : ¬ x < 0) : (999 : Int32) < x := by
  obtain ⟨j, hj, rfl⟩ := nI_of h0
  have h1 : ¬ j < 1000 := fun z => h ⟨j, z, rfl⟩
  exact nI_lt (a := 999) (by omega) hj
theorem xs_time_f {post : Int32 → Prop} {x : Int32} (h : ¬ tz_in x 1000) (k : post 0) : wpX_isTime post x :=
  br_c (fun _ => k) (fun h0 => br_t (tz_999 h h0) k)
theorem xs_b1 {A B : Prop} (k : B) : ((1 : Int32) = 0 → A) ∧ (¬ (1 : Int32) = 0 → B) := br_f (by decide) k
theorem xs_b0 {A B : Prop} (k : A) : ((0 : Int32) = 0 → A) ∧ (¬ (0 : Int32) = 0 → B) := br_t rfl k
theorem xs_sT {A B : Prop} {x : Int32} (h : tz_in x 8) (k : B) : wpX_isStop (fun r => (r = 0 → A) ∧ (¬ r = 0 → B)) x := xs_stop_t h (xs_b1 k)
theorem xs_sF {A B : Prop} {x : Int32} (h : ¬ tz_in x 8) (k : A) : wpX_isStop (fun r => (r = 0 → A) ∧ (¬ r = 0 → B)) x := xs_stop_f h (xs_b0 k)
theorem xs_tT {A B : Prop} {x : Int32} (h : tz_in x 1000) (k : B) : wpX_isTime (fun r => (r = 0 → A) ∧ (¬ r = 0 → B)) x := xs_time_t h (xs_b1 k)
theorem xs_tF {A B : Prop} {x : Int32} (h : ¬ tz_in x 1000) (k : A) : wpX_isTime (fun r => (r = 0 → A) ∧ (¬ r = 0 → B)) x := xs_time_f h (xs_b0 k)
section
variable {tr : Nat} {cc cs ct w U E : Nat → Nat}
theorem xs_iT {A B : Prop} {x : Int32} (ht : tr ≤ 10) (h : tz_in x tr) (k : B) : wpX_isTrip (fun r => (r = 0 → A) ∧ (¬ r = 0 → B)) (nI tr, tz_F cc, tz_F cs, tz_F ct, tz_F w, tz_F U, tz_F E) x := by
  obtain ⟨s, hs, rfl⟩ := h
  exact br_f (nI_pos (by omega)) (br_f (nI_ge hs (by omega)) (xs_b1 k))
theorem xs_iF {A B : Prop} {x : Int32} (ht : tr ≤ 10) (h : ¬ tz_in x tr) (k : A) : wpX_isTrip (fun r => (r = 0 → A) ∧ (¬ r = 0 → B)) (nI tr, tz_F cc, tz_F cs, tz_F ct, tz_F w, tz_F U, tz_F E) x :=
  br_c (fun _ => xs_b0 k) (fun h0 => br_t (Int32.not_lt.mp (tz_in_f (n := tr) (by omega) h h0)) (xs_b0 k))
/-- spreadWalks -/
theorem xs_sp22 {post : SX → Prop} {J2 : Int32 → (Nat → Int32) → (Nat → Int32) → (Nat → Int32) → (Nat → Int32) → (Nat → Int32) → (Nat → Int32) → Prop} {s : Nat} (hs : s < 8) (hw : ∀ j, w j ≤ 99) (hU : ∀ q, q < 8 → U q ≤ 1000000)
    (k : J2 (nI (s + 1)) (tz_F cc) (tz_F cs) (tz_F ct) (tz_F w) (tz_F U) (tz_F (tz_u E s (tz_sp w U s 8)))) :
    ∀ n f, 8 < n + f → f ≤ 8 → wX_spreadWalks_22 post J2 (nI s) (nI tr) n (nI f) (tz_F cc) (tz_F cs) (tz_F ct) (tz_F w) (tz_F U) (tz_F (tz_u E s (tz_sp w U s f))) := by
  intro n
  induction n with
  | zero =>
    intro f h1 h2
    omega
  | succ n ih =>
    intro f h1 h2
    refine pk_le 8 f (fun h => ?_) (fun h => ?_)
    · obtain rfl : f = 8 := by omega
      exact nm_r (nI_1 s) k
    · have kk := ih (f + 1) (by omega) (by omega)
      have hwf := hw (f * 8 + s)
      have hUf := hU f h
      have hsp : tz_sp w U s f ≤ 1000000 := tz_sp_ub (hU s hs)
      refine ⟨pk_in (f * 8 + s) 64 (by omega) (tz_i8 f s), tz_rd w (f * 8 + s) ?_ (tz_i8 f s)⟩
      refine pk_le (w (f * 8 + s)) 0 (fun h3 => ?_) (fun h3 => ?_)
      · have e : tz_sp w U s (f + 1) = tz_sp w U s f := if_neg (by omega)
        rw [e] at kk
        exact nm_r (nI_1 f) kk
      · have ex : tz_F (tz_u E s (tz_sp w U s f)) (nI s).toNatClampNeg = nI (tz_sp w U s f) := (tz_at _ s).trans (congrArg nI (tz_us E s _))
        have ey : tz_F U (nI f).toNatClampNeg + nI (w (f * 8 + s)) = nI (U f + w (f * 8 + s)) := by rw [tz_at U f, nI_add]
        refine ⟨pk_in f 8 h, pk_in s 8 hs, pk_le (tz_sp w U s f) (U f + w (f * 8 + s)) (fun h4 => ?_) (fun h4 => ?_) ex ey⟩
        · have e : tz_sp w U s (f + 1) = tz_sp w U s f := if_neg (by omega)
          rw [e] at kk
          exact nm_r (nI_1 f) kk
        · have e : tz_sp w U s (f + 1) = U f + w (f * 8 + s) := if_pos (And.intro h3 h4)
          rw [e, ← tz_uu E s (tz_sp w U s f)] at kk
          exact ⟨pk_in f 8 h, pk_in s 8 hs, tz_st _ s (U f + w (f * 8 + s)) (nm_r (nI_1 f) kk) rfl ey⟩
theorem xs_sp2 {post : SX → Prop} (hw : ∀ j, w j ≤ 99) (hU : ∀ q, q < 8 → U q ≤ 1000000)
    (k : ∀ E', (∀ s, s < 8 → E' s = tz_sp w U s 8) → post (nI tr, tz_F cc, tz_F cs, tz_F ct, tz_F w, tz_F U, tz_F E')) :
    ∀ n s E, 8 < n + s → s ≤ 8 → (∀ q, q < s → E q = tz_sp w U q 8) → wX_spreadWalks_2 post (nI tr) n (nI s) (tz_F cc) (tz_F cs) (tz_F ct) (tz_F w) (tz_F U) (tz_F E) := by
  intro n
  induction n with
  | zero =>
    intro s E h1 h2
    omega
  | succ n ih =>
    intro s E h1 h2 h3
    refine pk_le 8 s (fun h => ?_) (fun h => ?_)
    · exact k E (fun q hq => h3 q (by omega))
    · refine ⟨pk_in s 8 h, pk_in s 8 h, tz_st E s (U s) ?_ rfl (tz_at U s)⟩
      refine ⟨9, xs_sp22 h hw hU (ih (s + 1) _ (by omega) (by omega) (fun q hq => ?_)) 9 0 (by omega) (by omega)⟩
      by_cases e : q = s
      · subst e
        exact tz_us _ _ _
      · rw [tz_un _ _ _ _ e]
        exact h3 q (by omega)
theorem xs_spread {post : SX → Prop} (hw : ∀ j, w j ≤ 99) (hU : ∀ q, q < 8 → U q ≤ 1000000)
    (k : ∀ E', (∀ s, s < 8 → E' s = tz_sp w U s 8) → post (nI tr, tz_F cc, tz_F cs, tz_F ct, tz_F w, tz_F U, tz_F E')) : wpX_spreadWalks post (nI tr, tz_F cc, tz_F cs, tz_F ct, tz_F w, tz_F U, tz_F E) :=
  ⟨9, xs_sp2 hw hU k 9 0 E (by omega) (by omega) (fun q hq => absurd hq (Nat.not_lt_zero q))⟩
/-- startAt -/
theorem xs_st2 {post : SX → Prop} {a t : Nat} (hw : ∀ j, w j ≤ 99) (ha : a < 8) (ht : t ≤ 999)
    (k : ∀ U E, (∀ s, s < 8 → U s = if s = a then t else 1000000) → (∀ s, s < 8 → E s = tz_sp w U s 8) → post (nI tr, tz_F cc, tz_F cs, tz_F ct, tz_F w, tz_F U, tz_F E)) :
    ∀ n s U, 8 < n + s → s ≤ 8 → (∀ q, q < s → U q = 1000000) → wX_startAt_2 post (nI a) (nI t) (nI tr) n (nI s) (tz_F cc) (tz_F cs) (tz_F ct) (tz_F w) (tz_F U) (tz_F E) := by
  intro n
  induction n with
  | zero =>
    intro s U h1 h2
    omega
  | succ n ih =>
    intro s U h1 h2 h3
    refine pk_le 8 s (fun h => ?_) (fun h => ?_)
    · have hX : ∀ q, q < 8 → tz_u U a t q = if q = a then t else 1000000 := by
        intro q hq
        by_cases e : q = a
        · rw [if_pos e, e, tz_us]
        · rw [if_neg e, tz_un _ _ _ _ e]
          exact h3 q (by omega)
      refine ⟨pk_in a 8 ha, tz_st U a t ?_⟩
      refine xs_spread hw (fun q hq => ?_) (fun E' hE' => k _ E' hX hE')
      rw [hX q hq]
      split <;> omega
    · refine ⟨pk_in s 8 h, tz_st U s 1000000 (nm_r (nI_1 s) (ih (s + 1) _ (by omega) (by omega) (fun q hq => ?_)))⟩
      by_cases e : q = s
      · subst e
        exact tz_us _ _ _
      · rw [tz_un _ _ _ _ e]
        exact h3 q (by omega)
theorem xs_start {post : SX → Prop} {a t : Nat} (hw : ∀ j, w j ≤ 99) (ha : a < 8) (ht : t ≤ 999)
    (k : ∀ U E, (∀ s, s < 8 → U s = if s = a then t else 1000000) → (∀ s, s < 8 → E s = tz_sp w U s 8) → post (nI tr, tz_F cc, tz_F cs, tz_F ct, tz_F w, tz_F U, tz_F E)) : wpX_startAt post (nI tr, tz_F cc, tz_F cs, tz_F ct, tz_F w, tz_F U, tz_F E) (nI a) (nI t) :=
  ⟨9, xs_st2 hw ha ht k 9 0 U (by omega) (by omega) (fun q hq => absurd hq (Nat.not_lt_zero q))⟩
end
/-- rideTrip -/
def xs_B : Bool → Int32
  | true => 1
  | false => 0
theorem xs_B1 {b : Bool} (h : b = true) : ¬ xs_B b = 0 := by
  rw [h]
  decide
theorem xs_B0 {b : Bool} (h : ¬ b = true) : xs_B b = 0 := by
  cases b with
  | true => exact absurd rfl h
  | false => rfl
section
variable {tr : Nat} {cc cs ct w U E : Nat → Nat}
theorem xs_r63 {post : SX → Prop} {J4 : Int32 → Int32 → (Nat → Int32) → (Nat → Int32) → (Nat → Int32) → (Nat → Int32) → (Nat → Int32) → (Nat → Int32) → Prop} {x1 : Int32} {b : Bool} {c s t : Nat} (hs : s < 8) (ht : t ≤ 999) (hE : E s ≤ 1000000)
    (k : J4 (xs_B (if E s ≤ t then true else b)) (nI (c + 1)) (tz_F cc) (tz_F cs) (tz_F ct) (tz_F w) (tz_F U) (tz_F E)) : wX_rideTrip_63 post J4 x1 (xs_B b) (nI c) (nI s) (nI t) (nI tr) (tz_F cc) (tz_F cs) (tz_F ct) (tz_F w) (tz_F U) (tz_F E) := by
  refine ⟨pk_in s 8 hs, pk_lt t (E s) (fun h => nm_r (nI_1 c) ?_) (fun h => nm_r (nI_1 c) ?_) rfl (tz_at E s)⟩
  · rw [if_neg (by omega)] at k
    exact k
  · rw [if_pos h] at k
    exact k
theorem xs_ride4 {post : SX → Prop} {i : Nat} (hi : i < 10) (hcc : ∀ j, cc j ≤ 5) (hcs : ∀ j, cs j < 8) (hct : ∀ j, ct j ≤ 999) (hE : ∀ q, q < 8 → E q ≤ 1000000) (hU : ∀ q, q < 8 → U q ≤ 1000000)
    (k : post (nI tr, tz_F cc, tz_F cs, tz_F ct, tz_F w, tz_F (tz_rt cs ct E (i * 5) U (cc i)), tz_F E)) :
    ∀ n c, cc i < n + c → c ≤ cc i → wX_rideTrip_4 post (nI i) (nI tr) n (xs_B (tz_ab cs ct E (i * 5) c)) (nI c) (tz_F cc) (tz_F cs) (tz_F ct) (tz_F w) (tz_F (tz_rt cs ct E (i * 5) U c)) (tz_F E) := by
  intro n
  induction n with
  | zero =>
    intro c h1 h2
    omega
  | succ n ih =>
    intro c h1 h2
    have h5 := hcc i
    refine ⟨pk_in i 10 hi, pk_le (cc i) c (fun h => ?_) (fun h => ?_) (tz_at cc i) rfl⟩
    · obtain rfl : c = cc i := by omega
      exact k
    · have kk := ih (c + 1) (by omega) (by omega)
      have hc8 := hcs (i * 5 + c)
      have ht9 := hct (i * 5 + c)
      have hrt : tz_rt cs ct E (i * 5) U c (cs (i * 5 + c)) ≤ 1000000 := tz_rt_ub (hU _ hc8)
      refine ⟨pk_in (i * 5 + c) 50 (by omega) (tz_i5 i c), tz_rd cs (i * 5 + c) ?_ (tz_i5 i c)⟩
      refine ⟨pk_in (i * 5 + c) 50 (by omega) (tz_i5 i c), tz_rd ct (i * 5 + c) ?_ (tz_i5 i c)⟩
      by_cases hb : tz_ab cs ct E (i * 5) c = true
      · refine br_f (xs_B1 hb) ⟨pk_in _ 8 hc8, pk_le (tz_rt cs ct E (i * 5) U c (cs (i * 5 + c))) (ct (i * 5 + c)) (fun h2 => ?_) (fun h2 => ?_) (tz_at _ _) rfl⟩
        · have e : tz_rt cs ct E (i * 5) U (c + 1) = tz_rt cs ct E (i * 5) U c := if_neg (fun z => absurd z.2 (by omega))
          rw [e] at kk
          exact xs_r63 hc8 ht9 (hE _ hc8) kk
        · have e : tz_rt cs ct E (i * 5) U (c + 1) = tz_u (tz_rt cs ct E (i * 5) U c) (cs (i * 5 + c)) (ct (i * 5 + c)) := if_pos (And.intro hb h2)
          rw [e] at kk
          exact ⟨pk_in _ 8 hc8, tz_st _ (cs (i * 5 + c)) (ct (i * 5 + c)) (xs_r63 hc8 ht9 (hE _ hc8) kk)⟩
      · have e : tz_rt cs ct E (i * 5) U (c + 1) = tz_rt cs ct E (i * 5) U c := if_neg (fun z => hb z.1)
        rw [e] at kk
        exact br_t (xs_B0 hb) (xs_r63 hc8 ht9 (hE _ hc8) kk)
theorem xs_ride {post : SX → Prop} {i : Nat} (hi : i < 10) (hcc : ∀ j, cc j ≤ 5) (hcs : ∀ j, cs j < 8) (hct : ∀ j, ct j ≤ 999) (hE : ∀ q, q < 8 → E q ≤ 1000000) (hU : ∀ q, q < 8 → U q ≤ 1000000)
    (k : post (nI tr, tz_F cc, tz_F cs, tz_F ct, tz_F w, tz_F (tz_rt cs ct E (i * 5) U (cc i)), tz_F E)) : wpX_rideTrip post (nI tr, tz_F cc, tz_F cs, tz_F ct, tz_F w, tz_F U, tz_F E) (nI i) :=
  ⟨cc i + 1, xs_ride4 hi hcc hcs hct hE hU k (cc i + 1) 0 (by omega) (by omega)⟩
/-- addRide -/
theorem xs_add2 {post : SX → Prop} (hI : tz_I tr cc cs ct w) (hE : ∀ q, q < 8 → E q ≤ 1000000) (hU : ∀ q, q < 8 → U q ≤ 1000000)
    (k : ∀ E', (∀ s, s < 8 → E' s = tz_sp w (tz_xr cs ct cc E U tr) s 8) → post (nI tr, tz_F cc, tz_F cs, tz_F ct, tz_F w, tz_F (tz_xr cs ct cc E U tr), tz_F E')) :
    ∀ n i, tr < n + i → i ≤ tr → wX_addRide_2 post n (nI i) (nI tr) (tz_F cc) (tz_F cs) (tz_F ct) (tz_F w) (tz_F (tz_xr cs ct cc E U i)) (tz_F E) := by
  obtain ⟨g1, g2, g3, g4, g5, g6, g7⟩ := hI
  intro n
  induction n with
  | zero =>
    intro i h1 h2
    omega
  | succ n ih =>
    intro i h1 h2
    refine pk_le tr i (fun h => ?_) (fun h => ?_)
    · obtain rfl : i = tr := by omega
      exact xs_spread g5 (fun q hq => tz_xr_ub (hU q hq)) (fun E' hE' => k E' hE')
    · exact xs_ride (by omega) g2 g3 g4 hE (fun q hq => tz_xr_ub (hU q hq)) (nm_r (nI_1 i) (ih (i + 1) (by omega) (by omega)))
theorem xs_add {post : SX → Prop} (hI : tz_I tr cc cs ct w) (hE : ∀ q, q < 8 → E q ≤ 1000000) (hU : ∀ q, q < 8 → U q ≤ 1000000)
    (k : ∀ E', (∀ s, s < 8 → E' s = tz_sp w (tz_xr cs ct cc E U tr) s 8) → post (nI tr, tz_F cc, tz_F cs, tz_F ct, tz_F w, tz_F (tz_xr cs ct cc E U tr), tz_F E')) : wpX_addRide post (nI tr, tz_F cc, tz_F cs, tz_F ct, tz_F w, tz_F U, tz_F E) :=
  ⟨tr + 1, xs_add2 hI hE hU k (tr + 1) 0 (by omega) (by omega)⟩
end
section
variable {tr a t : Nat} {cc cs ct w U E : Nat → Nat}
theorem xs_UE {k : Nat} (hU : tz_XU cs ct cc w tr a t k U) : ∀ q, q < 8 → U q ≤ 1000000 := fun q hq => by
  have h := hU.2 q hq
  omega
theorem xs_EE {k : Nat} (hE : tz_XE cs ct cc w tr a t k E) : ∀ q, q < 8 → E q ≤ 1000000 := fun q hq => by
  have h := hE.2 q hq
  omega
/-- one ride more -/
theorem xs_addk {post : SX → Prop} {j : Nat} (hI : tz_I tr cc cs ct w) (hU : tz_XU cs ct cc w tr a t j U) (hE : tz_XE cs ct cc w tr a t j E)
    (k : ∀ U' E', tz_XU cs ct cc w tr a t (j + 1) U' → tz_XE cs ct cc w tr a t (j + 1) E' → post (nI tr, tz_F cc, tz_F cs, tz_F ct, tz_F w, tz_F U', tz_F E')) : wpX_addRide post (nI tr, tz_F cc, tz_F cs, tz_F ct, tz_F w, tz_F U, tz_F E) := by
  have h := tz_XU_s hI.2.2.1 hI.2.2.2.1 hU hE
  exact xs_add hI (xs_EE hE) (xs_UE hU) (fun E' hE' => k _ E' h (tz_XE_k hI.2.2.2.2.1 h hE'))
theorem xs_startk {post : SX → Prop} (hI : tz_I tr cc cs ct w) (ha : a < 8) (ht : t ≤ 999)
    (k : ∀ U' E', tz_XU cs ct cc w tr a t 0 U' → tz_XE cs ct cc w tr a t 0 E' → post (nI tr, tz_F cc, tz_F cs, tz_F ct, tz_F w, tz_F U', tz_F E')) : wpX_startAt post (nI tr, tz_F cc, tz_F cs, tz_F ct, tz_F w, tz_F U, tz_F E) (nI a) (nI t) :=
  xs_start hI.2.2.2.2.1 ha ht (fun U' E' h1 h2 => k U' E' (tz_XU_0 ha ht h1) (tz_XE_k hI.2.2.2.2.1 (tz_XU_0 ha ht h1) h2))
theorem xs_sr9 {post : SX → Prop} {R : Nat} (hI : tz_I tr cc cs ct w) (hR : R ≤ 10)
    (k : ∀ U E, tz_XU cs ct cc w tr a t R U → tz_XE cs ct cc w tr a t R E → post (nI tr, tz_F cc, tz_F cs, tz_F ct, tz_F w, tz_F U, tz_F E)) :
    ∀ n j U E, R < n + j → j ≤ R → tz_XU cs ct cc w tr a t j U → tz_XE cs ct cc w tr a t j E → wX_search_9 post (nI R) n (nI j) (nI tr) (tz_F cc) (tz_F cs) (tz_F ct) (tz_F w) (tz_F U) (tz_F E) := by
  intro n
  induction n with
  | zero =>
    intro j U E h1 h2
    omega
  | succ n ih =>
    intro j U E h1 h2 hU hE
    refine pk_le R j (fun h => ?_) (fun h => ?_)
    · obtain rfl : j = R := by omega
      exact k U E hU hE
    · exact xs_addk hI hU hE (fun U' E' hU' hE' => nm_r (nI_1 j) (ih (j + 1) U' E' (by omega) (by omega) hU' hE'))
theorem xs_search {post : SX → Prop} {R : Nat} (hI : tz_I tr cc cs ct w) (ha : a < 8) (ht : t ≤ 999) (hR : R ≤ 10)
    (k : ∀ U E, tz_XU cs ct cc w tr a t R U → tz_XE cs ct cc w tr a t R E → post (nI tr, tz_F cc, tz_F cs, tz_F ct, tz_F w, tz_F U, tz_F E)) : wpX_search post (nI tr, tz_F cc, tz_F cs, tz_F ct, tz_F w, tz_F U, tz_F E) (nI a) (nI t) (nI R) := by
  unfold wpX_search
  dsimp only
  exact xs_startk hI ha ht (fun U' E' hU hE => ⟨R + 1, xs_sr9 hI hR k (R + 1) 0 U' E' (by omega) (by omega) hU hE⟩)
end
