section
theorem pk_us {f : Nat → Int32} {k : Nat} {x : Int32} : upd f k x k = x := if_pos rfl
theorem pk_un {f : Nat → Int32} {k j : Nat} {x : Int32} (h : j ≠ k) : upd f k x j = f j := if_neg h
theorem pk_sub {a b : Nat} (h : b ≤ a) : nI a - nI b = nI (a - b) := by
  obtain ⟨c, rfl⟩ : ∃ c, a = c + b := ⟨a - b, by omega⟩
  rw [← nI_add, Int32.add_sub_cancel, Nat.add_sub_cancel]
theorem pk_m1 (n : Nat) : nI (n + 1) + (-1) = nI n := by
  rw [← nI_1, Int32.add_assoc, show (1 : Int32) + (-1) = 0 from rfl, Int32.add_zero]
theorem pk_mul (a b : Nat) : nI a * nI b = nI (a * b) := (Int32.ofNat_mul a b).symm
theorem pk_div {a d : Nat} (ha : a < 2 ^ 31) (h0 : 0 < d) (hd : d < 2 ^ 31) : nI a / nI d = nI (a / d) := by
  apply Int32.toInt_inj.mp
  rw [lg_idiv_nonneg (by rw [nI_toInt ha]; omega) (by rw [nI_toInt hd]; omega), nI_toInt ha, nI_toInt hd, nI_toInt (Nat.lt_of_le_of_lt (Nat.div_le_self a d) ha)]
  first | rfl | exact (Int.natCast_ediv _ _).symm
theorem pk_rem {a d : Nat} (ha : a < 2 ^ 31) (h0 : 0 < d) (hd : d < 2 ^ 31) : nI a - nI a / nI d * nI d = nI (a % d) := by
  rw [pk_div ha h0 hd, pk_mul, pk_sub (Nat.div_mul_le_self a d)]
  exact congrArg nI (by have := Nat.div_add_mod' a d; omega)
theorem pk_sub_toInt {a b : Nat} (ha : a < 2 ^ 30) (hb : b < 2 ^ 30) : (nI a - nI b).toInt = (a : Int) - b := by
  rw [Int32.toInt_sub, nI_toInt (by omega), nI_toInt (by omega)]
  exact Int.bmod_eq_of_le (by omega) (by omega)
theorem pk_sneg {a b : Nat} (hb : b < 2 ^ 30) (h : a < b) : nI a - nI b < 0 := by
  rw [Int32.lt_iff_toInt_lt, pk_sub_toInt (by omega) hb, show (0 : Int32).toInt = 0 from by decide]
  omega
theorem pk_ix (x : Int32) {n : Nat} (hn : n < 2 ^ 31) : x < 0 ∨ nI n ≤ x ∨ ∃ j : Nat, j < n ∧ x = nI j := by
  by_cases h : x < 0
  · exact Or.inl h
  · obtain ⟨j, hj, rfl⟩ := nI_of h
    by_cases h2 : j < n
    · exact Or.inr (Or.inr ⟨j, h2, rfl⟩)
    · exact Or.inr (Or.inl (nI_le (by omega) hj))
theorem pk_le {x y : Int32} {A B : Prop} (a b : Nat) (f : a ≤ b → A) (g : b < a → B) (hx : x = nI a := by rfl) (hy : y = nI b := by rfl) (ha : a < 2 ^ 31 := by omega) (hb : b < 2 ^ 31 := by omega) : (x ≤ y → A) ∧ (¬ x ≤ y → B) := by
  subst hx hy
  rw [nI_leI ha hb]
  exact ⟨f, fun z => g (by omega)⟩
theorem pk_lt {x y : Int32} {A B : Prop} (a b : Nat) (f : a < b → A) (g : b ≤ a → B) (hx : x = nI a := by rfl) (hy : y = nI b := by rfl) (ha : a < 2 ^ 31 := by omega) (hb : b < 2 ^ 31 := by omega) : (x < y → A) ∧ (¬ x < y → B) := by
  subst hx hy
  rw [nI_ltI ha hb]
  exact ⟨f, fun z => g (by omega)⟩
theorem pk_eq {x y : Int32} {A B : Prop} (a b : Nat) (f : a = b → A) (g : a ≠ b → B) (hx : x = nI a := by rfl) (hy : y = nI b := by rfl) (ha : a < 2 ^ 31 := by omega) (hb : b < 2 ^ 31 := by omega) : (x = y → A) ∧ (¬ x = y → B) := by
  subst hx hy
  rw [nI_eq ha hb]
  exact ⟨f, g⟩
theorem pk_in {x : Int32} (n N : Nat) (h : n < N) (hx : x = nI n := by rfl) (hN : N < 2 ^ 31 := by omega) : vp_in x N := by
  subst hx
  exact vp_in_nI h hN
theorem pk_cl {x : Int32} (n : Nat) (hx : x = nI n := by rfl) (h : n < 2 ^ 31 := by omega) : x.toNatClampNeg = n := by
  subst hx
  exact nI_clamp h
theorem pk_tn {n : Nat} (h : n < 2 ^ 32) : (nI n).toBitVec.toNat = n := Nat.mod_eq_of_lt h
theorem pk_loop {σ : Type} (W : Nat → Nat → σ → Prop) (I : Nat → σ → Prop) (e i0 : Nat) (s : σ) (hi : i0 ≤ e) (h0 : I i0 s) (hx : ∀ n s, I e s → W (n + 1) e s)
    (hs : ∀ n i s, i < e → I i s → (∀ s', I (i + 1) s' → W n (i + 1) s') → W (n + 1) i s) : ∃ n, W n i0 s :=
  ⟨e + 1, loop_i W I e hx hs (e + 1) i0 s hi (by omega) h0⟩
theorem pk_loopD {σ : Type} (W : Nat → Nat → σ → Prop) (I : Nat → σ → Prop) (hx : ∀ n s, I 0 s → W (n + 1) 0 s)
    (hs : ∀ n i s, I (i + 1) s → (∀ s', I i s' → W n i s') → W (n + 1) (i + 1) s) : ∀ (e : Nat) (s : σ), I e s → W (e + 1) e s := by
  intro e
  induction e with
  | zero => exact fun s h => hx 0 s h
  | succ e ih => exact fun s h => hs (e + 1) e s h (fun s' h' => ih s' h')
theorem ek_if {c d A B : Prop} (e : c ↔ d) (f : d → A) (g : ¬ d → B) : (c → A) ∧ (¬ c → B) :=
  ⟨fun z => f (e.mp z), fun z => g (fun y => z (e.mpr y))⟩
theorem ek_v {α : Sort _} {P : α → Prop} {a b : α} (e : a = b) (h : P b) : P a := e ▸ h
theorem sb_m1 {p : Nat} (h : 0 < p) : nI p + (-1) = nI (p - 1) := by
  obtain ⟨q, rfl⟩ : ∃ q, p = q + 1 := ⟨p - 1, by omega⟩
  exact pk_m1 q
/-! own rows: arrays as functions into the naturals -/
def tz_u (f : Nat → Nat) (k v : Nat) : Nat → Nat := fun j => if j = k then v else f j
def tz_F (f : Nat → Nat) : Nat → Int32 := fun j => nI (f j)
theorem tz_us (f : Nat → Nat) (k v : Nat) : tz_u f k v k = v := if_pos rfl
theorem tz_un (f : Nat → Nat) (k v j : Nat) (h : ¬ j = k) : tz_u f k v j = f j := if_neg h
theorem tz_Fu (f : Nat → Nat) (k v : Nat) : upd (tz_F f) k (nI v) = tz_F (tz_u f k v) := by
  funext j
  by_cases h : j = k
  · subst h
    rw [pk_us]
    exact congrArg nI (tz_us f j v).symm
  · rw [pk_un h]
    exact congrArg nI (tz_un f k v j h).symm
theorem tz_F0 : (fun _ => 0 : Nat → Int32) = tz_F (fun _ => 0) := by
  funext j
  exact nI_0.symm
/-- an index: its bound, its value -/
theorem tz_i5 (i k : Nat) : nI i * 5 + nI k = nI (i * 5 + k) := by
  rw [show (5 : Int32) = nI 5 from rfl, pk_mul, nI_add]
theorem tz_i8 (i k : Nat) : nI i * 8 + nI k = nI (i * 8 + k) := by
  rw [show (8 : Int32) = nI 8 from rfl, pk_mul, nI_add]
theorem tz_m5 (i : Nat) : nI i * 5 = nI (i * 5) := by
  rw [show (5 : Int32) = nI 5 from rfl, pk_mul]
theorem tz_m8 (i : Nat) : nI i * 8 = nI (i * 8) := by
  rw [show (8 : Int32) = nI 8 from rfl, pk_mul]
theorem tz_s1 {i : Nat} (h : 1 ≤ i) : nI i - 1 = nI (i - 1) := by
  rw [show (1 : Int32) = nI 1 from rfl, pk_sub h]
theorem tz_at (f : Nat → Nat) {x : Int32} (n : Nat) (hx : x = nI n := by rfl) (h : n < 2 ^ 31 := by omega) : tz_F f x.toNatClampNeg = nI (f n) := by
  subst hx
  rw [nI_clamp h]
  rfl
theorem tz_up (f : Nat → Nat) {x y : Int32} (n v : Nat) (hx : x = nI n := by rfl) (hy : y = nI v := by rfl) (h : n < 2 ^ 31 := by omega) : upd (tz_F f) x.toNatClampNeg y = tz_F (tz_u f n v) := by
  subst hx hy
  rw [nI_clamp h]
  exact tz_Fu f n v
/-- a name for a cell of an array -/
theorem tz_rd {P : Int32 → Prop} (f : Nat → Nat) {x : Int32} (n : Nat) (k : P (nI (f n))) (hx : x = nI n := by rfl) (h : n < 2 ^ 31 := by omega) : ∀ y, y = tz_F f x.toNatClampNeg → P y := by
  intro y ey
  rw [ey, tz_at f n hx h]
  exact k
/-- a name for an array after a store -/
theorem tz_st {P : (Nat → Int32) → Prop} (f : Nat → Nat) {x y : Int32} (n v : Nat) (k : P (tz_F (tz_u f n v))) (hx : x = nI n := by rfl) (hy : y = nI v := by rfl) (h : n < 2 ^ 31 := by omega) : ∀ a, a = upd (tz_F f) x.toNatClampNeg y → P a := by
  intro a ea
  rw [ea, tz_up f n v hx hy h]
  exact k
theorem tz_uu (f : Nat → Nat) (k v v' : Nat) : tz_u (tz_u f k v) k v' = tz_u f k v' := by
  funext j
  by_cases h : j = k
  · subst h
    rw [tz_us, tz_us]
  · rw [tz_un _ _ _ _ h, tz_un _ _ _ _ h, tz_un _ _ _ _ h]
end
section
/-! the mathematics of both searches: least times against thresholds -/
theorem tz_fold {v x : Nat → Nat} {c : Nat → Prop} (θ : Nat) (h1 : ∀ n, c n → x n < v n → v (n + 1) = x n) (h2 : ∀ n, (c n → ¬ x n < v n) → v (n + 1) = v n) (n : Nat) :
    v n ≤ θ ↔ v 0 ≤ θ ∨ ∃ u, u < n ∧ c u ∧ x u ≤ θ := by
  induction n with
  | zero => exact ⟨Or.inl, fun h => h.elim id (fun ⟨u, hu, _⟩ => absurd hu (Nat.not_lt_zero u))⟩
  | succ n ih =>
    by_cases hc : c n ∧ x n < v n
    · have hlt := hc.2
      rw [h1 n hc.1 hc.2]
      constructor
      · intro h'
        exact Or.inr ⟨n, Nat.lt_succ_self n, hc.1, h'⟩
      · intro h'
        rcases h' with h' | ⟨u, hu, h3, h4⟩
        · have h5 := ih.mpr (Or.inl h')
          omega
        · by_cases hun : u = n
          · subst hun
            exact h4
          · have h5 := ih.mpr (Or.inr ⟨u, by omega, h3, h4⟩)
            omega
    · rw [h2 n (fun a b => hc ⟨a, b⟩)]
      constructor
      · intro h'
        rcases ih.mp h' with h' | ⟨u, hu, h3⟩
        · exact Or.inl h'
        · exact Or.inr ⟨u, by omega, h3⟩
      · intro h'
        rcases h' with h' | ⟨u, hu, h3, h4⟩
        · exact ih.mpr (Or.inl h')
        · by_cases hun : u = n
          · subst hun
            have h5 : ¬ x u < v u := fun z => hc ⟨h3, z⟩
            omega
          · exact ih.mpr (Or.inr ⟨u, by omega, h3, h4⟩)
theorem tz_eqle {a b : Nat} (h : ∀ θ, a ≤ θ ↔ b ≤ θ) : a = b := by
  have h1 := (h b).mpr (Nat.le_refl b)
  have h2 := (h a).mp (Nat.le_refl a)
  omega
/-- one walk onwards -/
def tz_sp (w U : Nat → Nat) (s : Nat) : Nat → Nat
  | 0 => U s
  | n + 1 => if 0 < w (n * 8 + s) ∧ U n + w (n * 8 + s) < tz_sp w U s n then U n + w (n * 8 + s) else tz_sp w U s n
theorem tz_sp_le (w U : Nat → Nat) (s n θ : Nat) : tz_sp w U s n ≤ θ ↔ U s ≤ θ ∨ ∃ u, u < n ∧ 0 < w (u * 8 + s) ∧ U u + w (u * 8 + s) ≤ θ :=
  tz_fold (v := tz_sp w U s) (x := fun n => U n + w (n * 8 + s)) (c := fun n => 0 < w (n * 8 + s)) θ
    (fun n a b => if_pos ⟨a, b⟩) (fun n a => if_neg (fun z => a z.1 z.2)) n
/-- aboard behind k calls of the trip at b; the times behind them -/
def tz_ab (cs ct E : Nat → Nat) (b : Nat) : Nat → Bool
  | 0 => false
  | k + 1 => if E (cs (b + k)) ≤ ct (b + k) then true else tz_ab cs ct E b k
theorem tz_ab_iff (cs ct E : Nat → Nat) (b k : Nat) : tz_ab cs ct E b k = true ↔ ∃ c, c < k ∧ E (cs (b + c)) ≤ ct (b + c) := by
  induction k with
  | zero => exact ⟨fun h => (Bool.false_ne_true h).elim, fun ⟨c, hc, _⟩ => absurd hc (Nat.not_lt_zero c)⟩
  | succ k ih =>
    show (if E (cs (b + k)) ≤ ct (b + k) then true else tz_ab cs ct E b k) = true ↔ _
    by_cases h : E (cs (b + k)) ≤ ct (b + k)
    · rw [if_pos h]
      exact ⟨fun _ => ⟨k, Nat.lt_succ_self k, h⟩, fun _ => rfl⟩
    · rw [if_neg h, ih]
      constructor
      · rintro ⟨c, hc, h'⟩
        exact ⟨c, by omega, h'⟩
      · rintro ⟨c, hc, h'⟩
        by_cases hck : c = k
        · subst hck
          exact absurd h' h
        · exact ⟨c, by omega, h'⟩
def tz_rt (cs ct E : Nat → Nat) (b : Nat) (U : Nat → Nat) : Nat → Nat → Nat
  | 0 => U
  | k + 1 => if tz_ab cs ct E b k = true ∧ ct (b + k) < tz_rt cs ct E b U k (cs (b + k)) then tz_u (tz_rt cs ct E b U k) (cs (b + k)) (ct (b + k)) else tz_rt cs ct E b U k
theorem tz_rt_le (cs ct E : Nat → Nat) (b : Nat) (U : Nat → Nat) (k s θ : Nat) : tz_rt cs ct E b U k s ≤ θ ↔ U s ≤ θ ∨ ∃ c, c < k ∧ (tz_ab cs ct E b c = true ∧ cs (b + c) = s) ∧ ct (b + c) ≤ θ := by
  refine tz_fold (v := fun k => tz_rt cs ct E b U k s) (x := fun c => ct (b + c)) (c := fun c => tz_ab cs ct E b c = true ∧ cs (b + c) = s) θ ?_ ?_ k
  · intro n h1 h2
    obtain ⟨h1, h3⟩ := h1
    subst h3
    have h2 : ct (b + n) < tz_rt cs ct E b U n (cs (b + n)) := h2
    show (if tz_ab cs ct E b n = true ∧ ct (b + n) < tz_rt cs ct E b U n (cs (b + n)) then tz_u (tz_rt cs ct E b U n) (cs (b + n)) (ct (b + n)) else tz_rt cs ct E b U n) (cs (b + n)) = ct (b + n)
    rw [if_pos (And.intro h1 h2)]
    exact tz_us _ _ _
  · intro n h1
    show (if tz_ab cs ct E b n = true ∧ ct (b + n) < tz_rt cs ct E b U n (cs (b + n)) then tz_u (tz_rt cs ct E b U n) (cs (b + n)) (ct (b + n)) else tz_rt cs ct E b U n) s = tz_rt cs ct E b U n s
    by_cases h2 : tz_ab cs ct E b n = true ∧ ct (b + n) < tz_rt cs ct E b U n (cs (b + n))
    · rw [if_pos h2]
      refine tz_un _ _ _ _ (fun z => ?_)
      subst z
      exact h1 ⟨h2.1, rfl⟩ h2.2
    · rw [if_neg h2]
/-- the first i trips -/
def tz_xr (cs ct cc E U : Nat → Nat) : Nat → Nat → Nat
  | 0 => U
  | i + 1 => tz_rt cs ct E (i * 5) (tz_xr cs ct cc E U i) (cc i)
/-- a ride to s by θ, boarded where P lets one -/
def tz_R (cs ct cc : Nat → Nat) (tr : Nat) (P : Nat → Nat → Prop) (s θ : Nat) : Prop :=
  ∃ i d c, i < tr ∧ d < c ∧ c < cc i ∧ P (cs (i * 5 + d)) (ct (i * 5 + d)) ∧ cs (i * 5 + c) = s ∧ ct (i * 5 + c) ≤ θ
theorem tz_xr_le (cs ct cc E U : Nat → Nat) (tr s θ : Nat) : tz_xr cs ct cc E U tr s ≤ θ ↔ U s ≤ θ ∨ tz_R cs ct cc tr (fun q τ => E q ≤ τ) s θ := by
  induction tr with
  | zero => exact ⟨Or.inl, fun h => h.elim id (fun ⟨i, _, _, hi, _⟩ => absurd hi (Nat.not_lt_zero i))⟩
  | succ i ih =>
    show tz_rt cs ct E (i * 5) (tz_xr cs ct cc E U i) (cc i) s ≤ θ ↔ _
    rw [tz_rt_le, ih]
    constructor
    · rintro ((h | ⟨i', d, c, h1, h⟩) | ⟨c, hc, ⟨h1, h2⟩, h3⟩)
      · exact Or.inl h
      · exact Or.inr ⟨i', d, c, by omega, h⟩
      · obtain ⟨d, hd, h4⟩ := (tz_ab_iff _ _ _ _ _).mp h1
        exact Or.inr ⟨i, d, c, Nat.lt_succ_self i, hd, hc, h4, h2, h3⟩
    · rintro (h | ⟨i', d, c, h1, h2, h3, h4, h5, h6⟩)
      · exact Or.inl (Or.inl h)
      · by_cases hi : i' = i
        · subst hi
          exact Or.inr ⟨c, h3, ⟨(tz_ab_iff _ _ _ _ _).mpr ⟨d, h2, h4⟩, h5⟩, h6⟩
        · exact Or.inl (Or.inr ⟨i', d, c, by omega, h2, h3, h4, h5, h6⟩)
/-- the reference's ride from call k on: n calls behind it -/
def tz_yc (cs ct : Nat → Nat) (r b k : Nat) (O : Nat → Nat) : Nat → Nat → Nat
  | 0 => O
  | n + 1 => if ct (b + (k + 1 + n)) < tz_yc cs ct r b k O n (r * 8 + cs (b + (k + 1 + n))) then tz_u (tz_yc cs ct r b k O n) (r * 8 + cs (b + (k + 1 + n))) (ct (b + (k + 1 + n))) else tz_yc cs ct r b k O n
theorem tz_yc_le (cs ct : Nat → Nat) (r b k : Nat) (O : Nat → Nat) (n j θ : Nat) : tz_yc cs ct r b k O n j ≤ θ ↔ O j ≤ θ ∨ ∃ u, u < n ∧ r * 8 + cs (b + (k + 1 + u)) = j ∧ ct (b + (k + 1 + u)) ≤ θ := by
  refine tz_fold (v := fun n => tz_yc cs ct r b k O n j) (x := fun u => ct (b + (k + 1 + u))) (c := fun u => r * 8 + cs (b + (k + 1 + u)) = j) θ ?_ ?_ n
  · intro n h1 h2
    subst h1
    have h2 : ct (b + (k + 1 + n)) < tz_yc cs ct r b k O n (r * 8 + cs (b + (k + 1 + n))) := h2
    show (if ct (b + (k + 1 + n)) < tz_yc cs ct r b k O n (r * 8 + cs (b + (k + 1 + n))) then tz_u (tz_yc cs ct r b k O n) (r * 8 + cs (b + (k + 1 + n))) (ct (b + (k + 1 + n))) else tz_yc cs ct r b k O n) (r * 8 + cs (b + (k + 1 + n))) = ct (b + (k + 1 + n))
    rw [if_pos h2]
    exact tz_us _ _ _
  · intro n h1
    show (if ct (b + (k + 1 + n)) < tz_yc cs ct r b k O n (r * 8 + cs (b + (k + 1 + n))) then tz_u (tz_yc cs ct r b k O n) (r * 8 + cs (b + (k + 1 + n))) (ct (b + (k + 1 + n))) else tz_yc cs ct r b k O n) j = tz_yc cs ct r b k O n j
    by_cases h2 : ct (b + (k + 1 + n)) < tz_yc cs ct r b k O n (r * 8 + cs (b + (k + 1 + n)))
    · rw [if_pos h2]
      refine tz_un _ _ _ _ (fun z => ?_)
      subst z
      exact h1 rfl h2
    · rw [if_neg h2]
def tz_yr (cs ct cc T : Nat → Nat) (r i k : Nat) (O : Nat → Nat) : Nat → Nat :=
  if ct (i * 5 + k) < T ((r - 1) * 8 + cs (i * 5 + k)) then O else tz_yc cs ct r (i * 5) k O (cc i - (k + 1))
def tz_ym (cs ct cc T : Nat → Nat) (r : Nat) (O : Nat → Nat) : Nat → Nat → Nat
  | 0 => O
  | m + 1 => if m % 5 < cc (m / 5) then tz_yr cs ct cc T r (m / 5) (m % 5) (tz_ym cs ct cc T r O m) else tz_ym cs ct cc T r O m
theorem tz_yr_le (cs ct cc T : Nat → Nat) (r i k : Nat) (O : Nat → Nat) (j θ : Nat) : tz_yr cs ct cc T r i k O j ≤ θ ↔ O j ≤ θ ∨ ∃ c, k < c ∧ c < cc i ∧ T ((r - 1) * 8 + cs (i * 5 + k)) ≤ ct (i * 5 + k) ∧ r * 8 + cs (i * 5 + c) = j ∧ ct (i * 5 + c) ≤ θ := by
  unfold tz_yr
  by_cases h : ct (i * 5 + k) < T ((r - 1) * 8 + cs (i * 5 + k))
  · rw [if_pos h]
    exact ⟨Or.inl, fun z => z.elim id (fun ⟨c, _, _, h1, _⟩ => absurd h (by omega))⟩
  · rw [if_neg h, tz_yc_le]
    constructor
    · rintro (h1 | ⟨u, hu, h1, h2⟩)
      · exact Or.inl h1
      · exact Or.inr ⟨k + 1 + u, by omega, by omega, by omega, h1, h2⟩
    · rintro (h1 | ⟨c, hk, hc, _, h1, h2⟩)
      · exact Or.inl h1
      · obtain ⟨u, rfl⟩ : ∃ u, c = k + 1 + u := ⟨c - (k + 1), by omega⟩
        exact Or.inr ⟨u, by omega, h1, h2⟩
theorem tz_ym_le (cs ct cc T : Nat → Nat) (r : Nat) (O : Nat → Nat) (m j θ : Nat) : tz_ym cs ct cc T r O m j ≤ θ ↔ O j ≤ θ ∨ ∃ i d c, i * 5 + d < m ∧ d < 5 ∧ d < c ∧ c < cc i ∧ T ((r - 1) * 8 + cs (i * 5 + d)) ≤ ct (i * 5 + d) ∧ r * 8 + cs (i * 5 + c) = j ∧ ct (i * 5 + c) ≤ θ := by
  induction m with
  | zero => exact ⟨Or.inl, fun h => h.elim id (fun ⟨i, d, _, hi, _⟩ => absurd hi (Nat.not_lt_zero _))⟩
  | succ m ih =>
    have hdm : m / 5 * 5 + m % 5 = m := by omega
    show (if m % 5 < cc (m / 5) then tz_yr cs ct cc T r (m / 5) (m % 5) (tz_ym cs ct cc T r O m) else tz_ym cs ct cc T r O m) j ≤ θ ↔ _
    by_cases h : m % 5 < cc (m / 5)
    · rw [if_pos h, tz_yr_le, ih]
      constructor
      · rintro ((h1 | ⟨i, d, c, h1, h2⟩) | ⟨c, h1, h2, h3⟩)
        · exact Or.inl h1
        · exact Or.inr ⟨i, d, c, by omega, h2⟩
        · exact Or.inr ⟨m / 5, m % 5, c, by omega, by omega, h1, h2, h3⟩
      · rintro (h1 | ⟨i, d, c, h1, h2, h3, h4, h5⟩)
        · exact Or.inl (Or.inl h1)
        · by_cases hm : i * 5 + d = m
          · obtain rfl : i = m / 5 := by omega
            obtain rfl : d = m % 5 := by omega
            exact Or.inr ⟨c, h3, h4, h5⟩
          · exact Or.inl (Or.inr ⟨i, d, c, by omega, h2, h3, h4, h5⟩)
    · rw [if_neg h, ih]
      constructor
      · rintro (h1 | ⟨i, d, c, h1, h2⟩)
        · exact Or.inl h1
        · exact Or.inr ⟨i, d, c, by omega, h2⟩
      · rintro (h1 | ⟨i, d, c, h1, h2, h3, h4, h5⟩)
        · exact Or.inl h1
        · by_cases hm : i * 5 + d = m
          · obtain rfl : i = m / 5 := by omega
            obtain rfl : d = m % 5 := by omega
            exact absurd (Nat.lt_trans h3 h4) h
          · exact Or.inr ⟨i, d, c, by omega, h2, h3, h4, h5⟩
end
section
/-! times as thresholds: f stands for P below the reference's bound -/
def tz_rep (f : Nat → Nat) (P : Nat → Nat → Prop) : Prop := ∀ s, s < 8 → ∀ θ, θ < 100000 → (f s ≤ θ ↔ P s θ)
def tz_W (w : Nat → Nat) (P : Nat → Nat → Prop) (s θ : Nat) : Prop := P s θ ∨ ∃ u, u < 8 ∧ 0 < w (u * 8 + s) ∧ w (u * 8 + s) ≤ θ ∧ P u (θ - w (u * 8 + s))
theorem tz_rep_c {f g : Nat → Nat} {P : Nat → Nat → Prop} (h : tz_rep f P) (e : ∀ s, s < 8 → g s = f s) : tz_rep g P := by
  intro s hs θ hθ
  rw [e s hs]
  exact h s hs θ hθ
theorem tz_rep_i {f : Nat → Nat} {P Q : Nat → Nat → Prop} (h : tz_rep f P) (e : ∀ s θ, P s θ ↔ Q s θ) : tz_rep f Q :=
  fun s hs θ hθ => (h s hs θ hθ).trans (e s θ)
theorem tz_rep_sp {w U : Nat → Nat} {P : Nat → Nat → Prop} (h : tz_rep U P) : tz_rep (fun s => tz_sp w U s 8) (tz_W w P) := by
  intro s hs θ hθ
  show tz_sp w U s 8 ≤ θ ↔ tz_W w P s θ
  rw [tz_sp_le, h s hs θ hθ]
  constructor
  · rintro (h1 | ⟨u, hu, h1, h2⟩)
    · exact Or.inl h1
    · exact Or.inr ⟨u, hu, h1, by omega, (h u hu (θ - w (u * 8 + s)) (by omega)).mp (by omega)⟩
  · rintro (h1 | ⟨u, hu, h1, h2, h3⟩)
    · exact Or.inl h1
    · have h4 := (h u hu (θ - w (u * 8 + s)) (by omega)).mpr h3
      exact Or.inr ⟨u, hu, h1, by omega⟩
theorem tz_R_c {cs ct cc : Nat → Nat} {tr s θ : Nat} {P Q : Nat → Nat → Prop} (hcs : ∀ j, cs j < 8) (hct : ∀ j, ct j ≤ 999) (h : ∀ q τ, q < 8 → τ ≤ 999 → (P q τ ↔ Q q τ)) : tz_R cs ct cc tr P s θ ↔ tz_R cs ct cc tr Q s θ := by
  constructor
  · rintro ⟨i, d, c, h1, h2, h3, h4, h5⟩
    exact ⟨i, d, c, h1, h2, h3, (h _ _ (hcs _) (hct _)).mp h4, h5⟩
  · rintro ⟨i, d, c, h1, h2, h3, h4, h5⟩
    exact ⟨i, d, c, h1, h2, h3, (h _ _ (hcs _) (hct _)).mpr h4, h5⟩
theorem tz_rep_xr {cs ct cc E U : Nat → Nat} {tr : Nat} {P Q : Nat → Nat → Prop} (hcs : ∀ j, cs j < 8) (hct : ∀ j, ct j ≤ 999) (h : tz_rep U P) (hE : tz_rep E Q) :
    tz_rep (tz_xr cs ct cc E U tr) (fun s θ => P s θ ∨ tz_R cs ct cc tr Q s θ) := by
  intro s hs θ hθ
  have e : tz_R cs ct cc tr (fun q τ => E q ≤ τ) s θ ↔ tz_R cs ct cc tr Q s θ := tz_R_c hcs hct (fun q τ hq hτ => hE q hq τ (by omega))
  show tz_xr cs ct cc E U tr s ≤ θ ↔ (P s θ ∨ tz_R cs ct cc tr Q s θ)
  rw [tz_xr_le, h s hs θ hθ, e]
theorem tz_rep_ym {cs ct cc T O : Nat → Nat} {tr r : Nat} {Q : Nat → Nat → Prop} (hcs : ∀ j, cs j < 8) (hct : ∀ j, ct j ≤ 999) (hcc : ∀ j, cc j ≤ 5)
    (hO : ∀ s, s < 8 → O (r * 8 + s) = 100000) (hT : tz_rep (fun q => T ((r - 1) * 8 + q)) Q) :
    tz_rep (fun s => tz_ym cs ct cc T r O (tr * 5) (r * 8 + s)) (tz_R cs ct cc tr Q) := by
  intro s hs θ hθ
  show tz_ym cs ct cc T r O (tr * 5) (r * 8 + s) ≤ θ ↔ tz_R cs ct cc tr Q s θ
  rw [tz_ym_le, hO s hs]
  constructor
  · rintro (h | ⟨i, d, c, h1, h2, h3, h4, h5, h6, h7⟩)
    · omega
    · have hd := hct (i * 5 + d)
      exact ⟨i, d, c, by omega, h3, h4, (hT _ (hcs _) _ (by omega)).mp h5, by omega, h7⟩
  · rintro ⟨i, d, c, h1, h3, h4, h5, h6, h7⟩
    have hi := hcc i
    have hd := hct (i * 5 + d)
    exact Or.inr ⟨i, d, c, by omega, by omega, h3, h4, (hT _ (hcs _) _ (by omega)).mpr h5, by omega, h7⟩
theorem tz_ym_off {cs ct cc T O : Nat → Nat} {r m j : Nat} (hcs : ∀ j, cs j < 8) (hj : j < r * 8 ∨ r * 8 + 8 ≤ j) : tz_ym cs ct cc T r O m j = O j := by
  apply tz_eqle
  intro θ
  rw [tz_ym_le]
  constructor
  · rintro (h | ⟨i, d, c, h1, h2, h3, h4, h5, h6, h7⟩)
    · exact h
    · have hc := hcs (i * 5 + c)
      omega
  · exact Or.inl
theorem tz_ym_ub {cs ct cc T O : Nat → Nat} {r m j B : Nat} (h : O j ≤ B) : tz_ym cs ct cc T r O m j ≤ B := (tz_ym_le cs ct cc T r O m j B).mpr (Or.inl h)
theorem tz_yc_ub {cs ct O : Nat → Nat} {r b k n j B : Nat} (h : O j ≤ B) : tz_yc cs ct r b k O n j ≤ B := (tz_yc_le cs ct r b k O n j B).mpr (Or.inl h)
theorem tz_sp_ub {w U : Nat → Nat} {s n B : Nat} (h : U s ≤ B) : tz_sp w U s n ≤ B := (tz_sp_le w U s n B).mpr (Or.inl h)
theorem tz_rt_ub {cs ct E U : Nat → Nat} {b k s B : Nat} (h : U s ≤ B) : tz_rt cs ct E b U k s ≤ B := (tz_rt_le cs ct E b U k s B).mpr (Or.inl h)
theorem tz_xr_ub {cs ct cc E U : Nat → Nat} {k s B : Nat} (h : U s ≤ B) : tz_xr cs ct cc E U k s ≤ B := (tz_xr_le cs ct cc E U k s B).mpr (Or.inl h)
/-- the component's times are early or never -/
theorem tz_sp_gd {w U : Nat → Nat} {s : Nat} (hw : ∀ j, w j ≤ 99) (hs : s < 8) (h : ∀ q, q < 8 → U q ≤ 999 ∨ U q = 1000000) (n : Nat) (hn : n ≤ 8) : tz_sp w U s n ≤ 1098 ∨ tz_sp w U s n = 1000000 := by
  induction n with
  | zero =>
    show U s ≤ 1098 ∨ U s = 1000000
    have h1 := h s hs
    omega
  | succ n ih =>
    have ih := ih (by omega)
    have h1 := h n (by omega)
    have h2 := hw (n * 8 + s)
    show (if 0 < w (n * 8 + s) ∧ U n + w (n * 8 + s) < tz_sp w U s n then U n + w (n * 8 + s) else tz_sp w U s n) ≤ 1098 ∨ (if 0 < w (n * 8 + s) ∧ U n + w (n * 8 + s) < tz_sp w U s n then U n + w (n * 8 + s) else tz_sp w U s n) = 1000000
    by_cases hc : 0 < w (n * 8 + s) ∧ U n + w (n * 8 + s) < tz_sp w U s n
    · rw [if_pos hc]
      omega
    · rw [if_neg hc]
      exact ih
theorem tz_rt_gd {cs ct E U : Nat → Nat} {b s : Nat} (hct : ∀ j, ct j ≤ 999) (h : U s ≤ 999 ∨ U s = 1000000) (k : Nat) : tz_rt cs ct E b U k s ≤ 999 ∨ tz_rt cs ct E b U k s = 1000000 := by
  induction k with
  | zero => exact h
  | succ k ih =>
    show (if tz_ab cs ct E b k = true ∧ ct (b + k) < tz_rt cs ct E b U k (cs (b + k)) then tz_u (tz_rt cs ct E b U k) (cs (b + k)) (ct (b + k)) else tz_rt cs ct E b U k) s ≤ 999 ∨ (if tz_ab cs ct E b k = true ∧ ct (b + k) < tz_rt cs ct E b U k (cs (b + k)) then tz_u (tz_rt cs ct E b U k) (cs (b + k)) (ct (b + k)) else tz_rt cs ct E b U k) s = 1000000
    by_cases hc : tz_ab cs ct E b k = true ∧ ct (b + k) < tz_rt cs ct E b U k (cs (b + k))
    · rw [if_pos hc]
      by_cases hs : s = cs (b + k)
      · subst hs
        rw [tz_us]
        exact Or.inl (hct _)
      · rw [tz_un _ _ _ _ hs]
        exact ih
    · rw [if_neg hc]
      exact ih
theorem tz_xr_gd {cs ct cc E U : Nat → Nat} {s : Nat} (hct : ∀ j, ct j ≤ 999) (h : U s ≤ 999 ∨ U s = 1000000) (k : Nat) : tz_xr cs ct cc E U k s ≤ 999 ∨ tz_xr cs ct cc E U k s = 1000000 := by
  induction k with
  | zero => exact h
  | succ k ih => exact tz_rt_gd hct ih (cc k)
section
variable (cs ct cc w : Nat → Nat) (tr a t : Nat)
/-- off a ride (or at the start) at s by θ, with exactly k rides; there, with exactly k; the same with at most k -/
def tz_O : Nat → Nat → Nat → Prop
  | 0 => fun s θ => s = a ∧ t ≤ θ
  | k + 1 => tz_R cs ct cc tr (tz_W w (tz_O k))
def tz_T (k : Nat) : Nat → Nat → Prop := tz_W w (tz_O cs ct cc w tr a t k)
def tz_PX (k s θ : Nat) : Prop := ∃ j, j ≤ k ∧ tz_O cs ct cc w tr a t j s θ
def tz_N (k s θ : Nat) : Prop := ∃ j, j ≤ k ∧ tz_T cs ct cc w tr a t j s θ
theorem tz_WN (k s θ : Nat) : tz_W w (tz_PX cs ct cc w tr a t k) s θ ↔ tz_N cs ct cc w tr a t k s θ := by
  constructor
  · rintro (⟨j, hj, h⟩ | ⟨u, hu, h1, h2, j, hj, h⟩)
    · exact ⟨j, hj, Or.inl h⟩
    · exact ⟨j, hj, Or.inr ⟨u, hu, h1, h2, h⟩⟩
  · rintro ⟨j, hj, h | ⟨u, hu, h1, h2, h⟩⟩
    · exact Or.inl ⟨j, hj, h⟩
    · exact Or.inr ⟨u, hu, h1, h2, j, hj, h⟩
theorem tz_PXs (k s θ : Nat) : (tz_PX cs ct cc w tr a t k s θ ∨ tz_R cs ct cc tr (tz_N cs ct cc w tr a t k) s θ) ↔ tz_PX cs ct cc w tr a t (k + 1) s θ := by
  constructor
  · rintro (⟨j, hj, h⟩ | ⟨i, d, c, h1, h2, h3, ⟨j, hj, h4⟩, h5⟩)
    · exact ⟨j, by omega, h⟩
    · exact ⟨j + 1, by omega, i, d, c, h1, h2, h3, h4, h5⟩
  · rintro ⟨j, hj, h⟩
    cases j with
    | zero => exact Or.inl ⟨0, Nat.zero_le _, h⟩
    | succ j =>
      obtain ⟨i, d, c, h1, h2, h3, h4, h5⟩ := h
      exact Or.inr ⟨i, d, c, h1, h2, h3, ⟨j, by omega, h4⟩, h5⟩
/-- the component behind k rides -/
def tz_XU (k : Nat) (U : Nat → Nat) : Prop := tz_rep U (tz_PX cs ct cc w tr a t k) ∧ ∀ s, s < 8 → U s ≤ 999 ∨ U s = 1000000
def tz_XE (k : Nat) (E : Nat → Nat) : Prop := tz_rep E (tz_N cs ct cc w tr a t k) ∧ ∀ s, s < 8 → E s ≤ 1098 ∨ E s = 1000000
end
section
variable {cs ct cc w : Nat → Nat} {tr a t : Nat}
theorem tz_XU_0 {U : Nat → Nat} (ha : a < 8) (ht : t ≤ 999) (h : ∀ s, s < 8 → U s = if s = a then t else 1000000) : tz_XU cs ct cc w tr a t 0 U := by
  constructor
  · intro s hs θ hθ
    rw [h s hs]
    by_cases e : s = a
    · rw [if_pos e]
      constructor
      · intro z
        exact ⟨0, Nat.le_refl 0, e, z⟩
      · rintro ⟨j, hj, z⟩
        obtain rfl : j = 0 := by omega
        have z : s = a ∧ t ≤ θ := z
        exact z.2
    · rw [if_neg e]
      constructor
      · intro z
        omega
      · rintro ⟨j, hj, z⟩
        obtain rfl : j = 0 := by omega
        have z : s = a ∧ t ≤ θ := z
        exact absurd z.1 e
  · intro s hs
    rw [h s hs]
    by_cases e : s = a
    · rw [if_pos e]
      exact Or.inl ht
    · rw [if_neg e]
      exact Or.inr rfl
theorem tz_XE_k {k : Nat} {U E : Nat → Nat} (hw : ∀ j, w j ≤ 99) (h : tz_XU cs ct cc w tr a t k U) (hE : ∀ s, s < 8 → E s = tz_sp w U s 8) : tz_XE cs ct cc w tr a t k E := by
  constructor
  · exact tz_rep_c (tz_rep_i (tz_rep_sp h.1) (tz_WN cs ct cc w tr a t k)) hE
  · intro s hs
    rw [hE s hs]
    exact tz_sp_gd hw hs h.2 8 (Nat.le_refl 8)
theorem tz_XU_s {k : Nat} {U E : Nat → Nat} (hcs : ∀ j, cs j < 8) (hct : ∀ j, ct j ≤ 999) (h : tz_XU cs ct cc w tr a t k U) (hE : tz_XE cs ct cc w tr a t k E) : tz_XU cs ct cc w tr a t (k + 1) (tz_xr cs ct cc E U tr) := by
  constructor
  · exact tz_rep_i (tz_rep_xr hcs hct h.1 hE.1) (tz_PXs cs ct cc w tr a t k)
  · intro s hs
    exact tz_xr_gd hct (h.2 s hs) tr
theorem tz_XE_u {k : Nat} {E E' : Nat → Nat} (h : tz_XE cs ct cc w tr a t k E) (h' : tz_XE cs ct cc w tr a t k E') {s : Nat} (hs : s < 8) : E s = E' s := by
  have b := h.2 s hs
  have b' := h'.2 s hs
  have r : ∀ θ, θ < 100000 → (E s ≤ θ ↔ E' s ≤ θ) := fun θ hθ => (h.1 s hs θ hθ).trans (h'.1 s hs θ hθ).symm
  by_cases c : E s < 100000
  · have r1 := (r (E s) c).mp (Nat.le_refl _)
    have r2 := (r (E' s) (by omega)).mpr (Nat.le_refl _)
    omega
  · by_cases c' : E' s < 100000
    · have r2 := (r (E' s) c').mpr (Nat.le_refl _)
      omega
    · omega
end
section
variable (cs ct cc w : Nat → Nat) (tr a t : Nat)
def tz_UX : Nat → Nat → Nat
  | 0 => fun s => if s = a then t else 1000000
  | k + 1 => tz_xr cs ct cc (fun s => tz_sp w (tz_UX k) s 8) (tz_UX k) tr
def tz_EX (k s : Nat) : Nat := tz_sp w (tz_UX cs ct cc w tr a t k) s 8
theorem tz_UX_k (hcs : ∀ j, cs j < 8) (hct : ∀ j, ct j ≤ 999) (hw : ∀ j, w j ≤ 99) (ha : a < 8) (ht : t ≤ 999) (k : Nat) : tz_XU cs ct cc w tr a t k (tz_UX cs ct cc w tr a t k) := by
  induction k with
  | zero => exact tz_XU_0 ha ht (fun s _ => rfl)
  | succ k ih => exact tz_XU_s hcs hct ih (tz_XE_k hw ih (fun s _ => rfl))
theorem tz_EX_k (hcs : ∀ j, cs j < 8) (hct : ∀ j, ct j ≤ 999) (hw : ∀ j, w j ≤ 99) (ha : a < 8) (ht : t ≤ 999) (k : Nat) : tz_XE cs ct cc w tr a t k (tz_EX cs ct cc w tr a t k) :=
  tz_XE_k hw (tz_UX_k cs ct cc w tr a t hcs hct hw ha ht k) (fun s _ => rfl)
end
/-- the reference behind its rows 0 .. r-1 -/
def tz_YR (cs ct cc w : Nat → Nat) (tr a t r : Nat) (O T : Nat → Nat) : Prop :=
  (∀ k, k < r → tz_rep (fun s => T (k * 8 + s)) (tz_T cs ct cc w tr a t k) ∧ ∀ s, s < 8 → T (k * 8 + s) ≤ 100000) ∧ (∀ j, r * 8 ≤ j → j < 88 → O j = 100000) ∧ ∀ j, j < 88 → O j ≤ 100000
section
variable {cs ct cc w : Nat → Nat} {tr a t : Nat}
theorem tz_YR_1 {O T : Nat → Nat} (ha : a < 8) (ht : t ≤ 999) (hO : ∀ s, s < 88 → O s = if s = a then t else 100000) (hT : ∀ s, s < 8 → T s = tz_sp w O s 8) : tz_YR cs ct cc w tr a t 1 O T := by
  have r0 : tz_rep O (tz_O cs ct cc w tr a t 0) := by
    intro s hs θ hθ
    show O s ≤ θ ↔ (s = a ∧ t ≤ θ)
    rw [hO s (by omega)]
    by_cases e : s = a
    · rw [if_pos e]
      exact ⟨fun z => ⟨e, z⟩, fun z => z.2⟩
    · rw [if_neg e]
      exact ⟨fun z => absurd z (by omega), fun z => absurd z.1 e⟩
  refine ⟨fun k hk => ?_, fun j h1 h2 => ?_, fun j h2 => ?_⟩
  · obtain rfl : k = 0 := by omega
    refine ⟨tz_rep_c (tz_rep_sp r0) (fun s hs => ?_), fun s hs => ?_⟩
    · show T (0 * 8 + s) = _
      rw [Nat.zero_mul, Nat.zero_add, hT s hs]
    · rw [Nat.zero_mul, Nat.zero_add, hT s hs]
      refine tz_sp_ub ?_
      rw [hO s (by omega)]
      split <;> omega
  · rw [hO j h2, if_neg (by omega)]
  · rw [hO j h2]
    split <;> omega
theorem tz_YR_s {O T T' : Nat → Nat} {r : Nat} (hcs : ∀ j, cs j < 8) (hct : ∀ j, ct j ≤ 999) (hcc : ∀ j, cc j ≤ 5) (hr : 1 ≤ r) (hr' : r ≤ 10) (h : tz_YR cs ct cc w tr a t r O T)
    (hT : ∀ s, s < 8 → T' (r * 8 + s) = tz_sp w (fun q => tz_ym cs ct cc T r O (tr * 5) (r * 8 + q)) s 8) (hT' : ∀ j, j < r * 8 → T' j = T j) :
    tz_YR cs ct cc w tr a t (r + 1) (tz_ym cs ct cc T r O (tr * 5)) T' := by
  obtain ⟨h1, h2, h3⟩ := h
  have r0 : tz_rep (fun q => tz_ym cs ct cc T r O (tr * 5) (r * 8 + q)) (tz_O cs ct cc w tr a t r) := by
    obtain ⟨q, rfl⟩ : ∃ q, r = q + 1 := ⟨r - 1, by omega⟩
    refine tz_rep_ym (Q := tz_T cs ct cc w tr a t q) hcs hct hcc (fun s hs => h2 _ (by omega) (by omega)) ?_
    rw [Nat.add_sub_cancel]
    exact (h1 q (by omega)).1
  refine ⟨fun k hk => ?_, fun j hj hj' => ?_, fun j hj' => tz_ym_ub (h3 j hj')⟩
  · by_cases e : k = r
    · subst e
      refine ⟨tz_rep_c (tz_rep_sp r0) hT, fun s hs => ?_⟩
      rw [hT s hs]
      exact tz_sp_ub (tz_ym_ub (h3 _ (by omega)))
    · have hk' := h1 k (by omega)
      refine ⟨tz_rep_c hk'.1 (fun s hs => hT' _ (by omega)), fun s hs => ?_⟩
      rw [hT' _ (by omega)]
      exact hk'.2 s hs
  · rw [tz_ym_off hcs (by omega)]
    exact h2 j (by omega) hj'
end
/-- the least of rows 0 .. n-1 -/
def tz_b (T : Nat → Nat) (b : Nat) : Nat → Nat
  | 0 => 100000
  | n + 1 => if T (n * 8 + b) < tz_b T b n then T (n * 8 + b) else tz_b T b n
theorem tz_b_le (T : Nat → Nat) (b n θ : Nat) : tz_b T b n ≤ θ ↔ 100000 ≤ θ ∨ ∃ u, u < n ∧ True ∧ T (u * 8 + b) ≤ θ :=
  tz_fold (v := tz_b T b) (x := fun n => T (n * 8 + b)) (c := fun _ => True) θ (fun n _ h => if_pos h) (fun n h => if_neg (h trivial)) n
def tz_sim (x y : Nat) : Prop := (x < 100000 ∧ y = x) ∨ (x = 1000000 ∧ y = 100000)
section
variable {cs ct cc w : Nat → Nat} {tr a t : Nat}
theorem tz_sim_k {k b : Nat} {E O T : Nat → Nat} (hb : b < 8) (hk : k ≤ 10) (hE : tz_XE cs ct cc w tr a t k E) (hT : tz_YR cs ct cc w tr a t 11 O T) : tz_sim (E b) (tz_b T b (k + 1)) := by
  have ub : tz_b T b (k + 1) ≤ 100000 := (tz_b_le T b (k + 1) 100000).mpr (Or.inl (Nat.le_refl _))
  have gd := hE.2 b hb
  have r : ∀ θ, θ < 100000 → (E b ≤ θ ↔ tz_b T b (k + 1) ≤ θ) := by
    intro θ hθ
    rw [hE.1 b hb θ hθ, tz_b_le]
    constructor
    · rintro ⟨j, hj, z⟩
      exact Or.inr ⟨j, by omega, trivial, ((hT.1 j (by omega)).1 b hb θ hθ).mpr z⟩
    · rintro (z | ⟨j, hj, _, z⟩)
      · omega
      · exact ⟨j, by omega, ((hT.1 j (by omega)).1 b hb θ hθ).mp z⟩
  by_cases c : E b < 100000
  · have r1 := (r (E b) c).mp (Nat.le_refl _)
    have r2 := (r (tz_b T b (k + 1)) (by omega)).mpr (Nat.le_refl _)
    exact Or.inl ⟨c, by omega⟩
  · refine Or.inr ⟨by omega, ?_⟩
    by_cases c' : tz_b T b (k + 1) < 100000
    · have r2 := (r (tz_b T b (k + 1)) c').mpr (Nat.le_refl _)
      omega
    · omega
end
/-- counts of improvements -/
def tz_bx (e : Nat → Nat) : Nat → Nat
  | 0 => 1000000
  | k + 1 => if e k < tz_bx e k then e k else tz_bx e k
def tz_cx (e : Nat → Nat) : Nat → Nat
  | 0 => 0
  | k + 1 => if e k < tz_bx e k then tz_cx e k + 1 else tz_cx e k
def tz_cy (T : Nat → Nat) (b : Nat) : Nat → Nat
  | 0 => 0
  | k + 1 => if T (k * 8 + b) < tz_b T b k then tz_cy T b k + 1 else tz_cy T b k
theorem tz_cxy {e T : Nat → Nat} {b : Nat} (n : Nat) (h : ∀ k, k < n → tz_sim (e k) (tz_b T b (k + 1))) : tz_sim (tz_bx e n) (tz_b T b n) ∧ tz_cx e n = tz_cy T b n := by
  induction n with
  | zero => exact ⟨Or.inr ⟨rfl, rfl⟩, rfl⟩
  | succ n ih =>
    obtain ⟨i1, i2⟩ := ih (fun k hk => h k (by omega))
    have hn := h n (by omega)
    have e0 : tz_b T b (n + 1) = if T (n * 8 + b) < tz_b T b n then T (n * 8 + b) else tz_b T b n := rfl
    have e1 : tz_bx e (n + 1) = if e n < tz_bx e n then e n else tz_bx e n := rfl
    have e2 : tz_cx e (n + 1) = if e n < tz_bx e n then tz_cx e n + 1 else tz_cx e n := rfl
    have e3 : tz_cy T b (n + 1) = if T (n * 8 + b) < tz_b T b n then tz_cy T b n + 1 else tz_cy T b n := rfl
    unfold tz_sim at hn i1 ⊢
    by_cases c : T (n * 8 + b) < tz_b T b n
    · rw [if_pos c] at e0 e3
      have c' : e n < tz_bx e n := by omega
      rw [if_pos c'] at e1 e2
      omega
    · rw [if_neg c] at e0 e3
      have c' : ¬ e n < tz_bx e n := by omega
      rw [if_neg c'] at e1 e2
      omega
theorem tz_cx_le (e : Nat → Nat) (n : Nat) : tz_cx e n ≤ n := by
  induction n with
  | zero => exact Nat.le_refl 0
  | succ n ih =>
    show (if e n < tz_bx e n then tz_cx e n + 1 else tz_cx e n) ≤ n + 1
    split <;> omega
theorem tz_bx_ub (e : Nat → Nat) (n : Nat) : tz_bx e n ≤ 1000000 := by
  induction n with
  | zero => exact Nat.le_refl _
  | succ n ih =>
    show (if e n < tz_bx e n then e n else tz_bx e n) ≤ 1000000
    split <;> omega
def tz_set (f : Nat → Nat) (y : Nat) : Nat → Int32
  | 0 => 0
  | s + 1 => if f s ≤ y then tz_set f y s ||| (1 <<< (nI s &&& 31)) else tz_set f y s
end
section
/-! the tables: what both sides keep alike -/
def tz_in (x : Int32) (n : Nat) : Prop := ∃ s, s < n ∧ x = nI s
theorem tz_in_f {x : Int32} {n : Nat} (hn : n < 2 ^ 31) (h : ¬ tz_in x n) (h0 : ¬ x < 0) : ¬ x < nI n := by
  intro z
  obtain ⟨j, hj, rfl⟩ := nI_of h0
  exact h ⟨j, (nI_ltI hj hn).mp z, rfl⟩
theorem tz_in_0 {x : Int32} {n : Nat} (hn : n < 2 ^ 31) (h : tz_in x n) : ¬ x < 0 := by
  obtain ⟨s, hs, rfl⟩ := h
  exact nI_pos (by omega)
theorem tz_in_l {x : Int32} {n : Nat} (hn : n < 2 ^ 31) (h : tz_in x n) : x < nI n := by
  obtain ⟨s, hs, rfl⟩ := h
  exact nI_lt hs hn
theorem tz_in_m {x : Int32} {n : Nat} (hn : n < 2 ^ 31) (h0 : ¬ x < 0) (h1 : x < nI n) : tz_in x n := by
  obtain ⟨j, hj, rfl⟩ := nI_of h0
  exact ⟨j, (nI_ltI hj hn).mp h1, rfl⟩
/-- calls at 10 trips, stops, times, walks; the times of a trip never fall -/
def tz_I (tr : Nat) (cc cs ct w : Nat → Nat) : Prop :=
  tr ≤ 10 ∧ (∀ j, cc j ≤ 5) ∧ (∀ j, cs j < 8) ∧ (∀ j, ct j ≤ 999) ∧ (∀ j, w j ≤ 99) ∧ (∀ i, i < tr → 1 ≤ cc i) ∧ ∀ i k, i < tr → k + 1 < cc i → ct (i * 5 + k) ≤ ct (i * 5 + (k + 1))
theorem tz_mono {tr : Nat} {cc cs ct w : Nat → Nat} (h : tz_I tr cc cs ct w) {i k c : Nat} (hi : i < tr) (hk : k ≤ c) (hc : c < cc i) : ct (i * 5 + k) ≤ ct (i * 5 + c) := by
  obtain ⟨d, rfl⟩ : ∃ d, c = k + d := ⟨c - k, by omega⟩
  induction d with
  | zero => exact Nat.le_refl _
  | succ d ih =>
    have h1 := ih (by omega) (by omega)
    have h2 := h.2.2.2.2.2.2 i (k + d) hi (by omega)
    exact Nat.le_trans h1 h2
theorem tz_I_0 : tz_I 0 (fun _ => 0) (fun _ => 0) (fun _ => 0) (fun _ => 0) :=
  ⟨Nat.zero_le _, fun _ => Nat.zero_le _, fun _ => (by decide : 0 < 8), fun _ => Nat.zero_le _, fun _ => Nat.zero_le _, fun i hi => absurd hi (Nat.not_lt_zero i), fun i k hi => absurd hi (Nat.not_lt_zero i)⟩
/-- a new trip -/
theorem tz_I_trip {tr s t : Nat} {cc cs ct w : Nat → Nat} (h : tz_I tr cc cs ct w) (htr : tr < 10) (hs : s < 8) (ht : t ≤ 999) :
    tz_I (tr + 1) (tz_u cc tr 1) (tz_u cs (tr * 5) s) (tz_u ct (tr * 5) t) w := by
  obtain ⟨h1, h2, h3, h4, h5, h6, h7⟩ := h
  refine ⟨by omega, fun j => ?_, fun j => ?_, fun j => ?_, h5, fun i hi => ?_, fun i k hi hk => ?_⟩
  · unfold tz_u
    split
    · omega
    · exact h2 j
  · unfold tz_u
    split
    · exact hs
    · exact h3 j
  · unfold tz_u
    split
    · exact ht
    · exact h4 j
  · unfold tz_u
    split
    · omega
    · exact h6 i (by omega)
  · by_cases e : i = tr
    · subst e
      rw [tz_us] at hk
      omega
    · rw [tz_un _ _ _ _ e] at hk
      have h8 := h2 i
      rw [tz_un ct (tr * 5) t (i * 5 + k) (by omega), tz_un ct (tr * 5) t (i * 5 + (k + 1)) (by omega)]
      exact h7 i k (by omega) hk
/-- one more call of the latest trip -/
theorem tz_I_call {i s t : Nat} {cc cs ct w : Nat → Nat} (h : tz_I (i + 1) cc cs ct w) (hc : cc i < 5) (hs : s < 8) (ht : t ≤ 999) (hl : ct (i * 5 + (cc i - 1)) ≤ t) :
    tz_I (i + 1) (tz_u cc i (cc i + 1)) (tz_u cs (i * 5 + cc i) s) (tz_u ct (i * 5 + cc i) t) w := by
  obtain ⟨h1, h2, h3, h4, h5, h6, h7⟩ := h
  refine ⟨by omega, fun j => ?_, fun j => ?_, fun j => ?_, h5, fun j hj => ?_, fun j k hj hk => ?_⟩
  · unfold tz_u
    split
    · omega
    · exact h2 j
  · unfold tz_u
    split
    · exact hs
    · exact h3 j
  · unfold tz_u
    split
    · exact ht
    · exact h4 j
  · unfold tz_u
    split
    · omega
    · exact h6 j hj
  · by_cases e : j = i
    · subst e
      rw [tz_us] at hk
      rw [tz_un ct (j * 5 + cc j) t (j * 5 + k) (by omega)]
      by_cases e2 : k + 1 = cc j
      · rw [e2, tz_us]
        have e3 : k = cc j - 1 := by omega
        rw [e3]
        exact hl
      · rw [tz_un ct (j * 5 + cc j) t (j * 5 + (k + 1)) (by omega)]
        exact h7 j k hj (by omega)
    · rw [tz_un _ _ _ _ e] at hk
      have h8 := h2 j
      rw [tz_un ct (i * 5 + cc i) t (j * 5 + k) (by omega), tz_un ct (i * 5 + cc i) t (j * 5 + (k + 1)) (by omega)]
      exact h7 j k hj hk
/-- the cells lo .. hi-1 take what lies p further on -/
def tz_sh (f : Nat → Nat) (p lo hi : Nat) : Nat → Nat := fun j => if lo ≤ j ∧ j < hi then f (j + p) else f j
theorem tz_sh_0 (f : Nat → Nat) (p lo : Nat) : tz_sh f p lo lo = f := by
  funext j
  exact if_neg (by omega)
theorem tz_sh_r (f : Nat → Nat) {p lo hi : Nat} (hp : 0 < p) : tz_sh f p lo hi (hi + p) = f (hi + p) := if_neg (by omega)
theorem tz_sh_s (f : Nat → Nat) {p lo hi : Nat} (h : lo ≤ hi) : tz_u (tz_sh f p lo hi) hi (f (hi + p)) = tz_sh f p lo (hi + 1) := by
  funext j
  by_cases e : j = hi
  · subst e
    rw [tz_us]
    exact (if_pos (by omega)).symm
  · rw [tz_un _ _ _ _ e]
    unfold tz_sh
    by_cases c : lo ≤ j ∧ j < hi
    · rw [if_pos c, if_pos (by omega)]
    · rw [if_neg c, if_neg (by omega)]
theorem tz_sh_b {f : Nat → Nat} {p lo hi B : Nat} (h : ∀ j, f j ≤ B) (j : Nat) : tz_sh f p lo hi j ≤ B := by
  unfold tz_sh
  split
  · exact h _
  · exact h _
theorem tz_I_cancel {i n : Nat} {cc cs ct w : Nat → Nat} (h : tz_I (n + 1) cc cs ct w) (hi : i ≤ n) :
    tz_I n (tz_sh cc 1 i n) (tz_sh cs 5 (i * 5) (n * 5)) (tz_sh ct 5 (i * 5) (n * 5)) w := by
  obtain ⟨h1, h2, h3, h4, h5, h6, h7⟩ := h
  refine ⟨by omega, tz_sh_b h2, fun j => ?_, tz_sh_b h4, h5, fun j hj => ?_, fun j k hj hk => ?_⟩
  · have := tz_sh_b (f := cs) (B := 7) (p := 5) (lo := i * 5) (hi := n * 5) (fun j => by have := h3 j; omega) j
    omega
  · unfold tz_sh
    split
    · exact h6 _ (by omega)
    · exact h6 _ (by omega)
  · have b1 := h2 j
    have b2 := h2 (j + 1)
    unfold tz_sh at hk ⊢
    by_cases c : i ≤ j ∧ j < n
    · rw [if_pos c] at hk
      rw [if_pos (by omega), if_pos (by omega)]
      have h8 := h7 (j + 1) k (by omega) hk
      have e1 : (j + 1) * 5 + k = j * 5 + k + 5 := by omega
      have e2 : (j + 1) * 5 + (k + 1) = j * 5 + (k + 1) + 5 := by omega
      rw [e1, e2] at h8
      exact h8
    · rw [if_neg c] at hk
      rw [if_neg (by omega), if_neg (by omega)]
      exact h7 j k (by omega) hk
/-- cells lo .. hi-1 by d more -/
def tz_dl (f : Nat → Nat) (d lo hi : Nat) : Nat → Nat := fun j => if lo ≤ j ∧ j < hi then f j + d else f j
theorem tz_dl_0 (f : Nat → Nat) (d lo : Nat) : tz_dl f d lo lo = f := by
  funext j
  exact if_neg (by omega)
theorem tz_dl_r (f : Nat → Nat) {d lo hi : Nat} : tz_dl f d lo hi hi = f hi := if_neg (by omega)
theorem tz_dl_s (f : Nat → Nat) {d lo hi : Nat} (h : lo ≤ hi) : tz_u (tz_dl f d lo hi) hi (f hi + d) = tz_dl f d lo (hi + 1) := by
  funext j
  by_cases e : j = hi
  · subst e
    rw [tz_us]
    exact (if_pos (by omega)).symm
  · rw [tz_un _ _ _ _ e]
    unfold tz_dl
    by_cases c : lo ≤ j ∧ j < hi
    · rw [if_pos c, if_pos (by omega)]
    · rw [if_neg c, if_neg (by omega)]
theorem tz_I_delay {tr i k d : Nat} {cc cs ct w : Nat → Nat} (h : tz_I tr cc cs ct w) (hi : i < tr) (hl : ∀ c, k ≤ c → c < cc i → ct (i * 5 + c) + d ≤ 999) :
    tz_I tr cc cs (tz_dl ct d (i * 5 + k) (i * 5 + cc i)) w := by
  obtain ⟨h1, h2, h3, h4, h5, h6, h7⟩ := h
  refine ⟨h1, h2, h3, fun j => ?_, h5, h6, fun j c hj hc => ?_⟩
  · unfold tz_dl
    by_cases c : i * 5 + k ≤ j ∧ j < i * 5 + cc i
    · rw [if_pos c]
      have h8 := hl (j - i * 5) (by omega) (by omega)
      have e : i * 5 + (j - i * 5) = j := by omega
      rw [e] at h8
      exact h8
    · rw [if_neg c]
      exact h4 j
  · have h8 := h7 j c hj hc
    have b1 := h2 j
    have b2 := h2 i
    unfold tz_dl
    by_cases e : j = i
    · subst e
      by_cases c1 : k ≤ c
      · rw [if_pos (by omega), if_pos (by omega)]
        omega
      · rw [if_neg (by omega)]
        split <;> omega
    · rw [if_neg (by omega), if_neg (by omega)]
      exact h8
theorem tz_I_walk {tr p q d : Nat} {cc cs ct w : Nat → Nat} (h : tz_I tr cc cs ct w) (hd : d ≤ 99) : tz_I tr cc cs ct (tz_u (tz_u w p d) q d) := by
  obtain ⟨h1, h2, h3, h4, h5, h6, h7⟩ := h
  refine ⟨h1, h2, h3, h4, fun j => ?_, h6, h7⟩
  unfold tz_u
  split
  · exact hd
  · split
    · exact hd
    · exact h5 j
end
section
/-! the component's private methods -/
theorem xs_stop_t {post : Int32 → Prop} {x : Int32} (h : tz_in x 8) (k : post 1) : wpX_isStop post x := by
  obtain ⟨s, hs, rfl⟩ := h
  exact br_f (nI_pos (by omega)) (br_f (nI_ge (b := 8) hs (by decide)) k)
theorem xs_stop_f {post : Int32 → Prop} {x : Int32} (h : ¬ tz_in x 8) (k : post 0) : wpX_isStop post x :=
  br_c (fun _ => k) (fun h0 => br_t (Int32.not_lt.mp (tz_in_f (n := 8) (by decide) h h0)) k)
theorem xs_time_t {post : Int32 → Prop} {x : Int32} (h : tz_in x 1000) (k : post 1) : wpX_isTime post x := by
  obtain ⟨s, hs, rfl⟩ := h
  exact br_f (nI_pos (by omega)) (br_f (nI_nlt (a := 999) (by omega) (by decide)) k)
theorem tz_999 {x : Int32} (h : ¬ tz_in x 1000) (h0 : ¬ x < 0) : (999 : Int32) < x := by
  obtain ⟨j, hj, rfl⟩ := nI_of h0
  have h1 : ¬ j < 1000 := fun z => h ⟨j, z, rfl⟩
  exact nI_lt (a := 999) (by omega) hj
theorem xs_time_f {post : Int32 → Prop} {x : Int32} (h : ¬ tz_in x 1000) (k : post 0) : wpX_isTime post x :=
  br_c (fun _ => k) (fun h0 => br_t (tz_999 h h0) k)
theorem xs_b1 {A B : Prop} (k : B) : ((1 : Int32) = 0 → A) ∧ (¬ (1 : Int32) = 0 → B) := br_f (by decide) k
theorem xs_b0 {A B : Prop} (k : A) : ((0 : Int32) = 0 → A) ∧ (¬ (0 : Int32) = 0 → B) := br_t rfl k
theorem xs_sT {A B : Prop} {x : Int32} (h : tz_in x 8) (k : B) : wpX_isStop (fun r => (r = 0 → A) ∧ (¬ r = 0 → B)) x := xs_stop_t h (xs_b1 k)
theorem xs_sF {A B : Prop} {x : Int32} (h : ¬ tz_in x 8) (k : A) : wpX_isStop (fun r => (r = 0 → A) ∧ (¬ r = 0 → B)) x := xs_stop_f h (xs_b0 k)
theorem xs_tT {A B : Prop} {x : Int32} (h : tz_in x 1000) (k : B) : wpX_isTime (fun r => (r = 0 → A) ∧ (¬ r = 0 → B)) x := xs_time_t h (xs_b1 k)
theorem xs_tF {A B : Prop} {x : Int32} (h : ¬ tz_in x 1000) (k : A) : wpX_isTime (fun r => (r = 0 → A) ∧ (¬ r = 0 → B)) x := xs_time_f h (xs_b0 k)
section
variable {tr : Nat} {cc cs ct w U E : Nat → Nat}
theorem xs_iT {A B : Prop} {x : Int32} (ht : tr ≤ 10) (h : tz_in x tr) (k : B) : wpX_isTrip (fun r => (r = 0 → A) ∧ (¬ r = 0 → B)) (nI tr, tz_F cc, tz_F cs, tz_F ct, tz_F w, tz_F U, tz_F E) x := by
  obtain ⟨s, hs, rfl⟩ := h
  exact br_f (nI_pos (by omega)) (br_f (nI_ge hs (by omega)) (xs_b1 k))
theorem xs_iF {A B : Prop} {x : Int32} (ht : tr ≤ 10) (h : ¬ tz_in x tr) (k : A) : wpX_isTrip (fun r => (r = 0 → A) ∧ (¬ r = 0 → B)) (nI tr, tz_F cc, tz_F cs, tz_F ct, tz_F w, tz_F U, tz_F E) x :=
  br_c (fun _ => xs_b0 k) (fun h0 => br_t (Int32.not_lt.mp (tz_in_f (n := tr) (by omega) h h0)) (xs_b0 k))
/-- spreadWalks -/
theorem xs_sp22 {post : SX → Prop} {J2 : Int32 → (Nat → Int32) → (Nat → Int32) → (Nat → Int32) → (Nat → Int32) → (Nat → Int32) → (Nat → Int32) → Prop} {s : Nat} (hs : s < 8) (hw : ∀ j, w j ≤ 99) (hU : ∀ q, q < 8 → U q ≤ 1000000)
    (k : J2 (nI (s + 1)) (tz_F cc) (tz_F cs) (tz_F ct) (tz_F w) (tz_F U) (tz_F (tz_u E s (tz_sp w U s 8)))) :
    ∀ n f, 8 < n + f → f ≤ 8 → wX_spreadWalks_22 post J2 (nI s) (nI tr) n (nI f) (tz_F cc) (tz_F cs) (tz_F ct) (tz_F w) (tz_F U) (tz_F (tz_u E s (tz_sp w U s f))) := by
  intro n
  induction n with
  | zero =>
    intro f h1 h2
    omega
  | succ n ih =>
    intro f h1 h2
    refine pk_le 8 f (fun h => ?_) (fun h => ?_)
    · obtain rfl : f = 8 := by omega
      exact nm_r (nI_1 s) k
    · have kk := ih (f + 1) (by omega) (by omega)
      have hwf := hw (f * 8 + s)
      have hUf := hU f h
      have hsp : tz_sp w U s f ≤ 1000000 := tz_sp_ub (hU s hs)
      refine ⟨pk_in (f * 8 + s) 64 (by omega) (tz_i8 f s), tz_rd w (f * 8 + s) ?_ (tz_i8 f s)⟩
      refine pk_le (w (f * 8 + s)) 0 (fun h3 => ?_) (fun h3 => ?_)
      · have e : tz_sp w U s (f + 1) = tz_sp w U s f := if_neg (by omega)
        rw [e] at kk
        exact nm_r (nI_1 f) kk
      · have ex : tz_F (tz_u E s (tz_sp w U s f)) (nI s).toNatClampNeg = nI (tz_sp w U s f) := (tz_at _ s).trans (congrArg nI (tz_us E s _))
        have ey : tz_F U (nI f).toNatClampNeg + nI (w (f * 8 + s)) = nI (U f + w (f * 8 + s)) := by rw [tz_at U f, nI_add]
        refine ⟨pk_in f 8 h, pk_in s 8 hs, pk_le (tz_sp w U s f) (U f + w (f * 8 + s)) (fun h4 => ?_) (fun h4 => ?_) ex ey⟩
        · have e : tz_sp w U s (f + 1) = tz_sp w U s f := if_neg (by omega)
          rw [e] at kk
          exact nm_r (nI_1 f) kk
        · have e : tz_sp w U s (f + 1) = U f + w (f * 8 + s) := if_pos (And.intro h3 h4)
          rw [e, ← tz_uu E s (tz_sp w U s f)] at kk
          exact ⟨pk_in f 8 h, pk_in s 8 hs, tz_st _ s (U f + w (f * 8 + s)) (nm_r (nI_1 f) kk) rfl ey⟩
theorem xs_sp2 {post : SX → Prop} (hw : ∀ j, w j ≤ 99) (hU : ∀ q, q < 8 → U q ≤ 1000000)
    (k : ∀ E', (∀ s, s < 8 → E' s = tz_sp w U s 8) → post (nI tr, tz_F cc, tz_F cs, tz_F ct, tz_F w, tz_F U, tz_F E')) :
    ∀ n s E, 8 < n + s → s ≤ 8 → (∀ q, q < s → E q = tz_sp w U q 8) → wX_spreadWalks_2 post (nI tr) n (nI s) (tz_F cc) (tz_F cs) (tz_F ct) (tz_F w) (tz_F U) (tz_F E) := by
  intro n
  induction n with
  | zero =>
    intro s E h1 h2
    omega
  | succ n ih =>
    intro s E h1 h2 h3
    refine pk_le 8 s (fun h => ?_) (fun h => ?_)
    · exact k E (fun q hq => h3 q (by omega))
    · refine ⟨pk_in s 8 h, pk_in s 8 h, tz_st E s (U s) ?_ rfl (tz_at U s)⟩
      refine ⟨9, xs_sp22 h hw hU (ih (s + 1) _ (by omega) (by omega) (fun q hq => ?_)) 9 0 (by omega) (by omega)⟩
      by_cases e : q = s
      · subst e
        exact tz_us _ _ _
      · rw [tz_un _ _ _ _ e]
        exact h3 q (by omega)
theorem xs_spread {post : SX → Prop} (hw : ∀ j, w j ≤ 99) (hU : ∀ q, q < 8 → U q ≤ 1000000)
    (k : ∀ E', (∀ s, s < 8 → E' s = tz_sp w U s 8) → post (nI tr, tz_F cc, tz_F cs, tz_F ct, tz_F w, tz_F U, tz_F E')) : wpX_spreadWalks post (nI tr, tz_F cc, tz_F cs, tz_F ct, tz_F w, tz_F U, tz_F E) :=
  ⟨9, xs_sp2 hw hU k 9 0 E (by omega) (by omega) (fun q hq => absurd hq (Nat.not_lt_zero q))⟩
/-- startAt -/
theorem xs_st2 {post : SX → Prop} {a t : Nat} (hw : ∀ j, w j ≤ 99) (ha : a < 8) (ht : t ≤ 999)
    (k : ∀ U E, (∀ s, s < 8 → U s = if s = a then t else 1000000) → (∀ s, s < 8 → E s = tz_sp w U s 8) → post (nI tr, tz_F cc, tz_F cs, tz_F ct, tz_F w, tz_F U, tz_F E)) :
    ∀ n s U, 8 < n + s → s ≤ 8 → (∀ q, q < s → U q = 1000000) → wX_startAt_2 post (nI a) (nI t) (nI tr) n (nI s) (tz_F cc) (tz_F cs) (tz_F ct) (tz_F w) (tz_F U) (tz_F E) := by
  intro n
  induction n with
  | zero =>
    intro s U h1 h2
    omega
  | succ n ih =>
    intro s U h1 h2 h3
    refine pk_le 8 s (fun h => ?_) (fun h => ?_)
    · have hX : ∀ q, q < 8 → tz_u U a t q = if q = a then t else 1000000 := by
        intro q hq
        by_cases e : q = a
        · rw [if_pos e, e, tz_us]
        · rw [if_neg e, tz_un _ _ _ _ e]
          exact h3 q (by omega)
      refine ⟨pk_in a 8 ha, tz_st U a t ?_⟩
      refine xs_spread hw (fun q hq => ?_) (fun E' hE' => k _ E' hX hE')
      rw [hX q hq]
      split <;> omega
    · refine ⟨pk_in s 8 h, tz_st U s 1000000 (nm_r (nI_1 s) (ih (s + 1) _ (by omega) (by omega) (fun q hq => ?_)))⟩
      by_cases e : q = s
      · subst e
        exact tz_us _ _ _
      · rw [tz_un _ _ _ _ e]
        exact h3 q (by omega)
theorem xs_start {post : SX → Prop} {a t : Nat} (hw : ∀ j, w j ≤ 99) (ha : a < 8) (ht : t ≤ 999)
    (k : ∀ U E, (∀ s, s < 8 → U s = if s = a then t else 1000000) → (∀ s, s < 8 → E s = tz_sp w U s 8) → post (nI tr, tz_F cc, tz_F cs, tz_F ct, tz_F w, tz_F U, tz_F E)) : wpX_startAt post (nI tr, tz_F cc, tz_F cs, tz_F ct, tz_F w, tz_F U, tz_F E) (nI a) (nI t) :=
  ⟨9, xs_st2 hw ha ht k 9 0 U (by omega) (by omega) (fun q hq => absurd hq (Nat.not_lt_zero q))⟩
end
/-- rideTrip -/
def xs_B : Bool → Int32
  | true => 1
  | false => 0
theorem xs_B1 {b : Bool} (h : b = true) : ¬ xs_B b = 0 := by
  rw [h]
  decide
theorem xs_B0 {b : Bool} (h : ¬ b = true) : xs_B b = 0 := by
  cases b with
  | true => exact absurd rfl h
  | false => rfl
section
variable {tr : Nat} {cc cs ct w U E : Nat → Nat}
theorem xs_r63 {post : SX → Prop} {J4 : Int32 → Int32 → (Nat → Int32) → (Nat → Int32) → (Nat → Int32) → (Nat → Int32) → (Nat → Int32) → (Nat → Int32) → Prop} {x1 : Int32} {b : Bool} {c s t : Nat} (hs : s < 8) (ht : t ≤ 999) (hE : E s ≤ 1000000)
    (k : J4 (xs_B (if E s ≤ t then true else b)) (nI (c + 1)) (tz_F cc) (tz_F cs) (tz_F ct) (tz_F w) (tz_F U) (tz_F E)) : wX_rideTrip_63 post J4 x1 (xs_B b) (nI c) (nI s) (nI t) (nI tr) (tz_F cc) (tz_F cs) (tz_F ct) (tz_F w) (tz_F U) (tz_F E) := by
  refine ⟨pk_in s 8 hs, pk_lt t (E s) (fun h => nm_r (nI_1 c) ?_) (fun h => nm_r (nI_1 c) ?_) rfl (tz_at E s)⟩
  · rw [if_neg (by omega)] at k
    exact k
  · rw [if_pos h] at k
    exact k
theorem xs_ride4 {post : SX → Prop} {i : Nat} (hi : i < 10) (hcc : ∀ j, cc j ≤ 5) (hcs : ∀ j, cs j < 8) (hct : ∀ j, ct j ≤ 999) (hE : ∀ q, q < 8 → E q ≤ 1000000) (hU : ∀ q, q < 8 → U q ≤ 1000000)
    (k : post (nI tr, tz_F cc, tz_F cs, tz_F ct, tz_F w, tz_F (tz_rt cs ct E (i * 5) U (cc i)), tz_F E)) :
    ∀ n c, cc i < n + c → c ≤ cc i → wX_rideTrip_4 post (nI i) (nI tr) n (xs_B (tz_ab cs ct E (i * 5) c)) (nI c) (tz_F cc) (tz_F cs) (tz_F ct) (tz_F w) (tz_F (tz_rt cs ct E (i * 5) U c)) (tz_F E) := by
  intro n
  induction n with
  | zero =>
    intro c h1 h2
    omega
  | succ n ih =>
    intro c h1 h2
    have h5 := hcc i
    refine ⟨pk_in i 10 hi, pk_le (cc i) c (fun h => ?_) (fun h => ?_) (tz_at cc i) rfl⟩
    · obtain rfl : c = cc i := by omega
      exact k
    · have kk := ih (c + 1) (by omega) (by omega)
      have hc8 := hcs (i * 5 + c)
      have ht9 := hct (i * 5 + c)
      have hrt : tz_rt cs ct E (i * 5) U c (cs (i * 5 + c)) ≤ 1000000 := tz_rt_ub (hU _ hc8)
      refine ⟨pk_in (i * 5 + c) 50 (by omega) (tz_i5 i c), tz_rd cs (i * 5 + c) ?_ (tz_i5 i c)⟩
      refine ⟨pk_in (i * 5 + c) 50 (by omega) (tz_i5 i c), tz_rd ct (i * 5 + c) ?_ (tz_i5 i c)⟩
      by_cases hb : tz_ab cs ct E (i * 5) c = true
      · refine br_f (xs_B1 hb) ⟨pk_in _ 8 hc8, pk_le (tz_rt cs ct E (i * 5) U c (cs (i * 5 + c))) (ct (i * 5 + c)) (fun h2 => ?_) (fun h2 => ?_) (tz_at _ _) rfl⟩
        · have e : tz_rt cs ct E (i * 5) U (c + 1) = tz_rt cs ct E (i * 5) U c := if_neg (fun z => absurd z.2 (by omega))
          rw [e] at kk
          exact xs_r63 hc8 ht9 (hE _ hc8) kk
        · have e : tz_rt cs ct E (i * 5) U (c + 1) = tz_u (tz_rt cs ct E (i * 5) U c) (cs (i * 5 + c)) (ct (i * 5 + c)) := if_pos (And.intro hb h2)
          rw [e] at kk
          exact ⟨pk_in _ 8 hc8, tz_st _ (cs (i * 5 + c)) (ct (i * 5 + c)) (xs_r63 hc8 ht9 (hE _ hc8) kk)⟩
      · have e : tz_rt cs ct E (i * 5) U (c + 1) = tz_rt cs ct E (i * 5) U c := if_neg (fun z => hb z.1)
        rw [e] at kk
        exact br_t (xs_B0 hb) (xs_r63 hc8 ht9 (hE _ hc8) kk)
theorem xs_ride {post : SX → Prop} {i : Nat} (hi : i < 10) (hcc : ∀ j, cc j ≤ 5) (hcs : ∀ j, cs j < 8) (hct : ∀ j, ct j ≤ 999) (hE : ∀ q, q < 8 → E q ≤ 1000000) (hU : ∀ q, q < 8 → U q ≤ 1000000)
    (k : post (nI tr, tz_F cc, tz_F cs, tz_F ct, tz_F w, tz_F (tz_rt cs ct E (i * 5) U (cc i)), tz_F E)) : wpX_rideTrip post (nI tr, tz_F cc, tz_F cs, tz_F ct, tz_F w, tz_F U, tz_F E) (nI i) :=
  ⟨cc i + 1, xs_ride4 hi hcc hcs hct hE hU k (cc i + 1) 0 (by omega) (by omega)⟩
/-- addRide -/
theorem xs_add2 {post : SX → Prop} (hI : tz_I tr cc cs ct w) (hE : ∀ q, q < 8 → E q ≤ 1000000) (hU : ∀ q, q < 8 → U q ≤ 1000000)
    (k : ∀ E', (∀ s, s < 8 → E' s = tz_sp w (tz_xr cs ct cc E U tr) s 8) → post (nI tr, tz_F cc, tz_F cs, tz_F ct, tz_F w, tz_F (tz_xr cs ct cc E U tr), tz_F E')) :
    ∀ n i, tr < n + i → i ≤ tr → wX_addRide_2 post n (nI i) (nI tr) (tz_F cc) (tz_F cs) (tz_F ct) (tz_F w) (tz_F (tz_xr cs ct cc E U i)) (tz_F E) := by
  obtain ⟨g1, g2, g3, g4, g5, g6, g7⟩ := hI
  intro n
  induction n with
  | zero =>
    intro i h1 h2
    omega
  | succ n ih =>
    intro i h1 h2
    refine pk_le tr i (fun h => ?_) (fun h => ?_)
    · obtain rfl : i = tr := by omega
      exact xs_spread g5 (fun q hq => tz_xr_ub (hU q hq)) (fun E' hE' => k E' hE')
    · exact xs_ride (by omega) g2 g3 g4 hE (fun q hq => tz_xr_ub (hU q hq)) (nm_r (nI_1 i) (ih (i + 1) (by omega) (by omega)))
theorem xs_add {post : SX → Prop} (hI : tz_I tr cc cs ct w) (hE : ∀ q, q < 8 → E q ≤ 1000000) (hU : ∀ q, q < 8 → U q ≤ 1000000)
    (k : ∀ E', (∀ s, s < 8 → E' s = tz_sp w (tz_xr cs ct cc E U tr) s 8) → post (nI tr, tz_F cc, tz_F cs, tz_F ct, tz_F w, tz_F (tz_xr cs ct cc E U tr), tz_F E')) : wpX_addRide post (nI tr, tz_F cc, tz_F cs, tz_F ct, tz_F w, tz_F U, tz_F E) :=
  ⟨tr + 1, xs_add2 hI hE hU k (tr + 1) 0 (by omega) (by omega)⟩
end
section
variable {tr a t : Nat} {cc cs ct w U E : Nat → Nat}
theorem xs_UE {k : Nat} (hU : tz_XU cs ct cc w tr a t k U) : ∀ q, q < 8 → U q ≤ 1000000 := fun q hq => by
  have h := hU.2 q hq
  omega
theorem xs_EE {k : Nat} (hE : tz_XE cs ct cc w tr a t k E) : ∀ q, q < 8 → E q ≤ 1000000 := fun q hq => by
  have h := hE.2 q hq
  omega
/-- one ride more -/
theorem xs_addk {post : SX → Prop} {j : Nat} (hI : tz_I tr cc cs ct w) (hU : tz_XU cs ct cc w tr a t j U) (hE : tz_XE cs ct cc w tr a t j E)
    (k : ∀ U' E', tz_XU cs ct cc w tr a t (j + 1) U' → tz_XE cs ct cc w tr a t (j + 1) E' → post (nI tr, tz_F cc, tz_F cs, tz_F ct, tz_F w, tz_F U', tz_F E')) : wpX_addRide post (nI tr, tz_F cc, tz_F cs, tz_F ct, tz_F w, tz_F U, tz_F E) := by
  have h := tz_XU_s hI.2.2.1 hI.2.2.2.1 hU hE
  exact xs_add hI (xs_EE hE) (xs_UE hU) (fun E' hE' => k _ E' h (tz_XE_k hI.2.2.2.2.1 h hE'))
theorem xs_startk {post : SX → Prop} (hI : tz_I tr cc cs ct w) (ha : a < 8) (ht : t ≤ 999)
    (k : ∀ U' E', tz_XU cs ct cc w tr a t 0 U' → tz_XE cs ct cc w tr a t 0 E' → post (nI tr, tz_F cc, tz_F cs, tz_F ct, tz_F w, tz_F U', tz_F E')) : wpX_startAt post (nI tr, tz_F cc, tz_F cs, tz_F ct, tz_F w, tz_F U, tz_F E) (nI a) (nI t) :=
  xs_start hI.2.2.2.2.1 ha ht (fun U' E' h1 h2 => k U' E' (tz_XU_0 ha ht h1) (tz_XE_k hI.2.2.2.2.1 (tz_XU_0 ha ht h1) h2))
theorem xs_sr9 {post : SX → Prop} {R : Nat} (hI : tz_I tr cc cs ct w) (hR : R ≤ 10)
    (k : ∀ U E, tz_XU cs ct cc w tr a t R U → tz_XE cs ct cc w tr a t R E → post (nI tr, tz_F cc, tz_F cs, tz_F ct, tz_F w, tz_F U, tz_F E)) :
    ∀ n j U E, R < n + j → j ≤ R → tz_XU cs ct cc w tr a t j U → tz_XE cs ct cc w tr a t j E → wX_search_9 post (nI R) n (nI j) (nI tr) (tz_F cc) (tz_F cs) (tz_F ct) (tz_F w) (tz_F U) (tz_F E) := by
  intro n
  induction n with
  | zero =>
    intro j U E h1 h2
    omega
  | succ n ih =>
    intro j U E h1 h2 hU hE
    refine pk_le R j (fun h => ?_) (fun h => ?_)
    · obtain rfl : j = R := by omega
      exact k U E hU hE
    · exact xs_addk hI hU hE (fun U' E' hU' hE' => nm_r (nI_1 j) (ih (j + 1) U' E' (by omega) (by omega) hU' hE'))
theorem xs_search {post : SX → Prop} {R : Nat} (hI : tz_I tr cc cs ct w) (ha : a < 8) (ht : t ≤ 999) (hR : R ≤ 10)
    (k : ∀ U E, tz_XU cs ct cc w tr a t R U → tz_XE cs ct cc w tr a t R E → post (nI tr, tz_F cc, tz_F cs, tz_F ct, tz_F w, tz_F U, tz_F E)) : wpX_search post (nI tr, tz_F cc, tz_F cs, tz_F ct, tz_F w, tz_F U, tz_F E) (nI a) (nI t) (nI R) := by
  unfold wpX_search
  dsimp only
  exact xs_startk hI ha ht (fun U' E' hU hE => ⟨R + 1, xs_sr9 hI hR k (R + 1) 0 U' E' (by omega) (by omega) hU hE⟩)
end
end
section
/-! the reference's private methods -/
theorem ys_stop_t {post : Int32 → Prop} {u : SY} {x : Int32} (h : tz_in x 8) (k : post 1) : wpY_isStop post u x := by
  obtain ⟨u1, u2, u3, u4, u5, u6, u7⟩ := u
  obtain ⟨s, hs, rfl⟩ := h
  exact br_f (nI_pos (by omega)) (br_f (nI_ge (b := 8) hs (by decide)) k)
theorem ys_stop_f {post : Int32 → Prop} {u : SY} {x : Int32} (h : ¬ tz_in x 8) (k : post 0) : wpY_isStop post u x := by
  obtain ⟨u1, u2, u3, u4, u5, u6, u7⟩ := u
  exact br_c (fun _ => k) (fun h0 => br_t (Int32.not_lt.mp (tz_in_f (n := 8) (by decide) h h0)) k)
theorem ys_time_t {post : Int32 → Prop} {u : SY} {x : Int32} (h : tz_in x 1000) (k : post 1) : wpY_isTime post u x := by
  obtain ⟨u1, u2, u3, u4, u5, u6, u7⟩ := u
  obtain ⟨s, hs, rfl⟩ := h
  exact br_f (nI_pos (by omega)) (br_f (nI_nlt (a := 999) (by omega) (by decide)) k)
theorem ys_time_f {post : Int32 → Prop} {u : SY} {x : Int32} (h : ¬ tz_in x 1000) (k : post 0) : wpY_isTime post u x := by
  obtain ⟨u1, u2, u3, u4, u5, u6, u7⟩ := u
  exact br_c (fun _ => k) (fun h0 => br_t (tz_999 h h0) k)
theorem ys_sT {A B : Prop} {u : SY} {x : Int32} (h : tz_in x 8) (k : B) : wpY_isStop (fun r => (r = 0 → A) ∧ (¬ r = 0 → B)) u x := ys_stop_t h (xs_b1 k)
theorem ys_sF {A B : Prop} {u : SY} {x : Int32} (h : ¬ tz_in x 8) (k : A) : wpY_isStop (fun r => (r = 0 → A) ∧ (¬ r = 0 → B)) u x := ys_stop_f h (xs_b0 k)
theorem ys_tT {A B : Prop} {u : SY} {x : Int32} (h : tz_in x 1000) (k : B) : wpY_isTime (fun r => (r = 0 → A) ∧ (¬ r = 0 → B)) u x := ys_time_t h (xs_b1 k)
theorem ys_tF {A B : Prop} {u : SY} {x : Int32} (h : ¬ tz_in x 1000) (k : A) : wpY_isTime (fun r => (r = 0 → A) ∧ (¬ r = 0 → B)) u x := ys_time_f h (xs_b0 k)
section
variable {tr : Nat} {cc cs ct w O T : Nat → Nat}
/-- walkOn -/
theorem ys_w23 {post : SY → Prop} {J2 : Int32 → (Nat → Int32) → (Nat → Int32) → (Nat → Int32) → (Nat → Int32) → (Nat → Int32) → (Nat → Int32) → Prop} {r s : Nat} (hr : r ≤ 10) (hs : s < 8) (hw : ∀ j, w j ≤ 99) (hO : ∀ q, q < 8 → O (r * 8 + q) ≤ 100000)
    (k : J2 (nI (s + 1)) (tz_F cc) (tz_F cs) (tz_F ct) (tz_F w) (tz_F O) (tz_F (tz_u T (r * 8 + s) (tz_sp w (fun q => O (r * 8 + q)) s 8)))) :
    ∀ n f, 8 < n + f → f ≤ 8 → wY_walkOn_23 post J2 (nI r) (nI s) (nI tr) (tz_F cc) (tz_F cs) (tz_F ct) (tz_F w) (tz_F O) (tz_F T) n (nI (tz_sp w (fun q => O (r * 8 + q)) s f)) (nI f) := by
  intro n
  induction n with
  | zero =>
    intro f h1 h2
    omega
  | succ n ih =>
    intro f h1 h2
    refine pk_le 8 f (fun h => ?_) (fun h => ?_)
    · obtain rfl : f = 8 := by omega
      exact ⟨pk_in (r * 8 + s) 88 (by omega) (tz_i8 r s), tz_st T (r * 8 + s) _ (nm_r (nI_1 s) k) (tz_i8 r s)⟩
    · have kk := ih (f + 1) (by omega) (by omega)
      have hwf := hw (f * 8 + s)
      have hOf := hO f h
      have hsp : tz_sp w (fun q => O (r * 8 + q)) s f ≤ 100000 := tz_sp_ub (hO s hs)
      refine ⟨pk_in (f * 8 + s) 64 (by omega) (tz_i8 f s), tz_rd w (f * 8 + s) ?_ (tz_i8 f s)⟩
      refine pk_le (w (f * 8 + s)) 0 (fun h3 => ?_) (fun h3 => ?_)
      · have e : tz_sp w (fun q => O (r * 8 + q)) s (f + 1) = tz_sp w (fun q => O (r * 8 + q)) s f := if_neg (by omega)
        rw [e] at kk
        exact nm_r (nI_1 f) kk
      · have ey : tz_F O (nI r * 8 + nI f).toNatClampNeg + nI (w (f * 8 + s)) = nI (O (r * 8 + f) + w (f * 8 + s)) := by rw [tz_at O (r * 8 + f) (tz_i8 r f), nI_add]
        refine ⟨pk_in (r * 8 + f) 88 (by omega) (tz_i8 r f), pk_le (tz_sp w (fun q => O (r * 8 + q)) s f) (O (r * 8 + f) + w (f * 8 + s)) (fun h4 => ?_) (fun h4 => ?_) rfl ey⟩
        · have e : tz_sp w (fun q => O (r * 8 + q)) s (f + 1) = tz_sp w (fun q => O (r * 8 + q)) s f := if_neg (fun z => absurd z.2 (Nat.not_lt.mpr h4))
          rw [e] at kk
          exact nm_r (nI_1 f) kk
        · have e : tz_sp w (fun q => O (r * 8 + q)) s (f + 1) = O (r * 8 + f) + w (f * 8 + s) := if_pos (And.intro h3 h4)
          rw [e] at kk
          exact ⟨pk_in (r * 8 + f) 88 (by omega) (tz_i8 r f), nm_r ey (nm_r (nI_1 f) kk)⟩
theorem ys_w2 {post : SY → Prop} {r : Nat} (hr : r ≤ 10) (hw : ∀ j, w j ≤ 99) (hO : ∀ q, q < 8 → O (r * 8 + q) ≤ 100000)
    (k : ∀ T', (∀ s, s < 8 → T' (r * 8 + s) = tz_sp w (fun q => O (r * 8 + q)) s 8) → (∀ j, j < r * 8 → T' j = T j) → post (nI tr, tz_F cc, tz_F cs, tz_F ct, tz_F w, tz_F O, tz_F T')) :
    ∀ n s T', 8 < n + s → s ≤ 8 → (∀ q, q < s → T' (r * 8 + q) = tz_sp w (fun q => O (r * 8 + q)) q 8) → (∀ j, j < r * 8 → T' j = T j) → wY_walkOn_2 post (nI r) (nI tr) n (nI s) (tz_F cc) (tz_F cs) (tz_F ct) (tz_F w) (tz_F O) (tz_F T') := by
  intro n
  induction n with
  | zero =>
    intro s T' h1 h2
    omega
  | succ n ih =>
    intro s T' h1 h2 h3 h4
    refine pk_le 8 s (fun h => ?_) (fun h => ?_)
    · exact k T' (fun q hq => h3 q (by omega)) h4
    · refine ⟨pk_in (r * 8 + s) 88 (by omega) (tz_i8 r s), tz_rd O (r * 8 + s) ?_ (tz_i8 r s)⟩
      refine ⟨9, ys_w23 hr h hw hO (ih (s + 1) _ (by omega) (by omega) (fun q hq => ?_) (fun j hj => ?_)) 9 0 (by omega) (by omega)⟩
      · by_cases e : q = s
        · subst e
          exact tz_us _ _ _
        · rw [tz_un T' (r * 8 + s) _ (r * 8 + q) (by omega)]
          exact h3 q (by omega)
      · rw [tz_un T' (r * 8 + s) _ j (by omega)]
        exact h4 j hj
theorem ys_walkOn {post : SY → Prop} {r : Nat} (hr : r ≤ 10) (hw : ∀ j, w j ≤ 99) (hO : ∀ q, q < 8 → O (r * 8 + q) ≤ 100000)
    (k : ∀ T', (∀ s, s < 8 → T' (r * 8 + s) = tz_sp w (fun q => O (r * 8 + q)) s 8) → (∀ j, j < r * 8 → T' j = T j) → post (nI tr, tz_F cc, tz_F cs, tz_F ct, tz_F w, tz_F O, tz_F T')) : wpY_walkOn post (nI tr, tz_F cc, tz_F cs, tz_F ct, tz_F w, tz_F O, tz_F T) (nI r) :=
  ⟨9, ys_w2 hr hw hO k 9 0 T (by omega) (by omega) (fun q hq => absurd hq (Nat.not_lt_zero q)) (fun j _ => rfl)⟩
/-- ride -/
theorem ys_r41 {post : SY → Prop} {r i q : Nat} (hr : r ≤ 10) (hi : i < 10) (hq : q < cc i) (hcc : ∀ j, cc j ≤ 5) (hcs : ∀ j, cs j < 8) (hct : ∀ j, ct j ≤ 999) (hO : ∀ j, j < 88 → O j ≤ 100000)
    (k : post (nI tr, tz_F cc, tz_F cs, tz_F ct, tz_F w, tz_F (tz_yc cs ct r (i * 5) q O (cc i - (q + 1))), tz_F T)) :
    ∀ n m, cc i < n + (q + 1 + m) → q + 1 + m ≤ cc i → wY_ride_41 post (nI r) (nI i) (nI tr) n (nI (q + 1 + m)) (tz_F cc) (tz_F cs) (tz_F ct) (tz_F w) (tz_F (tz_yc cs ct r (i * 5) q O m)) (tz_F T) := by
  intro n
  induction n with
  | zero =>
    intro m h1 h2
    omega
  | succ n ih =>
    intro m h1 h2
    have h5 := hcc i
    refine ⟨pk_in i 10 hi, pk_le (cc i) (q + 1 + m) (fun h => ?_) (fun h => ?_) (tz_at cc i) rfl⟩
    · have e : cc i - (q + 1) = m := by omega
      rw [e] at k
      exact k
    · have kk := ih (m + 1) (by omega) (by omega)
      have hc8 := hcs (i * 5 + (q + 1 + m))
      have ht9 := hct (i * 5 + (q + 1 + m))
      have hyc : tz_yc cs ct r (i * 5) q O m (r * 8 + cs (i * 5 + (q + 1 + m))) ≤ 100000 := tz_yc_ub (hO _ (by omega))
      have e5 : nI r * 8 + tz_F cs (nI i * 5 + nI (q + 1 + m)).toNatClampNeg = nI (r * 8 + cs (i * 5 + (q + 1 + m))) := by rw [tz_at cs (i * 5 + (q + 1 + m)) (tz_i5 i _), tz_i8]
      have et : tz_F ct (nI i * 5 + nI (q + 1 + m)).toNatClampNeg = nI (ct (i * 5 + (q + 1 + m))) := tz_at ct (i * 5 + (q + 1 + m)) (tz_i5 i _)
      refine ⟨pk_in (i * 5 + (q + 1 + m)) 50 (by omega) (tz_i5 i _), nm_r e5 ?_⟩
      refine ⟨pk_in (i * 5 + (q + 1 + m)) 50 (by omega) (tz_i5 i _), pk_in (r * 8 + cs (i * 5 + (q + 1 + m))) 88 (by omega), ?_⟩
      refine pk_le (tz_yc cs ct r (i * 5) q O m (r * 8 + cs (i * 5 + (q + 1 + m)))) (ct (i * 5 + (q + 1 + m))) (fun h2 => ?_) (fun h2 => ?_) (tz_at _ _) et
      · have e : tz_yc cs ct r (i * 5) q O (m + 1) = tz_yc cs ct r (i * 5) q O m := if_neg (Nat.not_lt.mpr h2)
        rw [e] at kk
        exact nm_r (nI_1 _) kk
      · have e : tz_yc cs ct r (i * 5) q O (m + 1) = tz_u (tz_yc cs ct r (i * 5) q O m) (r * 8 + cs (i * 5 + (q + 1 + m))) (ct (i * 5 + (q + 1 + m))) := if_pos h2
        rw [e] at kk
        exact ⟨pk_in (i * 5 + (q + 1 + m)) 50 (by omega) (tz_i5 i _), pk_in (r * 8 + cs (i * 5 + (q + 1 + m))) 88 (by omega), tz_st _ (r * 8 + cs (i * 5 + (q + 1 + m))) (ct (i * 5 + (q + 1 + m))) (nm_r (nI_1 _) kk) rfl et⟩
theorem ys_ride {post : SY → Prop} {r i q : Nat} (hr1 : 1 ≤ r) (hr : r ≤ 10) (hi : i < 10) (hq : q < cc i) (hcc : ∀ j, cc j ≤ 5) (hcs : ∀ j, cs j < 8) (hct : ∀ j, ct j ≤ 999) (hO : ∀ j, j < 88 → O j ≤ 100000) (hT : ∀ s, s < 8 → T ((r - 1) * 8 + s) ≤ 100000)
    (k : post (nI tr, tz_F cc, tz_F cs, tz_F ct, tz_F w, tz_F (tz_yr cs ct cc T r i q O), tz_F T)) : wpY_ride post (nI tr, tz_F cc, tz_F cs, tz_F ct, tz_F w, tz_F O, tz_F T) (nI r) (nI i) (nI q) := by
  have h5 := hcc i
  have hc8 := hcs (i * 5 + q)
  have ht9 := hct (i * 5 + q)
  have hTq := hT _ hc8
  have e1 : (nI r - 1) * 8 + tz_F cs (nI i * 5 + nI q).toNatClampNeg = nI ((r - 1) * 8 + cs (i * 5 + q)) := by rw [tz_at cs (i * 5 + q) (tz_i5 i q), tz_s1 hr1, tz_i8]
  have et : tz_F ct (nI i * 5 + nI q).toNatClampNeg = nI (ct (i * 5 + q)) := tz_at ct (i * 5 + q) (tz_i5 i q)
  refine ⟨pk_in (i * 5 + q) 50 (by omega) (tz_i5 i q), pk_in _ 88 (by omega) e1, pk_in (i * 5 + q) 50 (by omega) (tz_i5 i q), ?_⟩
  refine pk_le (T ((r - 1) * 8 + cs (i * 5 + q))) (ct (i * 5 + q)) (fun h => ?_) (fun h => ?_) (tz_at T _ e1) et
  · have e : tz_yr cs ct cc T r i q O = tz_yc cs ct r (i * 5) q O (cc i - (q + 1)) := if_neg (Nat.not_lt.mpr h)
    rw [e] at k
    exact nm_r (nI_1 q) ⟨cc i + 1, ys_r41 hr hi hq hcc hcs hct hO k (cc i + 1) 0 (by omega) (by omega)⟩
  · have e : tz_yr cs ct cc T r i q O = O := if_pos h
    rw [e] at k
    exact k
/-- search: one round -/
theorem ys_s47 {post : SY → Prop} {J38 : Int32 → Int32 → (Nat → Int32) → (Nat → Int32) → (Nat → Int32) → (Nat → Int32) → (Nat → Int32) → (Nat → Int32) → Prop} {r : Nat} (hI : tz_I tr cc cs ct w) (hr1 : 1 ≤ r) (hr : r ≤ 10) (hO : ∀ j, j < 88 → O j ≤ 100000) (hT : ∀ s, s < 8 → T ((r - 1) * 8 + s) ≤ 100000)
    (k : ∀ T', (∀ s, s < 8 → T' (r * 8 + s) = tz_sp w (fun q => tz_ym cs ct cc T r O (tr * 5) (r * 8 + q)) s 8) → (∀ j, j < r * 8 → T' j = T j) → J38 (nI (r + 1)) (nI tr) (tz_F cc) (tz_F cs) (tz_F ct) (tz_F w) (tz_F (tz_ym cs ct cc T r O (tr * 5))) (tz_F T')) :
    ∀ n m, tr * 5 < n + m → m ≤ tr * 5 → wY_search_47 post J38 (nI r) n (nI m) (nI tr) (tz_F cc) (tz_F cs) (tz_F ct) (tz_F w) (tz_F (tz_ym cs ct cc T r O m)) (tz_F T) := by
  obtain ⟨g1, g2, g3, g4, g5, g6, g7⟩ := hI
  intro n
  induction n with
  | zero =>
    intro m h1 h2
    omega
  | succ n ih =>
    intro m h1 h2
    refine pk_le (tr * 5) m (fun h => ?_) (fun h => ?_) (tz_m5 tr) rfl
    · obtain rfl : m = tr * 5 := by omega
      exact ys_walkOn hr g5 (fun q hq => tz_ym_ub (hO _ (by omega))) (fun T' h3 h4 => nm_r (nI_1 r) (k T' h3 h4))
    · have kk := ih (m + 1) (by omega) (by omega)
      have hcd := g2 (m / 5)
      have ed : nI m / 5 = nI (m / 5) := pk_div (d := 5) (by omega) (by decide) (by decide)
      have em : nI m - nI m / 5 * 5 = nI (m % 5) := pk_rem (d := 5) (by omega) (by decide) (by decide)
      refine ⟨by decide, by decide, pk_in (m / 5) 10 (by omega) ed, pk_le (cc (m / 5)) (m % 5) (fun h3 => ?_) (fun h3 => ?_) (tz_at cc (m / 5) ed) em⟩
      · have e : tz_ym cs ct cc T r O (m + 1) = tz_ym cs ct cc T r O m := if_neg (Nat.not_lt.mpr h3)
        rw [e] at kk
        exact nm_r (nI_1 m) kk
      · have e : tz_ym cs ct cc T r O (m + 1) = tz_yr cs ct cc T r (m / 5) (m % 5) (tz_ym cs ct cc T r O m) := if_pos h3
        rw [e] at kk
        refine ⟨by decide, by decide, ?_⟩
        rw [ed, show nI m - nI (m / 5) * 5 = nI (m % 5) from ed ▸ em]
        exact ys_ride hr1 hr (by omega) h3 g2 g3 g4 (fun j hj => tz_ym_ub (hO j hj)) hT (nm_r (nI_1 m) kk)
end
section
variable {tr a t : Nat} {cc cs ct w O T : Nat → Nat}
theorem ys_s38 {post : SY → Prop} (hI : tz_I tr cc cs ct w) (k : ∀ O T, tz_YR cs ct cc w tr a t 11 O T → post (nI tr, tz_F cc, tz_F cs, tz_F ct, tz_F w, tz_F O, tz_F T)) :
    ∀ n r O T, 11 < n + r → 1 ≤ r → r ≤ 11 → tz_YR cs ct cc w tr a t r O T → wY_search_38 post n (nI r) (nI tr) (tz_F cc) (tz_F cs) (tz_F ct) (tz_F w) (tz_F O) (tz_F T) := by
  intro n
  induction n with
  | zero =>
    intro r O T h1 h2 h3
    omega
  | succ n ih =>
    intro r O T h1 h2 h3 h4
    refine pk_lt 10 r (fun h => ?_) (fun h => ?_)
    · obtain rfl : r = 11 := by omega
      exact k O T h4
    · exact ⟨tr * 5 + 1, ys_s47 hI h2 h h4.2.2 (h4.1 (r - 1) (by omega)).2 (fun T' h5 h6 => ih (r + 1) _ T' (by omega) (by omega) (by omega) (tz_YR_s hI.2.2.1 hI.2.2.2.1 hI.2.1 h2 h h4 h5 h6)) (tr * 5 + 1) 0 (by omega) (by omega)⟩
theorem ys_s2 {post : SY → Prop} (hI : tz_I tr cc cs ct w) (ha : a < 8) (ht : t ≤ 999) (k : ∀ O T, tz_YR cs ct cc w tr a t 11 O T → post (nI tr, tz_F cc, tz_F cs, tz_F ct, tz_F w, tz_F O, tz_F T)) :
    ∀ n s O, 88 < n + s → s ≤ 88 → (∀ q, q < s → O q = if q = a then t else 100000) → wY_search_2 post (nI a) (nI t) (nI tr) n (nI s) (tz_F cc) (tz_F cs) (tz_F ct) (tz_F w) (tz_F O) (tz_F T) := by
  intro n
  induction n with
  | zero =>
    intro s O h1 h2
    omega
  | succ n ih =>
    intro s O h1 h2 h3
    refine pk_le 88 s (fun h => ?_) (fun h => ?_)
    · have hO : ∀ q, q < 88 → O q = if q = a then t else 100000 := fun q hq => h3 q (by omega)
      refine ys_walkOn (r := 0) (by omega) hI.2.2.2.2.1 (fun q hq => ?_) (fun T' h5 h6 => ?_)
      · rw [hO _ (by omega)]
        split <;> omega
      · refine ⟨11, ys_s38 hI k 11 1 O T' (by omega) (by omega) (by omega) (tz_YR_1 ha ht hO (fun s hs => ?_))⟩
        have h7 := h5 s hs
        have e : (fun q => O (0 * 8 + q)) = O := by
          funext q
          rw [Nat.zero_mul, Nat.zero_add]
        rw [e, Nat.zero_mul, Nat.zero_add] at h7
        exact h7
    · refine pk_eq s a (fun h4 => ?_) (fun h4 => ?_)
      · refine ⟨pk_in s 88 h, tz_st O s t (nm_r (nI_1 s) (ih (s + 1) _ (by omega) (by omega) (fun q hq => ?_)))⟩
        by_cases e : q = s
        · subst e
          rw [tz_us, if_pos h4]
        · rw [tz_un _ _ _ _ e]
          exact h3 q (by omega)
      · refine ⟨pk_in s 88 h, tz_st O s 100000 (nm_r (nI_1 s) (ih (s + 1) _ (by omega) (by omega) (fun q hq => ?_)))⟩
        by_cases e : q = s
        · subst e
          rw [tz_us, if_neg h4]
        · rw [tz_un _ _ _ _ e]
          exact h3 q (by omega)
theorem ys_search {post : SY → Prop} (hI : tz_I tr cc cs ct w) (ha : a < 8) (ht : t ≤ 999) (k : ∀ O T, tz_YR cs ct cc w tr a t 11 O T → post (nI tr, tz_F cc, tz_F cs, tz_F ct, tz_F w, tz_F O, tz_F T)) : wpY_search post (nI tr, tz_F cc, tz_F cs, tz_F ct, tz_F w, tz_F O, tz_F T) (nI a) (nI t) :=
  ⟨89, ys_s2 hI ha ht k 89 0 O (by omega) (by omega) (fun q hq => absurd hq (Nat.not_lt_zero q))⟩
/-- best -/
theorem ys_b6 {post : Int32 → Prop} {b R : Nat} (hb : b < 8) (hR : R ≤ 10) (hT : ∀ j, j ≤ R → T (j * 8 + b) ≤ 100000) (k : post (nI (tz_b T b (R + 1)))) :
    ∀ n j, R + 1 < n + j → j ≤ R + 1 → wY_best_6 post (nI b) (nI R) (nI tr) (tz_F cc) (tz_F cs) (tz_F ct) (tz_F w) (tz_F O) (tz_F T) n (nI (tz_b T b j)) (nI j) := by
  intro n
  induction n with
  | zero =>
    intro j h1 h2
    omega
  | succ n ih =>
    intro j h1 h2
    refine pk_lt R j (fun h => ?_) (fun h => ?_)
    · obtain rfl : j = R + 1 := by omega
      exact k
    · have kk := ih (j + 1) (by omega) (by omega)
      have hTj := hT j h
      have hub : tz_b T b j ≤ 100000 := (tz_b_le T b j 100000).mpr (Or.inl (Nat.le_refl _))
      have ey : tz_F T (nI j * 8 + nI b).toNatClampNeg = nI (T (j * 8 + b)) := tz_at T (j * 8 + b) (tz_i8 j b)
      refine ⟨pk_in (j * 8 + b) 88 (by omega) (tz_i8 j b), pk_le (tz_b T b j) (T (j * 8 + b)) (fun h3 => ?_) (fun h3 => ?_) rfl ey⟩
      · have e : tz_b T b (j + 1) = tz_b T b j := if_neg (Nat.not_lt.mpr h3)
        rw [e] at kk
        exact nm_r (nI_1 j) kk
      · have e : tz_b T b (j + 1) = T (j * 8 + b) := if_pos h3
        rw [e] at kk
        exact ⟨pk_in (j * 8 + b) 88 (by omega) (tz_i8 j b), nm_r ey (nm_r (nI_1 j) kk)⟩
theorem ys_best {post : Int32 → Prop} {b R : Nat} (hb : b < 8) (hR : R ≤ 10) (hT : tz_YR cs ct cc w tr a t 11 O T) (k : post (nI (tz_b T b (R + 1)))) : wpY_best post (nI tr, tz_F cc, tz_F cs, tz_F ct, tz_F w, tz_F O, tz_F T) (nI b) (nI R) :=
  ⟨R + 2, ys_b6 hb hR (fun j hj => (hT.1 j (by omega)).2 b hb) k (R + 2) 0 (by omega) (by omega)⟩
theorem ys_ub {b n : Nat} : tz_b T b n ≤ 100000 := (tz_b_le T b n 100000).mpr (Or.inl (Nat.le_refl _))
end
end
section
/-! the questions, side by side -/
theorem tz_le_f {x : Int32} {n : Nat} (hn : n < 2 ^ 31) (h : ¬ tz_in x (n + 1)) (h0 : ¬ x < 0) : ¬ x ≤ nI n := by
  obtain ⟨j, hj, rfl⟩ := nI_of h0
  have h1 : ¬ j < n + 1 := fun z => h ⟨j, z, rfl⟩
  exact nI_ge (by omega) hj
theorem tz_sim_le {x l y : Nat} (h : tz_sim x l) (hy : y ≤ 999) : x ≤ y ↔ l ≤ y := by
  unfold tz_sim at h
  omega
theorem xs_pre_f {B C : Prop} {p0 p1 p2 : Int32} (h : ¬ (tz_in p0 8 ∧ tz_in p1 8 ∧ tz_in p2 1000)) (k : B) :
    wpX_isStop (fun r1 => (r1 = 0 → B) ∧ (¬ r1 = 0 → wpX_isStop (fun r3 => (r3 = 0 → B) ∧ (¬ r3 = 0 → wpX_isTime (fun r5 => (r5 = 0 → B) ∧ (¬ r5 = 0 → C)) p2)) p1)) p0 := by
  by_cases h1 : tz_in p0 8
  · by_cases h2 : tz_in p1 8
    · exact xs_sT h1 (xs_sT h2 (xs_tF (fun h3 => h ⟨h1, h2, h3⟩) k))
    · exact xs_sT h1 (xs_sF h2 k)
  · exact xs_sF h1 k
theorem ys_pre_f {B C : Prop} {u1 u2 u3 : SY} {p0 p1 p2 : Int32} (h : ¬ (tz_in p0 8 ∧ tz_in p1 8 ∧ tz_in p2 1000)) (k : B) :
    wpY_isStop (fun r1 => (r1 = 0 → B) ∧ (¬ r1 = 0 → wpY_isStop (fun r3 => (r3 = 0 → B) ∧ (¬ r3 = 0 → wpY_isTime (fun r5 => (r5 = 0 → B) ∧ (¬ r5 = 0 → C)) u3 p2)) u2 p1)) u1 p0 := by
  by_cases h1 : tz_in p0 8
  · by_cases h2 : tz_in p1 8
    · exact ys_sT h1 (ys_sT h2 (ys_tF (fun h3 => h ⟨h1, h2, h3⟩) k))
    · exact ys_sT h1 (ys_sF h2 k)
  · exact ys_sF h1 k
section
variable {tr a b t y R : Nat} {cc cs ct w U E O T : Nat → Nat} {v1 v2 v3 v4 : Int32} {pX : Int32 → SX → Prop} {pY : Int32 → SY → Prop}
/-- arrival -/
theorem xs_arr_f (h : ¬ (tz_in v1 8 ∧ tz_in v2 8 ∧ tz_in v3 1000 ∧ tz_in v4 11)) (k : pX (-1) (nI tr, tz_F cc, tz_F cs, tz_F ct, tz_F w, tz_F U, tz_F E)) : wpX_arrival pX (nI tr, tz_F cc, tz_F cs, tz_F ct, tz_F w, tz_F U, tz_F E) v1 v2 v3 v4 := by
  unfold wpX_arrival
  dsimp only
  by_cases h3 : tz_in v1 8 ∧ tz_in v2 8 ∧ tz_in v3 1000
  · refine xs_sT h3.1 (xs_sT h3.2.1 (xs_tT h3.2.2 (br_c (fun _ => k) (fun h0 => br_f ?_ k))))
    exact tz_le_f (n := 10) (by decide) (fun z => h ⟨h3.1, h3.2.1, h3.2.2, z⟩) h0
  · exact xs_pre_f h3 k
theorem ys_arr_f (h : ¬ (tz_in v1 8 ∧ tz_in v2 8 ∧ tz_in v3 1000 ∧ tz_in v4 11)) (k : pY (-1) (nI tr, tz_F cc, tz_F cs, tz_F ct, tz_F w, tz_F O, tz_F T)) : wpY_arrival pY (nI tr, tz_F cc, tz_F cs, tz_F ct, tz_F w, tz_F O, tz_F T) v1 v2 v3 v4 := by
  unfold wpY_arrival
  dsimp only
  by_cases h3 : tz_in v1 8 ∧ tz_in v2 8 ∧ tz_in v3 1000
  · refine ys_sT h3.1 (ys_sT h3.2.1 (ys_tT h3.2.2 (br_c (fun _ => k) (fun h0 => br_f ?_ k))))
    exact tz_le_f (n := 10) (by decide) (fun z => h ⟨h3.1, h3.2.1, h3.2.2, z⟩) h0
  · exact ys_pre_f h3 k
theorem xs_arr_t (hI : tz_I tr cc cs ct w) (ha : a < 8) (hb : b < 8) (ht : t ≤ 999) (hR : R ≤ 10)
    (k : ∀ U E, tz_XE cs ct cc w tr a t R E → pX (if E b = 1000000 then -3 else nI (E b)) (nI tr, tz_F cc, tz_F cs, tz_F ct, tz_F w, tz_F U, tz_F E)) : wpX_arrival pX (nI tr, tz_F cc, tz_F cs, tz_F ct, tz_F w, tz_F U, tz_F E) (nI a) (nI b) (nI t) (nI R) := by
  unfold wpX_arrival
  dsimp only
  refine xs_sT ⟨a, ha, rfl⟩ (xs_sT ⟨b, hb, rfl⟩ (xs_tT ⟨t, by omega, rfl⟩ (br_f (nI_pos (by omega)) (br_t (nI_le (b := 10) hR (by decide)) ?_))))
  refine xs_search hI ha ht hR (fun U' E' hU hE => ?_)
  have hEb := xs_EE hE b hb
  have kk := k U' E' hE
  refine ⟨pk_in b 8 hb, pk_eq (E' b) 1000000 (fun h => ?_) (fun h => ⟨pk_in b 8 hb, ?_⟩) (tz_at E' b) rfl⟩
  · rw [if_pos h] at kk
    exact kk
  · rw [if_neg h, ← tz_at E' b] at kk
    exact kk
theorem ys_arr_t (hI : tz_I tr cc cs ct w) (ha : a < 8) (hb : b < 8) (ht : t ≤ 999) (hR : R ≤ 10)
    (k : ∀ O T, tz_YR cs ct cc w tr a t 11 O T → pY (if tz_b T b (R + 1) = 100000 then -3 else nI (tz_b T b (R + 1))) (nI tr, tz_F cc, tz_F cs, tz_F ct, tz_F w, tz_F O, tz_F T)) : wpY_arrival pY (nI tr, tz_F cc, tz_F cs, tz_F ct, tz_F w, tz_F O, tz_F T) (nI a) (nI b) (nI t) (nI R) := by
  unfold wpY_arrival
  dsimp only
  refine ys_sT ⟨a, ha, rfl⟩ (ys_sT ⟨b, hb, rfl⟩ (ys_tT ⟨t, by omega, rfl⟩ (br_f (nI_pos (by omega)) (br_t (nI_le (b := 10) hR (by decide)) ?_))))
  refine ys_search hI ha ht (fun O' T' hT => ?_)
  have hub : tz_b T' b (R + 1) ≤ 100000 := ys_ub
  have kk := k O' T' hT
  refine ys_best hb hR hT (pk_eq (tz_b T' b (R + 1)) 100000 (fun h => ?_) (fun h => ?_))
  · rw [if_pos h] at kk
    exact kk
  · rw [if_neg h] at kk
    exact kk
/-- fewest -/
theorem xs_few_f (h : ¬ (tz_in v1 8 ∧ tz_in v2 8 ∧ tz_in v3 1000)) (k : pX (-1) (nI tr, tz_F cc, tz_F cs, tz_F ct, tz_F w, tz_F U, tz_F E)) : wpX_fewest pX (nI tr, tz_F cc, tz_F cs, tz_F ct, tz_F w, tz_F U, tz_F E) v1 v2 v3 := by
  unfold wpX_fewest
  dsimp only
  exact xs_pre_f h k
theorem ys_few_f (h : ¬ (tz_in v1 8 ∧ tz_in v2 8 ∧ tz_in v3 1000)) (k : pY (-1) (nI tr, tz_F cc, tz_F cs, tz_F ct, tz_F w, tz_F O, tz_F T)) : wpY_fewest pY (nI tr, tz_F cc, tz_F cs, tz_F ct, tz_F w, tz_F O, tz_F T) v1 v2 v3 := by
  unfold wpY_fewest
  dsimp only
  exact ys_pre_f h k
theorem tz_EXb (hI : tz_I tr cc cs ct w) (ha : a < 8) (ht : t ≤ 999) (k : Nat) : tz_XE cs ct cc w tr a t k (tz_EX cs ct cc w tr a t k) :=
  tz_EX_k cs ct cc w tr a t hI.2.2.1 hI.2.2.2.1 hI.2.2.2.2.1 ha ht k
theorem xs_few32 (hI : tz_I tr cc cs ct w) (ha : a < 8) (hb : b < 8) (ht : t ≤ 999)
    (k1 : ∀ j U E, j ≤ 10 → (∀ q, q < j → tz_EX cs ct cc w tr a t q b = 1000000) → ¬ tz_EX cs ct cc w tr a t j b = 1000000 → pX (nI j) (nI tr, tz_F cc, tz_F cs, tz_F ct, tz_F w, tz_F U, tz_F E))
    (k2 : ∀ U E, (∀ q, q ≤ 10 → tz_EX cs ct cc w tr a t q b = 1000000) → pX (-3) (nI tr, tz_F cc, tz_F cs, tz_F ct, tz_F w, tz_F U, tz_F E)) :
    ∀ n j U E, 11 < n + j → j ≤ 11 → (∀ q, q < j → tz_EX cs ct cc w tr a t q b = 1000000) → tz_XU cs ct cc w tr a t j U → tz_XE cs ct cc w tr a t j E → wX_fewest_32 pX (nI b) n (nI j) (nI tr) (tz_F cc) (tz_F cs) (tz_F ct) (tz_F w) (tz_F U) (tz_F E) := by
  intro n
  induction n with
  | zero =>
    intro j U E h1 h2
    omega
  | succ n ih =>
    intro j U E h1 h2 h3 hU hE
    refine pk_lt 10 j (fun h => ?_) (fun h => ?_)
    · exact k2 U E (fun q hq => h3 q (by omega))
    · have e : E b = tz_EX cs ct cc w tr a t j b := tz_XE_u hE (tz_EXb hI ha ht j) hb
      have hEb := xs_EE hE b hb
      refine ⟨pk_in b 8 hb, pk_eq (E b) 1000000 (fun h4 => ?_) (fun h4 => ?_) (tz_at E b) rfl⟩
      · refine xs_addk hI hU hE (fun U' E' hU' hE' => nm_r (nI_1 j) (ih (j + 1) U' E' (by omega) (by omega) (fun q hq => ?_) hU' hE'))
        by_cases c : q = j
        · subst c
          rw [← e]
          exact h4
        · exact h3 q (by omega)
      · exact k1 j U E h h3 (fun z => h4 (e.trans z))
theorem xs_few_t (hI : tz_I tr cc cs ct w) (ha : a < 8) (hb : b < 8) (ht : t ≤ 999)
    (k1 : ∀ j U E, j ≤ 10 → (∀ q, q < j → tz_EX cs ct cc w tr a t q b = 1000000) → ¬ tz_EX cs ct cc w tr a t j b = 1000000 → pX (nI j) (nI tr, tz_F cc, tz_F cs, tz_F ct, tz_F w, tz_F U, tz_F E))
    (k2 : ∀ U E, (∀ q, q ≤ 10 → tz_EX cs ct cc w tr a t q b = 1000000) → pX (-3) (nI tr, tz_F cc, tz_F cs, tz_F ct, tz_F w, tz_F U, tz_F E)) : wpX_fewest pX (nI tr, tz_F cc, tz_F cs, tz_F ct, tz_F w, tz_F U, tz_F E) (nI a) (nI b) (nI t) := by
  unfold wpX_fewest
  dsimp only
  refine xs_sT ⟨a, ha, rfl⟩ (xs_sT ⟨b, hb, rfl⟩ (xs_tT ⟨t, by omega, rfl⟩ ?_))
  exact xs_startk hI ha ht (fun U' E' hU hE => ⟨12, xs_few32 hI ha hb ht k1 k2 12 0 U' E' (by omega) (by omega) (fun q hq => absurd hq (Nat.not_lt_zero q)) hU hE⟩)
theorem ys_few35 (hb : b < 8) (hT : tz_YR cs ct cc w tr a t 11 O T)
    (k1 : ∀ j, j ≤ 10 → (∀ q, q < j → 100000 ≤ T (q * 8 + b)) → T (j * 8 + b) < 100000 → pY (nI j) (nI tr, tz_F cc, tz_F cs, tz_F ct, tz_F w, tz_F O, tz_F T))
    (k2 : (∀ q, q ≤ 10 → 100000 ≤ T (q * 8 + b)) → pY (-3) (nI tr, tz_F cc, tz_F cs, tz_F ct, tz_F w, tz_F O, tz_F T)) :
    ∀ n j, 11 < n + j → j ≤ 11 → (∀ q, q < j → 100000 ≤ T (q * 8 + b)) → wY_fewest_35 pY (nI b) (nI tr) (tz_F cc) (tz_F cs) (tz_F ct) (tz_F w) (tz_F O) (tz_F T) n (nI j) := by
  intro n
  induction n with
  | zero =>
    intro j h1 h2
    omega
  | succ n ih =>
    intro j h1 h2 h3
    refine pk_lt 10 j (fun h => ?_) (fun h => ?_)
    · exact k2 (fun q hq => h3 q (by omega))
    · have hub := (hT.1 j (by omega)).2 b hb
      refine ⟨pk_in (j * 8 + b) 88 (by omega) (tz_i8 j b), pk_le 100000 (T (j * 8 + b)) (fun h4 => ?_) (fun h4 => ?_) rfl (tz_at T (j * 8 + b) (tz_i8 j b))⟩
      · refine nm_r (nI_1 j) (ih (j + 1) (by omega) (by omega) (fun q hq => ?_))
        by_cases c : q = j
        · subst c
          exact h4
        · exact h3 q (by omega)
      · exact k1 j h h3 h4
theorem ys_few_t (hI : tz_I tr cc cs ct w) (ha : a < 8) (hb : b < 8) (ht : t ≤ 999)
    (k1 : ∀ O T, tz_YR cs ct cc w tr a t 11 O T → ∀ j, j ≤ 10 → (∀ q, q < j → 100000 ≤ T (q * 8 + b)) → T (j * 8 + b) < 100000 → pY (nI j) (nI tr, tz_F cc, tz_F cs, tz_F ct, tz_F w, tz_F O, tz_F T))
    (k2 : ∀ O T, tz_YR cs ct cc w tr a t 11 O T → (∀ q, q ≤ 10 → 100000 ≤ T (q * 8 + b)) → pY (-3) (nI tr, tz_F cc, tz_F cs, tz_F ct, tz_F w, tz_F O, tz_F T)) : wpY_fewest pY (nI tr, tz_F cc, tz_F cs, tz_F ct, tz_F w, tz_F O, tz_F T) (nI a) (nI b) (nI t) := by
  unfold wpY_fewest
  dsimp only
  refine ys_sT ⟨a, ha, rfl⟩ (ys_sT ⟨b, hb, rfl⟩ (ys_tT ⟨t, by omega, rfl⟩ ?_))
  exact ys_search hI ha ht (fun O' T' hT => ⟨12, ys_few35 hb hT (k1 O' T' hT) (k2 O' T' hT) 12 0 (by omega) (by omega) (fun q hq => absurd hq (Nat.not_lt_zero q))⟩)
/-- the first k that comes to b, on both sides -/
theorem tz_few_1 (hI : tz_I tr cc cs ct w) (ha : a < 8) (hb : b < 8) (ht : t ≤ 999) (hT : tz_YR cs ct cc w tr a t 11 O T) {j : Nat} (hj : j ≤ 10) :
    tz_EX cs ct cc w tr a t j b = 1000000 ↔ ∀ q, q ≤ j → 100000 ≤ T (q * 8 + b) := by
  have h1 := tz_sim_k hb hj (tz_EXb hI ha ht j) hT
  have h2 := tz_b_le T b (j + 1) 99999
  unfold tz_sim at h1
  constructor
  · intro h q hq
    by_cases c : 100000 ≤ T (q * 8 + b)
    · exact c
    · have h3 := h2.mpr (Or.inr ⟨q, by omega, trivial, by omega⟩)
      omega
  · intro h
    by_cases c : tz_b T b (j + 1) ≤ 99999
    · rcases h2.mp c with h3 | ⟨q, hq, _, h3⟩
      · omega
      · have h4 := h q (by omega)
        omega
    · omega
/-- choices -/
theorem xs_cho_f (h : ¬ (tz_in v1 8 ∧ tz_in v2 8 ∧ tz_in v3 1000)) (k : pX (-1) (nI tr, tz_F cc, tz_F cs, tz_F ct, tz_F w, tz_F U, tz_F E)) : wpX_choices pX (nI tr, tz_F cc, tz_F cs, tz_F ct, tz_F w, tz_F U, tz_F E) v1 v2 v3 := by
  unfold wpX_choices
  dsimp only
  exact xs_pre_f h k
theorem ys_cho_f (h : ¬ (tz_in v1 8 ∧ tz_in v2 8 ∧ tz_in v3 1000)) (k : pY (-1) (nI tr, tz_F cc, tz_F cs, tz_F ct, tz_F w, tz_F O, tz_F T)) : wpY_choices pY (nI tr, tz_F cc, tz_F cs, tz_F ct, tz_F w, tz_F O, tz_F T) v1 v2 v3 := by
  unfold wpY_choices
  dsimp only
  exact ys_pre_f h k
theorem xs_c68 {J39 : Int32 → Int32 → Int32 → Int32 → (Nat → Int32) → (Nat → Int32) → (Nat → Int32) → (Nat → Int32) → (Nat → Int32) → (Nat → Int32) → Prop} {x2 x4 x5 : Int32} {j : Nat} (hI : tz_I tr cc cs ct w) (hU : tz_XU cs ct cc w tr a t j U) (hE : tz_XE cs ct cc w tr a t j E)
    (k : ∀ U' E', tz_XU cs ct cc w tr a t (j + 1) U' → tz_XE cs ct cc w tr a t (j + 1) E' → J39 x4 x5 (nI (j + 1)) (nI tr) (tz_F cc) (tz_F cs) (tz_F ct) (tz_F w) (tz_F U') (tz_F E')) : wX_choices_68 pX J39 x2 x4 x5 (nI j) (nI tr) (tz_F cc) (tz_F cs) (tz_F ct) (tz_F w) (tz_F U) (tz_F E) := by
  unfold wX_choices_68
  exact xs_addk hI hU hE (fun U' E' h1 h2 => nm_r (nI_1 j) (k U' E' h1 h2))
theorem xs_cho39 {e : Nat → Nat} (hI : tz_I tr cc cs ct w) (ha : a < 8) (hb : b < 8) (ht : t ≤ 999) (he : ∀ q, e q = tz_EX cs ct cc w tr a t q b) (k : ∀ U E, pX (nI (tz_cx e 11)) (nI tr, tz_F cc, tz_F cs, tz_F ct, tz_F w, tz_F U, tz_F E)) :
    ∀ n j U E, 11 < n + j → j ≤ 11 → tz_XU cs ct cc w tr a t j U → tz_XE cs ct cc w tr a t j E → wX_choices_39 pX (nI b) n (nI (tz_cx e j)) (nI (tz_bx e j)) (nI j) (nI tr) (tz_F cc) (tz_F cs) (tz_F ct) (tz_F w) (tz_F U) (tz_F E) := by
  intro n
  induction n with
  | zero =>
    intro j U E h1 h2
    omega
  | succ n ih =>
    intro j U E h1 h2 hU hE
    refine pk_lt 10 j (fun h => ?_) (fun h => ?_)
    · obtain rfl : j = 11 := by omega
      exact k U E
    · have e1 : E b = e j := (tz_XE_u hE (tz_EXb hI ha ht j) hb).trans (he j).symm
      have hEb := xs_EE hE b hb
      have hbx := tz_bx_ub e j
      refine ⟨pk_in b 8 hb, pk_le (tz_bx e j) (E b) (fun h4 => ?_) (fun h4 => ?_) rfl (tz_at E b)⟩
      · have c : ¬ e j < tz_bx e j := by omega
        have e2 : tz_bx e (j + 1) = tz_bx e j := if_neg c
        have e3 : tz_cx e (j + 1) = tz_cx e j := if_neg c
        refine xs_c68 hI hU hE (fun U' E' hU' hE' => ?_)
        have kk := ih (j + 1) U' E' (by omega) (by omega) hU' hE'
        rw [e2, e3] at kk
        exact kk
      · have c : e j < tz_bx e j := by omega
        have e2 : tz_bx e (j + 1) = e j := if_pos c
        have e3 : tz_cx e (j + 1) = tz_cx e j + 1 := if_pos c
        refine ⟨pk_in b 8 hb, nm_r ((tz_at E b).trans (congrArg nI e1)) (nm_r (nI_1 _) (xs_c68 hI hU hE (fun U' E' hU' hE' => ?_)))⟩
        have kk := ih (j + 1) U' E' (by omega) (by omega) hU' hE'
        rw [e2, e3] at kk
        exact kk
theorem xs_cho_t {e : Nat → Nat} (hI : tz_I tr cc cs ct w) (ha : a < 8) (hb : b < 8) (ht : t ≤ 999) (he : ∀ q, e q = tz_EX cs ct cc w tr a t q b) (k : ∀ U E, pX (nI (tz_cx e 11)) (nI tr, tz_F cc, tz_F cs, tz_F ct, tz_F w, tz_F U, tz_F E)) : wpX_choices pX (nI tr, tz_F cc, tz_F cs, tz_F ct, tz_F w, tz_F U, tz_F E) (nI a) (nI b) (nI t) := by
  unfold wpX_choices
  dsimp only
  refine xs_sT ⟨a, ha, rfl⟩ (xs_sT ⟨b, hb, rfl⟩ (xs_tT ⟨t, by omega, rfl⟩ ?_))
  exact xs_startk hI ha ht (fun U' E' hU hE => ⟨12, xs_cho39 hI ha hb ht he k 12 0 U' E' (by omega) (by omega) hU hE⟩)
theorem ys_cho53 (hb : b < 8) (hT : tz_YR cs ct cc w tr a t 11 O T) (k : pY (nI (tz_cy T b 11)) (nI tr, tz_F cc, tz_F cs, tz_F ct, tz_F w, tz_F O, tz_F T)) :
    ∀ n q, 10 < n + q → q ≤ 10 → wY_choices_53 pY (nI b) (nI tr) (tz_F cc) (tz_F cs) (tz_F ct) (tz_F w) (tz_F O) (tz_F T) n (nI (tz_cy T b (q + 1))) (nI (q + 1)) := by
  intro n
  induction n with
  | zero =>
    intro q h1 h2
    omega
  | succ n ih =>
    intro q h1 h2
    refine pk_lt 10 (q + 1) (fun h => ?_) (fun h => ?_)
    · obtain rfl : q = 10 := by omega
      exact k
    · have kk := ih (q + 1) (by omega) (by omega)
      have hub := (hT.1 (q + 1) (by omega)).2 b hb
      have hbb : tz_b T b (q + 1) ≤ 100000 := ys_ub
      refine ⟨pk_in ((q + 1) * 8 + b) 88 (by omega) (tz_i8 (q + 1) b), ?_⟩
      rw [nI_pred q]
      refine ys_best hb (by omega) hT (pk_le (tz_b T b (q + 1)) (T ((q + 1) * 8 + b)) (fun h4 => ?_) (fun h4 => ?_) rfl (tz_at T ((q + 1) * 8 + b) (tz_i8 (q + 1) b)))
      · have e : tz_cy T b (q + 1 + 1) = tz_cy T b (q + 1) := if_neg (Nat.not_lt.mpr h4)
        rw [e] at kk
        exact nm_r (nI_1 (q + 1)) kk
      · have e : tz_cy T b (q + 1 + 1) = tz_cy T b (q + 1) + 1 := if_pos h4
        rw [e] at kk
        exact nm_r (nI_1 _) (nm_r (nI_1 (q + 1)) kk)
theorem ys_cho_t (hI : tz_I tr cc cs ct w) (ha : a < 8) (hb : b < 8) (ht : t ≤ 999) (k : ∀ O T, tz_YR cs ct cc w tr a t 11 O T → pY (nI (tz_cy T b 11)) (nI tr, tz_F cc, tz_F cs, tz_F ct, tz_F w, tz_F O, tz_F T)) : wpY_choices pY (nI tr, tz_F cc, tz_F cs, tz_F ct, tz_F w, tz_F O, tz_F T) (nI a) (nI b) (nI t) := by
  unfold wpY_choices
  dsimp only
  refine ys_sT ⟨a, ha, rfl⟩ (ys_sT ⟨b, hb, rfl⟩ (ys_tT ⟨t, by omega, rfl⟩ ?_))
  refine ys_search hI ha ht (fun O' T' hT => ?_)
  have kk := ys_cho53 hb hT (k O' T' hT) 11 0 (by omega) (by omega)
  have hub := (hT.1 0 (by omega)).2 b hb
  have e0 : T' b = T' (0 * 8 + b) := by rw [Nat.zero_mul, Nat.zero_add]
  refine ⟨pk_in b 88 (by omega), pk_le 100000 (T' b) (fun h4 => ?_) (fun h4 => ?_) rfl (tz_at T' b)⟩
  · have e : tz_cy T' b (0 + 1) = 0 := if_neg (by rw [← e0]; exact Nat.not_lt.mpr h4)
    rw [e] at kk
    exact ⟨11, kk⟩
  · have e : tz_cy T' b (0 + 1) = 1 := if_pos (by rw [← e0]; exact h4)
    rw [e] at kk
    exact ⟨11, kk⟩
/-- leave -/
theorem xs_lea_f (h : ¬ (tz_in v1 8 ∧ tz_in v2 8 ∧ tz_in v3 1000)) (k : pX (-1) (nI tr, tz_F cc, tz_F cs, tz_F ct, tz_F w, tz_F U, tz_F E)) : wpX_leave pX (nI tr, tz_F cc, tz_F cs, tz_F ct, tz_F w, tz_F U, tz_F E) v1 v2 v3 := by
  unfold wpX_leave
  dsimp only
  exact xs_pre_f h k
theorem ys_lea_f (h : ¬ (tz_in v1 8 ∧ tz_in v2 8 ∧ tz_in v3 1000)) (k : pY (-1) (nI tr, tz_F cc, tz_F cs, tz_F ct, tz_F w, tz_F O, tz_F T)) : wpY_leave pY (nI tr, tz_F cc, tz_F cs, tz_F ct, tz_F w, tz_F O, tz_F T) v1 v2 v3 := by
  unfold wpY_leave
  dsimp only
  exact ys_pre_f h k
theorem tz_neg1 : nI 0 + (-1) < 0 := by
  rw [nI_0]
  decide
theorem xs_lea26 (hI : tz_I tr cc cs ct w) (ha : a < 8) (hb : b < 8) (hy : y ≤ 999)
    (k1 : ∀ q U E, q ≤ y → (∀ p, q < p → p ≤ y → ¬ tz_EX cs ct cc w tr a p 10 b ≤ y) → tz_EX cs ct cc w tr a q 10 b ≤ y → pX (nI q) (nI tr, tz_F cc, tz_F cs, tz_F ct, tz_F w, tz_F U, tz_F E))
    (k2 : ∀ U E, (∀ p, p ≤ y → ¬ tz_EX cs ct cc w tr a p 10 b ≤ y) → pX (-3) (nI tr, tz_F cc, tz_F cs, tz_F ct, tz_F w, tz_F U, tz_F E)) :
    ∀ m n U E, m < n → m ≤ y + 1 → (∀ p, m ≤ p → p ≤ y → ¬ tz_EX cs ct cc w tr a p 10 b ≤ y) → wX_leave_26 pX (nI a) (nI b) (nI y) n (nI m + (-1)) (nI tr) (tz_F cc) (tz_F cs) (tz_F ct) (tz_F w) (tz_F U) (tz_F E) := by
  intro m
  induction m with
  | zero =>
    intro n U E h1 h2 h3
    obtain ⟨n, rfl⟩ : ∃ q, n = q + 1 := ⟨n - 1, by omega⟩
    exact br_t tz_neg1 (k2 U E (fun p hp => h3 p (Nat.zero_le p) hp))
  | succ m ih =>
    intro n U E h1 h2 h3
    obtain ⟨n, rfl⟩ : ∃ q, n = q + 1 := ⟨n - 1, by omega⟩
    rw [pk_m1]
    refine br_f (nI_pos (by omega)) ?_
    refine xs_search (R := 10) hI ha (by omega) (by omega) (fun U' E' hU hE => ?_)
    have e : E' b = tz_EX cs ct cc w tr a m 10 b := tz_XE_u hE (tz_EXb hI ha (by omega) 10) hb
    have hEb := xs_EE hE b hb
    refine ⟨pk_in b 8 hb, pk_lt y (E' b) (fun h4 => ?_) (fun h4 => ?_) rfl (tz_at E' b)⟩
    · refine nm_e (ih n U' E' (by omega) (by omega) (fun p hp hp' => ?_))
      by_cases c : p = m
      · subst c
        omega
      · exact h3 p (by omega) hp'
    · exact k1 m U' E' (by omega) (fun p hp hp' => h3 p (by omega) hp') (by omega)
theorem xs_lea_t (hI : tz_I tr cc cs ct w) (ha : a < 8) (hb : b < 8) (hy : y ≤ 999)
    (k1 : ∀ q U E, q ≤ y → (∀ p, q < p → p ≤ y → ¬ tz_EX cs ct cc w tr a p 10 b ≤ y) → tz_EX cs ct cc w tr a q 10 b ≤ y → pX (nI q) (nI tr, tz_F cc, tz_F cs, tz_F ct, tz_F w, tz_F U, tz_F E))
    (k2 : ∀ U E, (∀ p, p ≤ y → ¬ tz_EX cs ct cc w tr a p 10 b ≤ y) → pX (-3) (nI tr, tz_F cc, tz_F cs, tz_F ct, tz_F w, tz_F U, tz_F E)) : wpX_leave pX (nI tr, tz_F cc, tz_F cs, tz_F ct, tz_F w, tz_F U, tz_F E) (nI a) (nI b) (nI y) := by
  unfold wpX_leave
  dsimp only
  refine xs_sT ⟨a, ha, rfl⟩ (xs_sT ⟨b, hb, rfl⟩ (xs_tT ⟨y, by omega, rfl⟩ ?_))
  have kk := xs_lea26 hI ha hb hy k1 k2 (y + 1) (y + 2) U E (by omega) (by omega) (fun p h1 h2 => by omega)
  rw [pk_m1] at kk
  exact ⟨y + 2, kk⟩
theorem ys_lea29 (hI : tz_I tr cc cs ct w) (ha : a < 8) (hb : b < 8) (hy : y ≤ 999)
    (k1 : ∀ q O T, q ≤ y → (∀ p, q < p → p ≤ y → ¬ tz_EX cs ct cc w tr a p 10 b ≤ y) → tz_EX cs ct cc w tr a q 10 b ≤ y → pY (nI q) (nI tr, tz_F cc, tz_F cs, tz_F ct, tz_F w, tz_F O, tz_F T))
    (k2 : ∀ O T, (∀ p, p ≤ y → ¬ tz_EX cs ct cc w tr a p 10 b ≤ y) → pY (-3) (nI tr, tz_F cc, tz_F cs, tz_F ct, tz_F w, tz_F O, tz_F T)) :
    ∀ m n O T, m < n → m ≤ y + 1 → (∀ p, m ≤ p → p ≤ y → ¬ tz_EX cs ct cc w tr a p 10 b ≤ y) → wY_leave_29 pY (nI a) (nI b) (nI y) n (nI m + (-1)) (nI tr) (tz_F cc) (tz_F cs) (tz_F ct) (tz_F w) (tz_F O) (tz_F T) := by
  intro m
  induction m with
  | zero =>
    intro n O T h1 h2 h3
    obtain ⟨n, rfl⟩ : ∃ q, n = q + 1 := ⟨n - 1, by omega⟩
    exact br_t tz_neg1 (k2 O T (fun p hp => h3 p (Nat.zero_le p) hp))
  | succ m ih =>
    intro n O T h1 h2 h3
    obtain ⟨n, rfl⟩ : ∃ q, n = q + 1 := ⟨n - 1, by omega⟩
    rw [pk_m1]
    refine br_f (nI_pos (by omega)) ?_
    refine ys_search hI ha (by omega) (fun O' T' hT => ?_)
    have hs := tz_sim_le (tz_sim_k hb (Nat.le_refl 10) (tz_EXb hI ha (by omega) 10) hT) hy
    have hub : tz_b T' b (10 + 1) ≤ 100000 := ys_ub
    refine ys_best (R := 10) hb (by omega) hT (pk_lt y (tz_b T' b (10 + 1)) (fun h4 => ?_) (fun h4 => ?_))
    · refine nm_e (ih n O' T' (by omega) (by omega) (fun p hp hp' => ?_))
      by_cases c : p = m
      · subst c
        exact fun z => absurd (hs.mp z) (by omega)
      · exact h3 p (by omega) hp'
    · exact k1 m O' T' (by omega) (fun p hp hp' => h3 p (by omega) hp') (hs.mpr h4)
theorem ys_lea_t (hI : tz_I tr cc cs ct w) (ha : a < 8) (hb : b < 8) (hy : y ≤ 999)
    (k1 : ∀ q O T, q ≤ y → (∀ p, q < p → p ≤ y → ¬ tz_EX cs ct cc w tr a p 10 b ≤ y) → tz_EX cs ct cc w tr a q 10 b ≤ y → pY (nI q) (nI tr, tz_F cc, tz_F cs, tz_F ct, tz_F w, tz_F O, tz_F T))
    (k2 : ∀ O T, (∀ p, p ≤ y → ¬ tz_EX cs ct cc w tr a p 10 b ≤ y) → pY (-3) (nI tr, tz_F cc, tz_F cs, tz_F ct, tz_F w, tz_F O, tz_F T)) : wpY_leave pY (nI tr, tz_F cc, tz_F cs, tz_F ct, tz_F w, tz_F O, tz_F T) (nI a) (nI b) (nI y) := by
  unfold wpY_leave
  dsimp only
  refine ys_sT ⟨a, ha, rfl⟩ (ys_sT ⟨b, hb, rfl⟩ (ys_tT ⟨y, by omega, rfl⟩ ?_))
  have kk := ys_lea29 hI ha hb hy k1 k2 (y + 1) (y + 2) O T (by omega) (by omega) (fun p h1 h2 => by omega)
  rw [pk_m1] at kk
  exact ⟨y + 2, kk⟩
/-- within -/
theorem xs_wit_f (h : ¬ (tz_in v1 8 ∧ tz_in v2 1000 ∧ tz_in v3 1000)) (k : pX (-1) (nI tr, tz_F cc, tz_F cs, tz_F ct, tz_F w, tz_F U, tz_F E)) : wpX_within pX (nI tr, tz_F cc, tz_F cs, tz_F ct, tz_F w, tz_F U, tz_F E) v1 v2 v3 := by
  unfold wpX_within
  dsimp only
  by_cases h1 : tz_in v1 8
  · by_cases h2 : tz_in v2 1000
    · exact xs_sT h1 (xs_tT h2 (xs_tF (fun h3 => h ⟨h1, h2, h3⟩) k))
    · exact xs_sT h1 (xs_tF h2 k)
  · exact xs_sF h1 k
theorem ys_wit_f (h : ¬ (tz_in v1 8 ∧ tz_in v2 1000 ∧ tz_in v3 1000)) (k : pY (-1) (nI tr, tz_F cc, tz_F cs, tz_F ct, tz_F w, tz_F O, tz_F T)) : wpY_within pY (nI tr, tz_F cc, tz_F cs, tz_F ct, tz_F w, tz_F O, tz_F T) v1 v2 v3 := by
  unfold wpY_within
  dsimp only
  by_cases h1 : tz_in v1 8
  · by_cases h2 : tz_in v2 1000
    · exact ys_sT h1 (ys_tT h2 (ys_tF (fun h3 => h ⟨h1, h2, h3⟩) k))
    · exact ys_sT h1 (ys_tF h2 k)
  · exact ys_sF h1 k
theorem xs_wit37 {f : Nat → Nat} (hy : y ≤ 999) (hE : ∀ s, s < 8 → E s = f s) (hb : ∀ s, s < 8 → E s ≤ 1000000) (k : pX (tz_set f y 8) (nI tr, tz_F cc, tz_F cs, tz_F ct, tz_F w, tz_F U, tz_F E)) :
    ∀ n s, 8 < n + s → s ≤ 8 → wX_within_37 pX (nI y) (nI tr) (tz_F cc) (tz_F cs) (tz_F ct) (tz_F w) (tz_F U) (tz_F E) n (tz_set f y s) (nI s) := by
  intro n
  induction n with
  | zero =>
    intro s h1 h2
    omega
  | succ n ih =>
    intro s h1 h2
    refine pk_le 8 s (fun h => ?_) (fun h => ?_)
    · obtain rfl : s = 8 := by omega
      exact k
    · have kk := ih (s + 1) (by omega) (by omega)
      have e := hE s h
      have hb' := hb s h
      refine ⟨pk_in s 8 h, pk_lt y (E s) (fun h4 => ?_) (fun h4 => ?_) rfl (tz_at E s)⟩
      · have e2 : tz_set f y (s + 1) = tz_set f y s := if_neg (by omega)
        rw [e2] at kk
        exact nm_r (nI_1 s) kk
      · have e2 : tz_set f y (s + 1) = tz_set f y s ||| (1 <<< (nI s &&& 31)) := if_pos (by omega)
        rw [e2] at kk
        exact nm_e (nm_r (nI_1 s) kk)
theorem xs_wit_t {f : Nat → Nat} (hI : tz_I tr cc cs ct w) (ha : a < 8) (ht : t ≤ 999) (hy : y ≤ 999) (hf : f = tz_EX cs ct cc w tr a t 10) (k : ∀ U E, pX (tz_set f y 8) (nI tr, tz_F cc, tz_F cs, tz_F ct, tz_F w, tz_F U, tz_F E)) : wpX_within pX (nI tr, tz_F cc, tz_F cs, tz_F ct, tz_F w, tz_F U, tz_F E) (nI a) (nI t) (nI y) := by
  unfold wpX_within
  dsimp only
  refine xs_sT ⟨a, ha, rfl⟩ (xs_tT ⟨t, by omega, rfl⟩ (xs_tT ⟨y, by omega, rfl⟩ ?_))
  refine xs_search (R := 10) hI ha ht (by omega) (fun U' E' hU hE => ?_)
  exact ⟨9, xs_wit37 hy (fun s hs => by rw [hf]; exact tz_XE_u hE (tz_EXb hI ha ht 10) hs) (xs_EE hE) (k U' E') 9 0 (by omega) (by omega)⟩
theorem ys_wit38 {f : Nat → Nat} (hy : y ≤ 999) (hT : tz_YR cs ct cc w tr a t 11 O T) (hf : ∀ s, s < 8 → (f s ≤ y ↔ tz_b T s (10 + 1) ≤ y)) (k : pY (tz_set f y 8) (nI tr, tz_F cc, tz_F cs, tz_F ct, tz_F w, tz_F O, tz_F T)) :
    ∀ n s, 8 < n + s → s ≤ 8 → wY_within_38 pY (nI y) (nI tr) (tz_F cc) (tz_F cs) (tz_F ct) (tz_F w) (tz_F O) (tz_F T) n (tz_set f y s) (nI s) := by
  intro n
  induction n with
  | zero =>
    intro s h1 h2
    omega
  | succ n ih =>
    intro s h1 h2
    refine pk_le 8 s (fun h => ?_) (fun h => ?_)
    · obtain rfl : s = 8 := by omega
      exact k
    · have kk := ih (s + 1) (by omega) (by omega)
      have e := hf s h
      have hub : tz_b T s (10 + 1) ≤ 100000 := ys_ub
      refine ys_best (R := 10) h (by omega) hT (pk_lt y (tz_b T s (10 + 1)) (fun h4 => ?_) (fun h4 => ?_))
      · have e2 : tz_set f y (s + 1) = tz_set f y s := if_neg (fun z => absurd (e.mp z) (by omega))
        rw [e2] at kk
        exact nm_r (nI_1 s) kk
      · have e2 : tz_set f y (s + 1) = tz_set f y s ||| (1 <<< (nI s &&& 31)) := if_pos (e.mpr h4)
        rw [e2] at kk
        exact nm_e (nm_r (nI_1 s) kk)
theorem ys_wit_t {f : Nat → Nat} (hI : tz_I tr cc cs ct w) (ha : a < 8) (ht : t ≤ 999) (hy : y ≤ 999) (hf : f = tz_EX cs ct cc w tr a t 10) (k : ∀ O T, pY (tz_set f y 8) (nI tr, tz_F cc, tz_F cs, tz_F ct, tz_F w, tz_F O, tz_F T)) : wpY_within pY (nI tr, tz_F cc, tz_F cs, tz_F ct, tz_F w, tz_F O, tz_F T) (nI a) (nI t) (nI y) := by
  unfold wpY_within
  dsimp only
  refine ys_sT ⟨a, ha, rfl⟩ (ys_tT ⟨t, by omega, rfl⟩ (ys_tT ⟨y, by omega, rfl⟩ ?_))
  refine ys_search hI ha ht (fun O' T' hT => ?_)
  refine ⟨9, ys_wit38 hy hT (fun s hs => ?_) (k O' T') 9 0 (by omega) (by omega)⟩
  rw [hf]
  exact tz_sim_le (tz_sim_k hs (Nat.le_refl 10) (tz_EXb hI ha ht 10) hT) hy
end
end
section
/-! the timetable's own calls, side by side -/
section
variable {tr i s t : Nat} {cc cs ct w U E O T : Nat → Nat} {v1 v2 v3 : Int32} {pX : Int32 → SX → Prop} {pY : Int32 → SY → Prop}
theorem tz_e4 (hi : i < 10) : nI i * 5 + tz_F cc (nI i).toNatClampNeg = nI (i * 5 + cc i) := by rw [tz_at cc i, tz_i5]
theorem tz_e5 (hi : i < 10) : tz_F cc (nI i).toNatClampNeg + 1 = nI (cc i + 1) := by rw [tz_at cc i, nI_1]
theorem tz_e6 (hi : i < 10) (h1 : 1 ≤ cc i) : nI i * 5 + tz_F cc (nI i).toNatClampNeg - 1 = nI (i * 5 + (cc i - 1)) := by
  rw [tz_at cc i, tz_i5, tz_s1 (by omega)]
  exact congrArg nI (by omega)
theorem xs_app {post : SX → Prop} (hi : i < 10) (hc : cc i < 5) (k : post (nI (i + 1), tz_F (tz_u cc i (cc i + 1)), tz_F (tz_u cs (i * 5 + cc i) s), tz_F (tz_u ct (i * 5 + cc i) t), tz_F w, tz_F U, tz_F E)) :
    wpX_appendCall post (nI (i + 1), tz_F cc, tz_F cs, tz_F ct, tz_F w, tz_F U, tz_F E) (nI s) (nI t) :=
  nm_r (nI_pred i) ⟨pk_in i 10 hi, nm_r (tz_e4 hi) ⟨pk_in (i * 5 + cc i) 50 (by omega), tz_st cs (i * 5 + cc i) s ⟨pk_in (i * 5 + cc i) 50 (by omega), tz_st ct (i * 5 + cc i) t ⟨pk_in i 10 hi, pk_in i 10 hi, tz_st cc i (cc i + 1) k rfl (tz_e5 hi)⟩⟩⟩⟩
/-- trip -/
theorem xs_tri_u (k : pX (-2) (nI 10, tz_F cc, tz_F cs, tz_F ct, tz_F w, tz_F U, tz_F E)) : wpX_trip pX (nI 10, tz_F cc, tz_F cs, tz_F ct, tz_F w, tz_F U, tz_F E) v1 v2 := br_t rfl k
theorem ys_tri_u (k : pY (-2) (nI 10, tz_F cc, tz_F cs, tz_F ct, tz_F w, tz_F O, tz_F T)) : wpY_trip pY (nI 10, tz_F cc, tz_F cs, tz_F ct, tz_F w, tz_F O, tz_F T) v1 v2 := br_t rfl k
theorem tz_n10 (h : tr < 10) : ¬ nI tr = 10 := fun z => absurd ((nI_eq (a := tr) (b := 10) (by omega) (by decide)).mp z) (by omega)
theorem xs_tri_f (htr : tr < 10) (h : ¬ (tz_in v1 8 ∧ tz_in v2 1000)) (k : pX (-1) (nI tr, tz_F cc, tz_F cs, tz_F ct, tz_F w, tz_F U, tz_F E)) : wpX_trip pX (nI tr, tz_F cc, tz_F cs, tz_F ct, tz_F w, tz_F U, tz_F E) v1 v2 := by
  refine br_f (tz_n10 htr) ?_
  by_cases h1 : tz_in v1 8
  · exact xs_sT h1 (xs_tF (fun h2 => h ⟨h1, h2⟩) k)
  · exact xs_sF h1 k
theorem ys_tri_f (htr : tr < 10) (h : ¬ (tz_in v1 8 ∧ tz_in v2 1000)) (k : pY (-1) (nI tr, tz_F cc, tz_F cs, tz_F ct, tz_F w, tz_F O, tz_F T)) : wpY_trip pY (nI tr, tz_F cc, tz_F cs, tz_F ct, tz_F w, tz_F O, tz_F T) v1 v2 := by
  refine br_f (tz_n10 htr) ?_
  by_cases h1 : tz_in v1 8
  · exact ys_sT h1 (ys_tF (fun h2 => h ⟨h1, h2⟩) k)
  · exact ys_sF h1 k
theorem xs_tri_t (htr : tr < 10) (hs : s < 8) (ht : t ≤ 999) (k : pX (nI tr) (nI (tr + 1), tz_F (tz_u cc tr 1), tz_F (tz_u cs (tr * 5) s), tz_F (tz_u ct (tr * 5) t), tz_F w, tz_F U, tz_F E)) : wpX_trip pX (nI tr, tz_F cc, tz_F cs, tz_F ct, tz_F w, tz_F U, tz_F E) (nI s) (nI t) := by
  refine br_f (tz_n10 htr) (xs_sT ⟨s, hs, rfl⟩ (xs_tT ⟨t, by omega, rfl⟩ ⟨pk_in tr 10 htr, tz_st cc tr 0 (nm_r (nI_1 tr) ?_)⟩))
  have e1 : tz_u cc tr 0 tr = 0 := tz_us cc tr 0
  refine xs_app htr (by rw [e1]; decide) ?_
  rw [e1, tz_uu, Nat.add_zero, Nat.zero_add]
  rw [← nI_pred tr] at k
  exact k
theorem ys_tri_t (htr : tr < 10) (hs : s < 8) (ht : t ≤ 999) (k : pY (nI tr) (nI (tr + 1), tz_F (tz_u cc tr 1), tz_F (tz_u cs (tr * 5) s), tz_F (tz_u ct (tr * 5) t), tz_F w, tz_F O, tz_F T)) : wpY_trip pY (nI tr, tz_F cc, tz_F cs, tz_F ct, tz_F w, tz_F O, tz_F T) (nI s) (nI t) := by
  refine br_f (tz_n10 htr) (ys_sT ⟨s, hs, rfl⟩ (ys_tT ⟨t, by omega, rfl⟩ ?_))
  refine ⟨pk_in (tr * 5) 50 (by omega) (tz_m5 tr), tz_st cs (tr * 5) s ⟨pk_in (tr * 5) 50 (by omega) (tz_m5 tr), tz_st ct (tr * 5) t ⟨pk_in tr 10 htr, tz_st cc tr 1 (nm_r (nI_1 tr) ?_)⟩ (tz_m5 tr)⟩ (tz_m5 tr)⟩
  rw [← nI_pred tr] at k
  exact k
/-- call -/
theorem xs_cal_0 (k : pX (-1) (nI 0, tz_F cc, tz_F cs, tz_F ct, tz_F w, tz_F U, tz_F E)) : wpX_call pX (nI 0, tz_F cc, tz_F cs, tz_F ct, tz_F w, tz_F U, tz_F E) v1 v2 := br_t rfl k
theorem ys_cal_0 (k : pY (-1) (nI 0, tz_F cc, tz_F cs, tz_F ct, tz_F w, tz_F O, tz_F T)) : wpY_call pY (nI 0, tz_F cc, tz_F cs, tz_F ct, tz_F w, tz_F O, tz_F T) v1 v2 := br_t rfl k
theorem xs_cal_f (hi : i < 10) (h : ¬ (tz_in v1 8 ∧ tz_in v2 1000)) (k : pX (-1) (nI (i + 1), tz_F cc, tz_F cs, tz_F ct, tz_F w, tz_F U, tz_F E)) : wpX_call pX (nI (i + 1), tz_F cc, tz_F cs, tz_F ct, tz_F w, tz_F U, tz_F E) v1 v2 := by
  refine br_f (nI_ne0 (by omega) (by omega)) ?_
  by_cases h1 : tz_in v1 8
  · exact xs_sT h1 (xs_tF (fun h2 => h ⟨h1, h2⟩) k)
  · exact xs_sF h1 k
theorem ys_cal_f (hi : i < 10) (h : ¬ (tz_in v1 8 ∧ tz_in v2 1000)) (k : pY (-1) (nI (i + 1), tz_F cc, tz_F cs, tz_F ct, tz_F w, tz_F O, tz_F T)) : wpY_call pY (nI (i + 1), tz_F cc, tz_F cs, tz_F ct, tz_F w, tz_F O, tz_F T) v1 v2 := by
  refine br_f (nI_ne0 (by omega) (by omega)) ?_
  by_cases h1 : tz_in v1 8
  · exact ys_sT h1 (ys_tF (fun h2 => h ⟨h1, h2⟩) k)
  · exact ys_sF h1 k
theorem xs_vis2 {post : Int32 → Prop} (hi : i < 10) (hc : cc i ≤ 5) (hs : s < 8) (hcs : ∀ j, cs j < 8) (k1 : (∃ c, c < cc i ∧ cs (i * 5 + c) = s) → post 1) (k0 : (∀ c, c < cc i → ¬ cs (i * 5 + c) = s) → post 0) :
    ∀ n c, cc i < n + c → c ≤ cc i → (∀ q, q < c → ¬ cs (i * 5 + q) = s) → wX_visits_2 post (nI i) (nI s) (nI tr) (tz_F cc) (tz_F cs) (tz_F ct) (tz_F w) (tz_F U) (tz_F E) n (nI c) := by
  intro n
  induction n with
  | zero =>
    intro c h1 h2
    omega
  | succ n ih =>
    intro c h1 h2 h3
    have hc8 := hcs (i * 5 + c)
    refine ⟨pk_in i 10 hi, pk_le (cc i) c (fun h => ?_) (fun h => ?_) (tz_at cc i) rfl⟩
    · exact k0 (fun q hq => h3 q (by omega))
    · refine ⟨pk_in (i * 5 + c) 50 (by omega) (tz_i5 i c), pk_eq (cs (i * 5 + c)) s (fun h4 => k1 ⟨c, h, h4⟩) (fun h4 => nm_r (nI_1 c) (ih (c + 1) (by omega) (by omega) (fun q hq => ?_))) (tz_at cs (i * 5 + c) (tz_i5 i c)) rfl⟩
      by_cases e : q = c
      · subst e
        exact h4
      · exact h3 q (by omega)
theorem xs_vis {post : Int32 → Prop} (hi : i < 10) (hc : cc i ≤ 5) (hs : s < 8) (hcs : ∀ j, cs j < 8) (k1 : (∃ c, c < cc i ∧ cs (i * 5 + c) = s) → post 1) (k0 : (∀ c, c < cc i → ¬ cs (i * 5 + c) = s) → post 0) : wpX_visits post (nI tr, tz_F cc, tz_F cs, tz_F ct, tz_F w, tz_F U, tz_F E) (nI i) (nI s) :=
  ⟨cc i + 1, xs_vis2 hi hc hs hcs k1 k0 (cc i + 1) 0 (by omega) (by omega) (fun q hq => absurd hq (Nat.not_lt_zero q))⟩
theorem xs_last {post : Int32 → Prop} (hi : i < 10) (hc : cc i ≤ 5) (h1 : 1 ≤ cc i) (k : post (nI (ct (i * 5 + (cc i - 1))))) : wpX_lastTime post (nI tr, tz_F cc, tz_F cs, tz_F ct, tz_F w, tz_F U, tz_F E) (nI i) :=
  ⟨pk_in i 10 hi, pk_in (i * 5 + (cc i - 1)) 50 (by omega) (tz_e6 hi h1), ek_v (tz_at ct (i * 5 + (cc i - 1)) (tz_e6 hi h1)) k⟩
/-- three ends of a call on the latest trip i: full, refused, taken -/
theorem xs_cal_t (hI : tz_I (i + 1) cc cs ct w) (hs : s < 8) (ht : t ≤ 999) (k5 : cc i = 5 → pX (-2) (nI (i + 1), tz_F cc, tz_F cs, tz_F ct, tz_F w, tz_F U, tz_F E))
    (kb : cc i < 5 → (∃ c, c < cc i ∧ cs (i * 5 + c) = s) ∨ t < ct (i * 5 + (cc i - 1)) → pX (-1) (nI (i + 1), tz_F cc, tz_F cs, tz_F ct, tz_F w, tz_F U, tz_F E))
    (kt : cc i < 5 → (∀ c, c < cc i → ¬ cs (i * 5 + c) = s) → ct (i * 5 + (cc i - 1)) ≤ t → pX (nI (cc i + 1)) (nI (i + 1), tz_F (tz_u cc i (cc i + 1)), tz_F (tz_u cs (i * 5 + cc i) s), tz_F (tz_u ct (i * 5 + cc i) t), tz_F w, tz_F U, tz_F E)) :
    wpX_call pX (nI (i + 1), tz_F cc, tz_F cs, tz_F ct, tz_F w, tz_F U, tz_F E) (nI s) (nI t) := by
  obtain ⟨g1, g2, g3, g4, g5, g6, g7⟩ := hI
  have hi : i < 10 := by omega
  have hc := g2 i
  have hc1 := g6 i (by omega)
  have hl := g4 (i * 5 + (cc i - 1))
  refine br_f (nI_ne0 (by omega) (by omega)) (xs_sT ⟨s, hs, rfl⟩ (xs_tT ⟨t, by omega, rfl⟩ (nm_r (nI_pred i) ⟨pk_in i 10 hi, pk_eq (cc i) 5 k5 (fun h5 => ?_) (tz_at cc i) rfl⟩)))
  have h5' : cc i < 5 := by omega
  refine xs_vis hi hc hs g3 (fun h => xs_b1 (kb h5' (Or.inl h))) (fun h => xs_b0 (xs_last hi hc hc1 (pk_le (ct (i * 5 + (cc i - 1))) t (fun h6 => ?_) (fun h6 => kb h5' (Or.inr h6)))))
  refine xs_app hi h5' ⟨pk_in i 10 hi, ?_⟩
  have kk := kt h5' h h6
  have e : tz_F (tz_u cc i (cc i + 1)) (nI i).toNatClampNeg = nI (cc i + 1) := (tz_at _ i).trans (congrArg nI (tz_us cc i (cc i + 1)))
  rw [← e] at kk
  exact kk
theorem ys_c48 (hi : i < 10) (hc : cc i < 5) (hc1 : 1 ≤ cc i) (hs : s < 8) (ht : t ≤ 999) (hcs : ∀ j, cs j < 8) (hct : ∀ j, ct j ≤ 999)
    (kb : (∃ c, c < cc i ∧ cs (i * 5 + c) = s) ∨ t < ct (i * 5 + (cc i - 1)) → pY (-1) (nI (i + 1), tz_F cc, tz_F cs, tz_F ct, tz_F w, tz_F O, tz_F T))
    (kt : (∀ c, c < cc i → ¬ cs (i * 5 + c) = s) → ct (i * 5 + (cc i - 1)) ≤ t → pY (nI (cc i + 1)) (nI (i + 1), tz_F (tz_u cc i (cc i + 1)), tz_F (tz_u cs (i * 5 + cc i) s), tz_F (tz_u ct (i * 5 + cc i) t), tz_F w, tz_F O, tz_F T)) :
    ∀ n c, cc i < n + c → c ≤ cc i → (∀ q, q < c → ¬ cs (i * 5 + q) = s) → wY_call_48 pY (nI s) (nI t) (nI i) (nI (i + 1)) (tz_F cc) (tz_F cs) (tz_F ct) (tz_F w) (tz_F O) (tz_F T) n (nI c) := by
  have hl := hct (i * 5 + (cc i - 1))
  intro n
  induction n with
  | zero =>
    intro c h1 h2
    omega
  | succ n ih =>
    intro c h1 h2 h3
    have hc8 := hcs (i * 5 + c)
    refine ⟨pk_in i 10 hi, pk_le (cc i) c (fun h => ?_) (fun h => ?_) (tz_at cc i) rfl⟩
    · refine ⟨pk_in i 10 hi, pk_in (i * 5 + (cc i - 1)) 50 (by omega) (tz_e6 hi hc1), pk_le (ct (i * 5 + (cc i - 1))) t (fun h6 => ?_) (fun h6 => kb (Or.inr h6)) (tz_at ct (i * 5 + (cc i - 1)) (tz_e6 hi hc1)) rfl⟩
      have kk := kt (fun q hq => h3 q (by omega)) h6
      have e : tz_F (tz_u cc i (cc i + 1)) (nI i).toNatClampNeg = nI (cc i + 1) := (tz_at _ i).trans (congrArg nI (tz_us cc i (cc i + 1)))
      rw [← e] at kk
      exact ⟨pk_in i 10 hi, pk_in (i * 5 + cc i) 50 (by omega) (tz_e4 hi), tz_st cs (i * 5 + cc i) s ⟨pk_in i 10 hi, pk_in (i * 5 + cc i) 50 (by omega) (tz_e4 hi), tz_st ct (i * 5 + cc i) t ⟨pk_in i 10 hi, pk_in i 10 hi, tz_st cc i (cc i + 1) ⟨pk_in i 10 hi, kk⟩ rfl (tz_e5 hi)⟩ (tz_e4 hi)⟩ (tz_e4 hi)⟩
    · refine ⟨pk_in (i * 5 + c) 50 (by omega) (tz_i5 i c), pk_eq (cs (i * 5 + c)) s (fun h4 => kb (Or.inl ⟨c, h, h4⟩)) (fun h4 => nm_r (nI_1 c) (ih (c + 1) (by omega) (by omega) (fun q hq => ?_))) (tz_at cs (i * 5 + c) (tz_i5 i c)) rfl⟩
      by_cases e : q = c
      · subst e
        exact h4
      · exact h3 q (by omega)
theorem ys_cal_t (hI : tz_I (i + 1) cc cs ct w) (hs : s < 8) (ht : t ≤ 999) (k5 : cc i = 5 → pY (-2) (nI (i + 1), tz_F cc, tz_F cs, tz_F ct, tz_F w, tz_F O, tz_F T))
    (kb : cc i < 5 → (∃ c, c < cc i ∧ cs (i * 5 + c) = s) ∨ t < ct (i * 5 + (cc i - 1)) → pY (-1) (nI (i + 1), tz_F cc, tz_F cs, tz_F ct, tz_F w, tz_F O, tz_F T))
    (kt : cc i < 5 → (∀ c, c < cc i → ¬ cs (i * 5 + c) = s) → ct (i * 5 + (cc i - 1)) ≤ t → pY (nI (cc i + 1)) (nI (i + 1), tz_F (tz_u cc i (cc i + 1)), tz_F (tz_u cs (i * 5 + cc i) s), tz_F (tz_u ct (i * 5 + cc i) t), tz_F w, tz_F O, tz_F T)) :
    wpY_call pY (nI (i + 1), tz_F cc, tz_F cs, tz_F ct, tz_F w, tz_F O, tz_F T) (nI s) (nI t) := by
  obtain ⟨g1, g2, g3, g4, g5, g6, g7⟩ := hI
  have hi : i < 10 := by omega
  have hc := g2 i
  have hc1 := g6 i (by omega)
  refine br_f (nI_ne0 (by omega) (by omega)) (ys_sT ⟨s, hs, rfl⟩ (ys_tT ⟨t, by omega, rfl⟩ (nm_r (nI_pred i) ⟨pk_in i 10 hi, pk_eq (cc i) 5 k5 (fun h5 => ?_) (tz_at cc i) rfl⟩)))
  have h5' : cc i < 5 := by omega
  exact ⟨cc i + 1, ys_c48 hi h5' hc1 hs ht g3 g4 (kb h5') (kt h5') (cc i + 1) 0 (by omega) (by omega) (fun q hq => absurd hq (Nat.not_lt_zero q))⟩
end
section
variable {tr i m N : Nat} {cc cs ct w U E O T : Nat → Nat} {v1 v2 v3 : Int32} {pX : Int32 → SX → Prop} {pY : Int32 → SY → Prop}
/-- cancel -/
theorem xs_cp2 {post : SX → Prop} (him : i ≤ m) (hm : m + 1 < 10) (k : post (nI tr, tz_F (tz_sh cc 1 i (m + 1)), tz_F (tz_sh cs 5 (i * 5) (m * 5 + 5)), tz_F (tz_sh ct 5 (i * 5) (m * 5 + 5)), tz_F w, tz_F U, tz_F E)) :
    ∀ n c, 5 < n + c → c ≤ 5 → wX_copyTrip_2 post (nI (m + 1)) (nI m) (nI tr) n (nI c) (tz_F (tz_sh cc 1 i m)) (tz_F (tz_sh cs 5 (i * 5) (m * 5 + c))) (tz_F (tz_sh ct 5 (i * 5) (m * 5 + c))) (tz_F w) (tz_F U) (tz_F E) := by
  intro n
  induction n with
  | zero =>
    intro c h1 h2
    omega
  | succ n ih =>
    intro c h1 h2
    refine pk_le 5 c (fun h => ?_) (fun h => ?_)
    · obtain rfl : c = 5 := by omega
      rw [← tz_sh_s cc him] at k
      exact ⟨pk_in (m + 1) 10 (by omega), pk_in m 10 (by omega), tz_st _ m (cc (m + 1)) k rfl ((tz_at _ (m + 1)).trans (congrArg nI (tz_sh_r cc (by omega))))⟩
    · have kk := ih (c + 1) (by omega) (by omega)
      have e1 : tz_sh cs 5 (i * 5) (m * 5 + (c + 1)) = tz_u (tz_sh cs 5 (i * 5) (m * 5 + c)) (m * 5 + c) (cs (m * 5 + c + 5)) := (tz_sh_s cs (hi := m * 5 + c) (by omega)).symm
      have e2 : tz_sh ct 5 (i * 5) (m * 5 + (c + 1)) = tz_u (tz_sh ct 5 (i * 5) (m * 5 + c)) (m * 5 + c) (ct (m * 5 + c + 5)) := (tz_sh_s ct (hi := m * 5 + c) (by omega)).symm
      rw [e1, e2] at kk
      have ex : nI (m + 1) * 5 + nI c = nI (m * 5 + c + 5) := (tz_i5 (m + 1) c).trans (congrArg nI (by omega))
      have f1 : tz_F (tz_sh cs 5 (i * 5) (m * 5 + c)) (nI (m + 1) * 5 + nI c).toNatClampNeg = nI (cs (m * 5 + c + 5)) := (tz_at _ _ ex).trans (congrArg nI (tz_sh_r cs (by omega)))
      have f2 : tz_F (tz_sh ct 5 (i * 5) (m * 5 + c)) (nI (m + 1) * 5 + nI c).toNatClampNeg = nI (ct (m * 5 + c + 5)) := (tz_at _ _ ex).trans (congrArg nI (tz_sh_r ct (by omega)))
      exact ⟨pk_in _ 50 (by omega) ex, pk_in _ 50 (by omega) (tz_i5 m c), tz_st _ (m * 5 + c) (cs (m * 5 + c + 5)) ⟨pk_in _ 50 (by omega) ex, pk_in _ 50 (by omega) (tz_i5 m c), tz_st _ (m * 5 + c) (ct (m * 5 + c + 5)) (nm_r (nI_1 c) kk) (tz_i5 m c) f2⟩ (tz_i5 m c) f1⟩
theorem xs_can12 (hN : N < 10) (k : pX (nI N) (nI N, tz_F (tz_sh cc 1 i N), tz_F (tz_sh cs 5 (i * 5) (N * 5)), tz_F (tz_sh ct 5 (i * 5) (N * 5)), tz_F w, tz_F U, tz_F E)) :
    ∀ n m, N < n + m → i ≤ m → m ≤ N → wX_cancel_12 pX n (nI m) (nI (N + 1)) (tz_F (tz_sh cc 1 i m)) (tz_F (tz_sh cs 5 (i * 5) (m * 5))) (tz_F (tz_sh ct 5 (i * 5) (m * 5))) (tz_F w) (tz_F U) (tz_F E) := by
  intro n
  induction n with
  | zero =>
    intro m h1 h2
    omega
  | succ n ih =>
    intro m h1 h2 h3
    refine pk_le N m (fun h => ?_) (fun h => ?_) (nI_pred N) rfl
    · obtain rfl : m = N := by omega
      exact nm_r (nI_pred m) k
    · have kk := ih (m + 1) (by omega) (by omega) (by omega)
      have e : (m + 1) * 5 = m * 5 + 5 := by omega
      rw [e] at kk
      rw [nI_1 m]
      exact ⟨6, xs_cp2 h2 (by omega) (fun x ex => by subst ex; exact kk) 6 0 (by omega) (by omega)⟩
theorem xs_can_f (ht : tr ≤ 10) (h : ¬ tz_in v1 tr) (k : pX (-1) (nI tr, tz_F cc, tz_F cs, tz_F ct, tz_F w, tz_F U, tz_F E)) : wpX_cancel pX (nI tr, tz_F cc, tz_F cs, tz_F ct, tz_F w, tz_F U, tz_F E) v1 := by
  unfold wpX_cancel
  dsimp only
  exact xs_iF ht h k
theorem xs_can_t (hN : N < 10) (hi : i ≤ N) (k : pX (nI N) (nI N, tz_F (tz_sh cc 1 i N), tz_F (tz_sh cs 5 (i * 5) (N * 5)), tz_F (tz_sh ct 5 (i * 5) (N * 5)), tz_F w, tz_F U, tz_F E)) : wpX_cancel pX (nI (N + 1), tz_F cc, tz_F cs, tz_F ct, tz_F w, tz_F U, tz_F E) (nI i) := by
  unfold wpX_cancel
  dsimp only
  refine xs_iT (by omega) ⟨i, by omega, rfl⟩ ?_
  have kk := xs_can12 hN k (N + 1) i (by omega) (Nat.le_refl i) hi
  rw [tz_sh_0, tz_sh_0, tz_sh_0] at kk
  exact ⟨N + 1, kk⟩
theorem ys_can58 {ccN : Nat → Nat} (hN : N < 10) (k : pY (nI N) (nI N, tz_F ccN, tz_F (tz_sh cs 5 (i * 5) (N * 5)), tz_F (tz_sh ct 5 (i * 5) (N * 5)), tz_F w, tz_F O, tz_F T)) :
    ∀ n c, N * 5 < n + c → i * 5 ≤ c → c ≤ N * 5 → wY_cancel_58 pY (nI N) n (nI c) (tz_F ccN) (tz_F (tz_sh cs 5 (i * 5) c)) (tz_F (tz_sh ct 5 (i * 5) c)) (tz_F w) (tz_F O) (tz_F T) := by
  intro n
  induction n with
  | zero =>
    intro c h1 h2
    omega
  | succ n ih =>
    intro c h1 h2 h3
    refine pk_le (N * 5) c (fun h => ?_) (fun h => ?_) (tz_m5 N) rfl
    · obtain rfl : c = N * 5 := by omega
      exact k
    · have kk := ih (c + 1) (by omega) (by omega) (by omega)
      rw [← tz_sh_s cs h2, ← tz_sh_s ct h2] at kk
      have ex : nI c + 5 = nI (c + 5) := nI_add c 5
      have f1 : tz_F (tz_sh cs 5 (i * 5) c) (nI c + 5).toNatClampNeg = nI (cs (c + 5)) := (tz_at _ _ ex).trans (congrArg nI (tz_sh_r cs (by omega)))
      have f2 : tz_F (tz_sh ct 5 (i * 5) c) (nI c + 5).toNatClampNeg = nI (ct (c + 5)) := (tz_at _ _ ex).trans (congrArg nI (tz_sh_r ct (by omega)))
      exact ⟨pk_in (c + 5) 50 (by omega) ex, pk_in c 50 (by omega), tz_st _ c (cs (c + 5)) ⟨pk_in (c + 5) 50 (by omega) ex, pk_in c 50 (by omega), tz_st _ c (ct (c + 5)) (nm_r (nI_1 c) kk) rfl f2⟩ rfl f1⟩
theorem ys_can26 (hN : N < 10) (hi : i ≤ N) (k : pY (nI N) (nI N, tz_F (tz_sh cc 1 i N), tz_F (tz_sh cs 5 (i * 5) (N * 5)), tz_F (tz_sh ct 5 (i * 5) (N * 5)), tz_F w, tz_F O, tz_F T)) :
    ∀ n m, N < n + m → i ≤ m → m ≤ N → wY_cancel_26 pY (nI i) (nI N) n (nI m) (tz_F (tz_sh cc 1 i m)) (tz_F cs) (tz_F ct) (tz_F w) (tz_F O) (tz_F T) := by
  intro n
  induction n with
  | zero =>
    intro m h1 h2
    omega
  | succ n ih =>
    intro m h1 h2 h3
    refine pk_le N m (fun h => ?_) (fun h => ?_)
    · obtain rfl : m = N := by omega
      have kk := ys_can58 hN k (m * 5 + 1) (i * 5) (by omega) (Nat.le_refl _) (by omega)
      rw [tz_sh_0, tz_sh_0] at kk
      exact nm_r (tz_m5 i) ⟨m * 5 + 1, kk⟩
    · have kk := ih (m + 1) (by omega) (by omega) (by omega)
      rw [← tz_sh_s cc h2] at kk
      exact ⟨pk_in (m + 1) 10 (by omega) (nI_1 m), pk_in m 10 (by omega), tz_st _ m (cc (m + 1)) (nm_r (nI_1 m) kk) rfl ((tz_at _ (m + 1) (nI_1 m)).trans (congrArg nI (tz_sh_r cc (by omega))))⟩
theorem ys_can_f (ht : tr ≤ 10) (h : ¬ tz_in v1 tr) (k : pY (-1) (nI tr, tz_F cc, tz_F cs, tz_F ct, tz_F w, tz_F O, tz_F T)) : wpY_cancel pY (nI tr, tz_F cc, tz_F cs, tz_F ct, tz_F w, tz_F O, tz_F T) v1 :=
  br_c (fun _ => k) (fun h0 => br_f (tz_in_f (n := tr) (by omega) h h0) k)
theorem ys_can_t (hN : N < 10) (hi : i ≤ N) (k : pY (nI N) (nI N, tz_F (tz_sh cc 1 i N), tz_F (tz_sh cs 5 (i * 5) (N * 5)), tz_F (tz_sh ct 5 (i * 5) (N * 5)), tz_F w, tz_F O, tz_F T)) : wpY_cancel pY (nI (N + 1), tz_F cc, tz_F cs, tz_F ct, tz_F w, tz_F O, tz_F T) (nI i) := by
  refine br_f (nI_pos (by omega)) (br_t (nI_lt (by omega) (by omega)) (nm_r (nI_pred N) ?_))
  have kk := ys_can26 hN hi k (N + 1) i (by omega) (Nat.le_refl i) hi
  rw [tz_sh_0] at kk
  exact ⟨N + 1, kk⟩
end
section
variable {tr i q d : Nat} {cc cs ct w U E O T : Nat → Nat} {v1 v2 v3 : Int32} {pX : Int32 → SX → Prop} {pY : Int32 → SY → Prop}
/-- delay -/
theorem tz_d1 {c : Nat} (hi : i < 10) (hc : c < 5) : tz_F (tz_dl ct d (i * 5 + q) (i * 5 + c)) (nI i * 5 + nI c).toNatClampNeg + nI d = nI (ct (i * 5 + c) + d) := by
  rw [tz_at _ (i * 5 + c) (tz_i5 i c), tz_dl_r, nI_add]
theorem xs_del54 (hi : i < 10) (hc : cc i ≤ 5) (k : pX 1 (nI tr, tz_F cc, tz_F cs, tz_F (tz_dl ct d (i * 5 + q) (i * 5 + cc i)), tz_F w, tz_F U, tz_F E)) :
    ∀ n c, cc i < n + c → q ≤ c → c ≤ cc i → wX_delay_54 pX (nI i) (nI d) (nI tr) n (nI c) (tz_F cc) (tz_F cs) (tz_F (tz_dl ct d (i * 5 + q) (i * 5 + c))) (tz_F w) (tz_F U) (tz_F E) := by
  intro n
  induction n with
  | zero =>
    intro c h1 h2
    omega
  | succ n ih =>
    intro c h1 h2 h3
    refine ⟨pk_in i 10 hi, pk_le (cc i) c (fun h => ?_) (fun h => ?_) (tz_at cc i) rfl⟩
    · obtain rfl : c = cc i := by omega
      exact k
    · have kk := ih (c + 1) (by omega) (by omega) (by omega)
      have e1 : tz_dl ct d (i * 5 + q) (i * 5 + (c + 1)) = tz_u (tz_dl ct d (i * 5 + q) (i * 5 + c)) (i * 5 + c) (ct (i * 5 + c) + d) := (tz_dl_s ct (hi := i * 5 + c) (by omega)).symm
      rw [e1] at kk
      exact ⟨pk_in (i * 5 + c) 50 (by omega) (tz_i5 i c), pk_in (i * 5 + c) 50 (by omega) (tz_i5 i c), tz_st _ (i * 5 + c) (ct (i * 5 + c) + d) (nm_r (nI_1 c) kk) (tz_i5 i c) (tz_d1 hi (by omega))⟩
theorem ys_del82 (hi : i < 10) (hc : cc i ≤ 5) (k : pY 1 (nI tr, tz_F cc, tz_F cs, tz_F (tz_dl ct d (i * 5 + q) (i * 5 + cc i)), tz_F w, tz_F O, tz_F T)) :
    ∀ n c, cc i < n + c → q ≤ c → c ≤ cc i → wY_delay_82 pY (nI i) (nI d) (nI tr) n (nI c) (tz_F cc) (tz_F cs) (tz_F (tz_dl ct d (i * 5 + q) (i * 5 + c))) (tz_F w) (tz_F O) (tz_F T) := by
  intro n
  induction n with
  | zero =>
    intro c h1 h2
    omega
  | succ n ih =>
    intro c h1 h2 h3
    refine ⟨pk_in i 10 hi, pk_le (cc i) c (fun h => ?_) (fun h => ?_) (tz_at cc i) rfl⟩
    · obtain rfl : c = cc i := by omega
      exact k
    · have kk := ih (c + 1) (by omega) (by omega) (by omega)
      have e1 : tz_dl ct d (i * 5 + q) (i * 5 + (c + 1)) = tz_u (tz_dl ct d (i * 5 + q) (i * 5 + c)) (i * 5 + c) (ct (i * 5 + c) + d) := (tz_dl_s ct (hi := i * 5 + c) (by omega)).symm
      rw [e1] at kk
      exact ⟨pk_in (i * 5 + c) 50 (by omega) (tz_i5 i c), pk_in (i * 5 + c) 50 (by omega) (tz_i5 i c), tz_st _ (i * 5 + c) (ct (i * 5 + c) + d) (nm_r (nI_1 c) kk) (tz_i5 i c) (tz_d1 hi (by omega))⟩
theorem xs_del_1 (ht : tr ≤ 10) (h : ¬ tz_in v1 tr) (k : pX 0 (nI tr, tz_F cc, tz_F cs, tz_F ct, tz_F w, tz_F U, tz_F E)) : wpX_delay pX (nI tr, tz_F cc, tz_F cs, tz_F ct, tz_F w, tz_F U, tz_F E) v1 v2 v3 := by
  unfold wpX_delay
  dsimp only
  exact xs_iF ht h k
theorem ys_del_1 (ht : tr ≤ 10) (h : ¬ tz_in v1 tr) (k : pY 0 (nI tr, tz_F cc, tz_F cs, tz_F ct, tz_F w, tz_F O, tz_F T)) : wpY_delay pY (nI tr, tz_F cc, tz_F cs, tz_F ct, tz_F w, tz_F O, tz_F T) v1 v2 v3 :=
  br_c (fun _ => k) (fun h0 => br_t (Int32.not_lt.mp (tz_in_f (n := tr) (by omega) h h0)) k)
theorem xs_del_2 (ht : tr ≤ 10) (hi : i < tr) (hc : cc i ≤ 5) (h : ¬ tz_in v2 (cc i)) (k : pX 0 (nI tr, tz_F cc, tz_F cs, tz_F ct, tz_F w, tz_F U, tz_F E)) : wpX_delay pX (nI tr, tz_F cc, tz_F cs, tz_F ct, tz_F w, tz_F U, tz_F E) (nI i) v2 v3 := by
  unfold wpX_delay
  dsimp only
  refine xs_iT ht ⟨i, hi, rfl⟩ (br_c (fun _ => k) (fun h0 => ⟨pk_in i 10 (by omega), ?_⟩))
  rw [tz_at cc i]
  exact br_f (tz_in_f (n := cc i) (by omega) h h0) k
theorem ys_del_2 (ht : tr ≤ 10) (hi : i < tr) (hc : cc i ≤ 5) (h : ¬ tz_in v2 (cc i)) (k : pY 0 (nI tr, tz_F cc, tz_F cs, tz_F ct, tz_F w, tz_F O, tz_F T)) : wpY_delay pY (nI tr, tz_F cc, tz_F cs, tz_F ct, tz_F w, tz_F O, tz_F T) (nI i) v2 v3 := by
  unfold wpY_delay
  dsimp only
  refine br_f (nI_pos (by omega)) (br_f (nI_ge hi (by omega)) (br_c (fun _ => k) (fun h0 => ⟨pk_in i 10 (by omega), ?_⟩)))
  rw [tz_at cc i]
  exact br_t (Int32.not_lt.mp (tz_in_f (n := cc i) (by omega) h h0)) k
theorem xs_del_3 (ht : tr ≤ 10) (hi : i < tr) (hc : cc i ≤ 5) (hq : q < cc i) (h : ¬ tz_in v3 100) (k : pX 0 (nI tr, tz_F cc, tz_F cs, tz_F ct, tz_F w, tz_F U, tz_F E)) : wpX_delay pX (nI tr, tz_F cc, tz_F cs, tz_F ct, tz_F w, tz_F U, tz_F E) (nI i) (nI q) v3 := by
  unfold wpX_delay
  dsimp only
  refine xs_iT ht ⟨i, hi, rfl⟩ (br_f (nI_pos (by omega)) ⟨pk_in i 10 (by omega), pk_lt q (cc i) (fun _ => ?_) (fun h4 => absurd h4 (by omega)) rfl (tz_at cc i)⟩)
  exact br_c (fun _ => k) (fun h0 => br_f (tz_le_f (n := 99) (by decide) h h0) k)
theorem ys_del_3 (ht : tr ≤ 10) (hi : i < tr) (hc : cc i ≤ 5) (hq : q < cc i) (h : ¬ tz_in v3 100) (k : pY 0 (nI tr, tz_F cc, tz_F cs, tz_F ct, tz_F w, tz_F O, tz_F T)) : wpY_delay pY (nI tr, tz_F cc, tz_F cs, tz_F ct, tz_F w, tz_F O, tz_F T) (nI i) (nI q) v3 := by
  unfold wpY_delay
  dsimp only
  refine br_f (nI_pos (by omega)) (br_f (nI_ge hi (by omega)) (br_f (nI_pos (by omega)) ⟨pk_in i 10 (by omega), pk_le (cc i) q (fun h4 => absurd h4 (by omega)) (fun _ => ?_) (tz_at cc i) rfl⟩))
  exact br_c (fun _ => k) (fun h0 => br_f (tz_le_f (n := 99) (by decide) h h0) k)
theorem xs_del_t (hI : tz_I tr cc cs ct w) (hi : i < tr) (hq : q < cc i) (hd : d ≤ 99) (k0 : 999 < ct (i * 5 + (cc i - 1)) + d → pX 0 (nI tr, tz_F cc, tz_F cs, tz_F ct, tz_F w, tz_F U, tz_F E))
    (k1 : ct (i * 5 + (cc i - 1)) + d ≤ 999 → pX 1 (nI tr, tz_F cc, tz_F cs, tz_F (tz_dl ct d (i * 5 + q) (i * 5 + cc i)), tz_F w, tz_F U, tz_F E)) : wpX_delay pX (nI tr, tz_F cc, tz_F cs, tz_F ct, tz_F w, tz_F U, tz_F E) (nI i) (nI q) (nI d) := by
  obtain ⟨g1, g2, g3, g4, g5, g6, g7⟩ := hI
  have hc := g2 i
  have hl := g4 (i * 5 + (cc i - 1))
  unfold wpX_delay
  dsimp only
  refine xs_iT g1 ⟨i, hi, rfl⟩ (br_f (nI_pos (by omega)) ⟨pk_in i 10 (by omega), pk_lt q (cc i) (fun _ => ?_) (fun h4 => absurd h4 (by omega)) rfl (tz_at cc i)⟩)
  refine br_f (nI_pos (by omega)) (br_t (nI_le (b := 99) hd (by decide)) ?_)
  refine xs_last (by omega) hc (by omega) (pk_le (ct (i * 5 + (cc i - 1)) + d) 999 (fun h => ?_) k0 (nI_add _ _) rfl)
  have kk := xs_del54 (by omega) hc (k1 h) (cc i + 1) q (by omega) (Nat.le_refl q) (by omega)
  rw [tz_dl_0] at kk
  exact ⟨cc i + 1, kk⟩
theorem ys_del41 (hi : i < 10) (hc : cc i ≤ 5) (hd : d ≤ 99) (hq : q < cc i) (hct : ∀ j, ct j ≤ 999) (k0 : (∃ c, q ≤ c ∧ c < cc i ∧ 999 < ct (i * 5 + c) + d) → pY 0 (nI tr, tz_F cc, tz_F cs, tz_F ct, tz_F w, tz_F O, tz_F T))
    (k1 : (∀ c, q ≤ c → c < cc i → ct (i * 5 + c) + d ≤ 999) → pY 1 (nI tr, tz_F cc, tz_F cs, tz_F (tz_dl ct d (i * 5 + q) (i * 5 + cc i)), tz_F w, tz_F O, tz_F T)) :
    ∀ n c, cc i < n + c → q ≤ c → c ≤ cc i → (∀ p, q ≤ p → p < c → ct (i * 5 + p) + d ≤ 999) → wY_delay_41 pY (nI i) (nI q) (nI d) (nI tr) (tz_F cc) (tz_F cs) (tz_F ct) (tz_F w) (tz_F O) (tz_F T) n (nI c) := by
  intro n
  induction n with
  | zero =>
    intro c h1 h2
    omega
  | succ n ih =>
    intro c h1 h2 h3 h4
    have h9 := hct (i * 5 + c)
    refine ⟨pk_in i 10 hi, pk_le (cc i) c (fun h => ?_) (fun h => ?_) (tz_at cc i) rfl⟩
    · have kk := ys_del82 hi hc (k1 (fun p hp hp' => h4 p hp (by omega))) (cc i + 1) q (by omega) (Nat.le_refl q) (by omega)
      rw [tz_dl_0] at kk
      exact ⟨cc i + 1, kk⟩
    · have e : tz_F ct (nI i * 5 + nI c).toNatClampNeg + nI d = nI (ct (i * 5 + c) + d) := by rw [tz_at ct (i * 5 + c) (tz_i5 i c), nI_add]
      refine ⟨pk_in (i * 5 + c) 50 (by omega) (tz_i5 i c), pk_le (ct (i * 5 + c) + d) 999 (fun h6 => nm_r (nI_1 c) (ih (c + 1) (by omega) (by omega) (by omega) (fun p hp hp' => ?_))) (fun h6 => k0 ⟨c, h2, h, h6⟩) e rfl⟩
      by_cases e : p = c
      · subst e
        exact h6
      · exact h4 p hp (by omega)
theorem ys_del_t (hI : tz_I tr cc cs ct w) (hi : i < tr) (hq : q < cc i) (hd : d ≤ 99) (k0 : (∃ c, q ≤ c ∧ c < cc i ∧ 999 < ct (i * 5 + c) + d) → pY 0 (nI tr, tz_F cc, tz_F cs, tz_F ct, tz_F w, tz_F O, tz_F T))
    (k1 : (∀ c, q ≤ c → c < cc i → ct (i * 5 + c) + d ≤ 999) → pY 1 (nI tr, tz_F cc, tz_F cs, tz_F (tz_dl ct d (i * 5 + q) (i * 5 + cc i)), tz_F w, tz_F O, tz_F T)) : wpY_delay pY (nI tr, tz_F cc, tz_F cs, tz_F ct, tz_F w, tz_F O, tz_F T) (nI i) (nI q) (nI d) := by
  obtain ⟨g1, g2, g3, g4, g5, g6, g7⟩ := hI
  have hc := g2 i
  unfold wpY_delay
  dsimp only
  refine br_f (nI_pos (by omega)) (br_f (nI_ge hi (by omega)) (br_f (nI_pos (by omega)) ⟨pk_in i 10 (by omega), pk_le (cc i) q (fun h4 => absurd h4 (by omega)) (fun _ => ?_) (tz_at cc i) rfl⟩))
  refine br_f (nI_pos (by omega)) (br_t (nI_le (b := 99) hd (by decide)) ?_)
  exact ⟨cc i + 1, ys_del41 (by omega) hc hd hq g4 k0 k1 (cc i + 1) q (by omega) (Nat.le_refl q) (by omega) (fun p hp hp' => by omega)⟩
/-- walk -/
theorem xs_wal_f (h : ¬ (tz_in v1 8 ∧ tz_in v2 8 ∧ ¬ v1 = v2 ∧ tz_in v3 100)) (k : pX 0 (nI tr, tz_F cc, tz_F cs, tz_F ct, tz_F w, tz_F U, tz_F E)) : wpX_walk pX (nI tr, tz_F cc, tz_F cs, tz_F ct, tz_F w, tz_F U, tz_F E) v1 v2 v3 := by
  unfold wpX_walk
  dsimp only
  by_cases h1 : tz_in v1 8
  · by_cases h2 : tz_in v2 8
    · refine xs_sT h1 (xs_sT h2 (br_c (fun _ => k) (fun h3 => br_c (fun _ => k) (fun h0 => br_f ?_ k))))
      exact tz_le_f (n := 99) (by decide) (fun z => h ⟨h1, h2, h3, z⟩) h0
    · exact xs_sT h1 (xs_sF h2 k)
  · exact xs_sF h1 k
theorem ys_wal_f (h : ¬ (tz_in v1 8 ∧ tz_in v2 8 ∧ ¬ v1 = v2 ∧ tz_in v3 100)) (k : pY 0 (nI tr, tz_F cc, tz_F cs, tz_F ct, tz_F w, tz_F O, tz_F T)) : wpY_walk pY (nI tr, tz_F cc, tz_F cs, tz_F ct, tz_F w, tz_F O, tz_F T) v1 v2 v3 := by
  unfold wpY_walk
  dsimp only
  by_cases h1 : tz_in v1 8
  · by_cases h2 : tz_in v2 8
    · refine ys_sT h1 (ys_sT h2 (br_c (fun _ => k) (fun h3 => br_c (fun _ => k) (fun h0 => br_f ?_ k))))
      exact tz_le_f (n := 99) (by decide) (fun z => h ⟨h1, h2, h3, z⟩) h0
    · exact ys_sT h1 (ys_sF h2 k)
  · exact ys_sF h1 k
theorem xs_wal_t {a b : Nat} (ha : a < 8) (hb : b < 8) (hn : ¬ nI a = nI b) (hd : d ≤ 99) (k : pX 1 (nI tr, tz_F cc, tz_F cs, tz_F ct, tz_F (tz_u (tz_u w (a * 8 + b) d) (b * 8 + a) d), tz_F U, tz_F E)) : wpX_walk pX (nI tr, tz_F cc, tz_F cs, tz_F ct, tz_F w, tz_F U, tz_F E) (nI a) (nI b) (nI d) := by
  unfold wpX_walk
  dsimp only
  refine xs_sT ⟨a, ha, rfl⟩ (xs_sT ⟨b, hb, rfl⟩ (br_f hn (br_f (nI_pos (by omega)) (br_t (nI_le (b := 99) hd (by decide)) ?_))))
  exact ⟨pk_in (a * 8 + b) 64 (by omega) (tz_i8 a b), tz_st w (a * 8 + b) d ⟨pk_in (b * 8 + a) 64 (by omega) (tz_i8 b a), tz_st _ (b * 8 + a) d k (tz_i8 b a)⟩ (tz_i8 a b)⟩
theorem ys_wal_t {a b : Nat} (ha : a < 8) (hb : b < 8) (hn : ¬ nI a = nI b) (hd : d ≤ 99) (k : pY 1 (nI tr, tz_F cc, tz_F cs, tz_F ct, tz_F (tz_u (tz_u w (a * 8 + b) d) (b * 8 + a) d), tz_F O, tz_F T)) : wpY_walk pY (nI tr, tz_F cc, tz_F cs, tz_F ct, tz_F w, tz_F O, tz_F T) (nI a) (nI b) (nI d) := by
  unfold wpY_walk
  dsimp only
  refine ys_sT ⟨a, ha, rfl⟩ (ys_sT ⟨b, hb, rfl⟩ (br_f hn (br_f (nI_pos (by omega)) (br_t (nI_le (b := 99) hd (by decide)) ?_))))
  exact ⟨pk_in (a * 8 + b) 64 (by omega) (tz_i8 a b), tz_st w (a * 8 + b) d ⟨pk_in (b * 8 + a) 64 (by omega) (tz_i8 b a), tz_st _ (b * 8 + a) d k (tz_i8 b a)⟩ (tz_i8 a b)⟩
end
end
section
/-- both sides hold the same timetable and the same walks; the scratch arrays are free -/
def i_Rel (_ : Nat) (u : SX) (v : SY) : Prop := ∃ (tr : Nat) (cc cs ct w U E O T : Nat → Nat), tz_I tr cc cs ct w ∧ u = (nI tr, tz_F cc, tz_F cs, tz_F ct, tz_F w, tz_F U, tz_F E) ∧ v = (nI tr, tz_F cc, tz_F cs, tz_F ct, tz_F w, tz_F O, tz_F T)
theorem zz_R {k tr : Nat} {cc cs ct w U E O T : Nat → Nat} (h : tz_I tr cc cs ct w) : i_Rel k (nI tr, tz_F cc, tz_F cs, tz_F ct, tz_F w, tz_F U, tz_F E) (nI tr, tz_F cc, tz_F cs, tz_F ct, tz_F w, tz_F O, tz_F T) := ⟨tr, cc, cs, ct, w, U, E, O, T, h, rfl, rfl⟩
theorem i_up {k : Nat} {u : SX} {v : SY} (h : i_Rel k u v) : i_Rel (k + 5) u v := h
theorem i_vc0 : wpX_init (fun u => wpY_init (fun v => i_Rel 0 u v)) :=
  ⟨0, fun _ => 0, fun _ => 0, fun _ => 0, fun _ => 0, fun _ => 0, fun _ => 0, fun _ => 0, fun _ => 0, tz_I_0, rfl, rfl⟩
theorem i_vc_trip {k : Nat} {u : SX} {v : SY} (I : i_Rel k u v) (hk : k + 5 ≤ 2560) (v1 : Int32) (v2 : Int32) : wpX_trip (fun r u' => wpY_trip (fun r' v' => r' = r ∧ i_Rel (k + 5) u' v') v v1 v2) u v1 v2 := by
  obtain ⟨tr, cc, cs, ct, w, U, E, O, T, hI, rfl, rfl⟩ := I
  have h1 := hI.1
  by_cases h10 : tr = 10
  · subst h10
    exact xs_tri_u (ys_tri_u ⟨rfl, zz_R hI⟩)
  · have htr : tr < 10 := by omega
    by_cases h : tz_in v1 8 ∧ tz_in v2 1000
    · obtain ⟨⟨s, hs, rfl⟩, t, ht, rfl⟩ := h
      exact xs_tri_t htr hs (by omega) (ys_tri_t htr hs (by omega) ⟨rfl, zz_R (tz_I_trip hI htr hs (by omega))⟩)
    · exact xs_tri_f htr h (ys_tri_f htr h ⟨rfl, zz_R hI⟩)
theorem i_vc_call {k : Nat} {u : SX} {v : SY} (I : i_Rel k u v) (hk : k + 5 ≤ 2560) (v1 : Int32) (v2 : Int32) : wpX_call (fun r u' => wpY_call (fun r' v' => r' = r ∧ i_Rel (k + 5) u' v') v v1 v2) u v1 v2 := by
  obtain ⟨tr, cc, cs, ct, w, U, E, O, T, hI, rfl, rfl⟩ := I
  have h1 := hI.1
  by_cases h0 : tr = 0
  · subst h0
    exact xs_cal_0 (ys_cal_0 ⟨rfl, zz_R hI⟩)
  · obtain ⟨i, rfl⟩ : ∃ i, tr = i + 1 := ⟨tr - 1, by omega⟩
    by_cases h : tz_in v1 8 ∧ tz_in v2 1000
    · obtain ⟨⟨s, hs, rfl⟩, t, ht, rfl⟩ := h
      have ht' : t ≤ 999 := by omega
      refine xs_cal_t hI hs ht' (fun h5 => ?_) (fun h5 hb => ?_) (fun h5 ha hl => ?_)
      · exact ys_cal_t hI hs ht' (fun _ => ⟨rfl, zz_R hI⟩) (fun h _ => absurd h (by omega)) (fun h _ _ => absurd h (by omega))
      · refine ys_cal_t hI hs ht' (fun h => absurd h (by omega)) (fun _ _ => ⟨rfl, zz_R hI⟩) (fun _ ha hl => ?_)
        rcases hb with ⟨c, hc, hs⟩ | hb
        · exact absurd hs (ha c hc)
        · omega
      · refine ys_cal_t hI hs ht' (fun h => absurd h (by omega)) (fun _ hb => ?_) (fun _ _ _ => ⟨rfl, zz_R (tz_I_call hI h5 hs ht' hl)⟩)
        rcases hb with ⟨c, hc, hs⟩ | hb
        · exact absurd hs (ha c hc)
        · omega
    · exact xs_cal_f (by omega) h (ys_cal_f (by omega) h ⟨rfl, zz_R hI⟩)
theorem i_vc_cancel {k : Nat} {u : SX} {v : SY} (I : i_Rel k u v) (hk : k + 5 ≤ 2560) (v1 : Int32) : wpX_cancel (fun r u' => wpY_cancel (fun r' v' => r' = r ∧ i_Rel (k + 5) u' v') v v1) u v1 := by
  obtain ⟨tr, cc, cs, ct, w, U, E, O, T, hI, rfl, rfl⟩ := I
  have h1 := hI.1
  by_cases h : tz_in v1 tr
  · obtain ⟨i, hi, rfl⟩ := h
    obtain ⟨N, rfl⟩ : ∃ N, tr = N + 1 := ⟨tr - 1, by omega⟩
    exact xs_can_t (by omega) (by omega) (ys_can_t (by omega) (by omega) ⟨rfl, zz_R (tz_I_cancel hI (by omega))⟩)
  · exact xs_can_f h1 h (ys_can_f h1 h ⟨rfl, zz_R hI⟩)
theorem i_vc_delay {k : Nat} {u : SX} {v : SY} (I : i_Rel k u v) (hk : k + 5 ≤ 2560) (v1 : Int32) (v2 : Int32) (v3 : Int32) : wpX_delay (fun r u' => wpY_delay (fun r' v' => r' = r ∧ i_Rel (k + 5) u' v') v v1 v2 v3) u v1 v2 v3 := by
  obtain ⟨tr, cc, cs, ct, w, U, E, O, T, hI, rfl, rfl⟩ := I
  have h1 := hI.1
  by_cases h : tz_in v1 tr
  · obtain ⟨i, hi, rfl⟩ := h
    have hc := hI.2.1 i
    by_cases h2 : tz_in v2 (cc i)
    · obtain ⟨q, hq, rfl⟩ := h2
      by_cases h3 : tz_in v3 100
      · obtain ⟨d, hd, rfl⟩ := h3
        have hd' : d ≤ 99 := by omega
        refine xs_del_t hI hi hq hd' (fun h4 => ?_) (fun h4 => ?_)
        · refine ys_del_t hI hi hq hd' (fun _ => ⟨rfl, zz_R hI⟩) (fun h5 => ?_)
          have h6 := h5 (cc i - 1) (by omega) (by omega)
          omega
        · have hm : ∀ c, q ≤ c → c < cc i → ct (i * 5 + c) + d ≤ 999 := fun c _ hc' => by
            have h6 := tz_mono hI hi (k := c) (c := cc i - 1) (by omega) (by omega)
            omega
          refine ys_del_t hI hi hq hd' (fun ⟨c, h5, h6, h7⟩ => ?_) (fun _ => ⟨rfl, zz_R (tz_I_delay hI hi hm)⟩)
          have h8 := hm c h5 h6
          omega
      · exact xs_del_3 h1 hi hc hq h3 (ys_del_3 h1 hi hc hq h3 ⟨rfl, zz_R hI⟩)
    · exact xs_del_2 h1 hi hc h2 (ys_del_2 h1 hi hc h2 ⟨rfl, zz_R hI⟩)
  · exact xs_del_1 h1 h (ys_del_1 h1 h ⟨rfl, zz_R hI⟩)
theorem i_vc_walk {k : Nat} {u : SX} {v : SY} (I : i_Rel k u v) (hk : k + 5 ≤ 2560) (v1 : Int32) (v2 : Int32) (v3 : Int32) : wpX_walk (fun r u' => wpY_walk (fun r' v' => r' = r ∧ i_Rel (k + 5) u' v') v v1 v2 v3) u v1 v2 v3 := by
  obtain ⟨tr, cc, cs, ct, w, U, E, O, T, hI, rfl, rfl⟩ := I
  by_cases h : tz_in v1 8 ∧ tz_in v2 8 ∧ ¬ v1 = v2 ∧ tz_in v3 100
  · obtain ⟨⟨a, ha, rfl⟩, ⟨b, hb, rfl⟩, hn, d, hd, rfl⟩ := h
    exact xs_wal_t ha hb hn (by omega) (ys_wal_t ha hb hn (by omega) ⟨rfl, zz_R (tz_I_walk hI (by omega))⟩)
  · exact xs_wal_f h (ys_wal_f h ⟨rfl, zz_R hI⟩)
theorem i_vc_arrival {k : Nat} {u : SX} {v : SY} (I : i_Rel k u v) (hk : k + 5 ≤ 2560) (v1 : Int32) (v2 : Int32) (v3 : Int32) (v4 : Int32) : wpX_arrival (fun r u' => wpY_arrival (fun r' v' => r' = r ∧ i_Rel (k + 5) u' v') v v1 v2 v3 v4) u v1 v2 v3 v4 := by
  obtain ⟨tr, cc, cs, ct, w, U, E, O, T, hI, rfl, rfl⟩ := I
  by_cases h : tz_in v1 8 ∧ tz_in v2 8 ∧ tz_in v3 1000 ∧ tz_in v4 11
  · obtain ⟨⟨a, ha, rfl⟩, ⟨b, hb, rfl⟩, ⟨t, ht, rfl⟩, R, hR, rfl⟩ := h
    refine xs_arr_t hI ha hb (by omega) (by omega) (fun U' E' hE => ys_arr_t hI ha hb (by omega) (by omega) (fun O' T' hT => ⟨?_, zz_R hI⟩))
    have hs := tz_sim_k hb (by omega) hE hT
    unfold tz_sim at hs
    by_cases c : E' b = 1000000
    · rw [if_pos c, if_pos (by omega)]
    · rw [if_neg c, if_neg (by omega)]
      exact congrArg nI (by omega)
  · exact xs_arr_f h (ys_arr_f h ⟨rfl, zz_R hI⟩)
theorem i_vc_fewest {k : Nat} {u : SX} {v : SY} (I : i_Rel k u v) (hk : k + 5 ≤ 2560) (v1 : Int32) (v2 : Int32) (v3 : Int32) : wpX_fewest (fun r u' => wpY_fewest (fun r' v' => r' = r ∧ i_Rel (k + 5) u' v') v v1 v2 v3) u v1 v2 v3 := by
  obtain ⟨tr, cc, cs, ct, w, U, E, O, T, hI, rfl, rfl⟩ := I
  by_cases h : tz_in v1 8 ∧ tz_in v2 8 ∧ tz_in v3 1000
  · obtain ⟨⟨a, ha, rfl⟩, ⟨b, hb, rfl⟩, t, ht, rfl⟩ := h
    have ht' : t ≤ 999 := by omega
    refine xs_few_t hI ha hb ht' (fun j U' E' hj h1 h2 => ?_) (fun U' E' h1 => ?_)
    · refine ys_few_t hI ha hb ht' (fun O' T' hT j' hj' h3 h4 => ?_) (fun O' T' hT h3 => ?_)
      · have e : j' = j := by
          by_cases c : j' < j
          · have h5 := (tz_few_1 hI ha hb ht' hT (by omega)).mp (h1 j' c) j' (Nat.le_refl _)
            omega
          · by_cases c' : j < j'
            · exact absurd ((tz_few_1 hI ha hb ht' hT hj).mpr (fun q hq => h3 q (by omega))) h2
            · omega
        subst e
        exact ⟨rfl, zz_R hI⟩
      · exact absurd ((tz_few_1 hI ha hb ht' hT hj).mpr (fun q hq => h3 q (by omega))) h2
    · refine ys_few_t hI ha hb ht' (fun O' T' hT j' hj' h3 h4 => ?_) (fun O' T' hT h3 => ⟨rfl, zz_R hI⟩)
      have h5 := (tz_few_1 hI ha hb ht' hT hj').mp (h1 j' hj') j' (Nat.le_refl _)
      omega
  · exact xs_few_f h (ys_few_f h ⟨rfl, zz_R hI⟩)
theorem i_vc_choices {k : Nat} {u : SX} {v : SY} (I : i_Rel k u v) (hk : k + 5 ≤ 2560) (v1 : Int32) (v2 : Int32) (v3 : Int32) : wpX_choices (fun r u' => wpY_choices (fun r' v' => r' = r ∧ i_Rel (k + 5) u' v') v v1 v2 v3) u v1 v2 v3 := by
  obtain ⟨tr, cc, cs, ct, w, U, E, O, T, hI, rfl, rfl⟩ := I
  by_cases h : tz_in v1 8 ∧ tz_in v2 8 ∧ tz_in v3 1000
  · obtain ⟨⟨a, ha, rfl⟩, ⟨b, hb, rfl⟩, t, ht, rfl⟩ := h
    have ht' : t ≤ 999 := by omega
    refine xs_cho_t (e := fun q => tz_EX cs ct cc w tr a t q b) hI ha hb ht' (fun q => rfl) (fun U' E' => ?_)
    refine ys_cho_t hI ha hb ht' (fun O' T' hT => ⟨?_, zz_R hI⟩)
    have hs := (tz_cxy (e := fun q => tz_EX cs ct cc w tr a t q b) (T := T') (b := b) 11 (fun q hq => tz_sim_k hb (by omega) (tz_EXb hI ha ht' q) hT)).2
    exact congrArg nI hs.symm
  · exact xs_cho_f h (ys_cho_f h ⟨rfl, zz_R hI⟩)
theorem i_vc_leave {k : Nat} {u : SX} {v : SY} (I : i_Rel k u v) (hk : k + 5 ≤ 2560) (v1 : Int32) (v2 : Int32) (v3 : Int32) : wpX_leave (fun r u' => wpY_leave (fun r' v' => r' = r ∧ i_Rel (k + 5) u' v') v v1 v2 v3) u v1 v2 v3 := by
  obtain ⟨tr, cc, cs, ct, w, U, E, O, T, hI, rfl, rfl⟩ := I
  by_cases h : tz_in v1 8 ∧ tz_in v2 8 ∧ tz_in v3 1000
  · obtain ⟨⟨a, ha, rfl⟩, ⟨b, hb, rfl⟩, y, hy, rfl⟩ := h
    have hy' : y ≤ 999 := by omega
    refine xs_lea_t hI ha hb hy' (fun q U' E' hq h1 h2 => ?_) (fun U' E' h1 => ?_)
    · refine ys_lea_t hI ha hb hy' (fun q' O' T' hq' h3 h4 => ?_) (fun O' T' h3 => absurd h2 (h3 q hq))
      have e : q' = q := by
        by_cases c : q' < q
        · exact absurd h2 (h3 q c hq)
        · by_cases c' : q < q'
          · exact absurd h4 (h1 q' c' hq')
          · omega
      subst e
      exact ⟨rfl, zz_R hI⟩
    · exact ys_lea_t hI ha hb hy' (fun q' O' T' hq' h3 h4 => absurd h4 (h1 q' hq')) (fun O' T' h3 => ⟨rfl, zz_R hI⟩)
  · exact xs_lea_f h (ys_lea_f h ⟨rfl, zz_R hI⟩)
theorem i_vc_within {k : Nat} {u : SX} {v : SY} (I : i_Rel k u v) (hk : k + 5 ≤ 2560) (v1 : Int32) (v2 : Int32) (v3 : Int32) : wpX_within (fun r u' => wpY_within (fun r' v' => r' = r ∧ i_Rel (k + 5) u' v') v v1 v2 v3) u v1 v2 v3 := by
  obtain ⟨tr, cc, cs, ct, w, U, E, O, T, hI, rfl, rfl⟩ := I
  by_cases h : tz_in v1 8 ∧ tz_in v2 1000 ∧ tz_in v3 1000
  · obtain ⟨⟨a, ha, rfl⟩, ⟨t, ht, rfl⟩, y, hy, rfl⟩ := h
    exact xs_wit_t hI ha (by omega) (by omega) rfl (fun U' E' => ys_wit_t hI ha (by omega) (by omega) rfl (fun O' T' => ⟨rfl, zz_R hI⟩))
  · exact xs_wit_f h (ys_wit_f h ⟨rfl, zz_R hI⟩)
end
