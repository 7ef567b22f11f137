theorem pk_us {f : Nat → Int32} {k : Nat} {x : Int32} : upd f k x k = x := if_pos rfl
theorem pk_un {f : Nat → Int32} {k j : Nat} {x : Int32} (h : j ≠ k) : upd f k x j = f j := if_neg h
theorem pk_sub {a b : Nat} (h : b ≤ a) : nI a - nI b = nI (a - b) := by
  obtain ⟨c, rfl⟩ : ∃ c, a = c + b := ⟨a - b, by omega⟩
  rw [← nI_add, Int32.add_sub_cancel, Nat.add_sub_cancel]
theorem pk_m1 (n : Nat) : nI (n + 1) + (-1) = nI n := by
  rw [← nI_1, Int32.add_assoc, show (1 : Int32) + (-1) = 0 from rfl, Int32.add_zero]
theorem pk_mul (a b : Nat) : nI a * nI b = nI (a * b) := (Int32.ofNat_mul a b).symm
theorem pk_div {a d : Nat} (ha : a < 2 ^ 31) (h0 : 0 < d) (hd : d < 2 ^ 31) : nI a / nI d = nI (a / d) := by
  apply Int32.toInt_inj.mp
  rw [lg_idiv_nonneg (by rw [nI_toInt ha]; omega) (by rw [nI_toInt hd]; omega), nI_toInt ha, nI_toInt hd, nI_toInt (Nat.lt_of_le_of_lt (Nat.div_le_self a d) ha)]
  first | rfl | exact (Int.natCast_ediv _ _).symm
theorem pk_rem {a d : Nat} (ha : a < 2 ^ 31) (h0 : 0 < d) (hd : d < 2 ^ 31) : nI a - nI a / nI d * nI d = nI (a % d) := by
  rw [pk_div ha h0 hd, pk_mul, pk_sub (Nat.div_mul_le_self a d)]
  exact congrArg nI (by have := Nat.div_add_mod' a d; omega)
theorem pk_sub_toInt {a b : Nat} (ha : a < 2 ^ 30) (hb : b < 2 ^ 30) : (nI a - nI b).toInt = (a : Int) - b := by
  rw [Int32.toInt_sub, nI_toInt (by omega), nI_toInt (by omega)]
  exact Int.bmod_eq_of_le (by omega) (by omega)
theorem pk_sneg {a b : Nat} (hb : b < 2 ^ 30) (h : a < b) : nI a - nI b < 0 := by
  rw [Int32.lt_iff_toInt_lt, pk_sub_toInt (by omega) hb, show (0 : Int32).toInt = 0 from by decide]
  omega
theorem pk_ix (x : Int32) {n : Nat} (hn : n < 2 ^ 31) : x < 0 ∨ nI n ≤ x ∨ ∃ j : Nat, j < n ∧ x = nI j := by
  by_cases h : x < 0
  · exact Or.inl h
  · obtain ⟨j, hj, rfl⟩ := nI_of h
    by_cases h2 : j < n
    · exact Or.inr (Or.inr ⟨j, h2, rfl⟩)
    · exact Or.inr (Or.inl (nI_le (by omega) hj))
theorem pk_le {x y : Int32} {A B : Prop} (a b : Nat) (f : a ≤ b → A) (g : b < a → B) (hx : x = nI a := by rfl) (hy : y = nI b := by rfl) (ha : a < 2 ^ 31 := by omega) (hb : b < 2 ^ 31 := by omega) : (x ≤ y → A) ∧ (¬ x ≤ y → B) := by
  subst hx hy
  rw [nI_leI ha hb]
  exact ⟨f, fun z => g (by omega)⟩
theorem pk_lt {x y : Int32} {A B : Prop} (a b : Nat) (f : a < b → A) (g : b ≤ a → B) (hx : x = nI a := by rfl) (hy : y = nI b := by rfl) (ha : a < 2 ^ 31 := by omega) (hb : b < 2 ^ 31 := by omega) : (x < y → A) ∧ (¬ x < y → B) := by
  subst hx hy
  rw [nI_ltI ha hb]
  exact ⟨f, fun z => g (by omega)⟩
theorem pk_eq {x y : Int32} {A B : Prop} (a b : Nat) (f : a = b → A) (g : a ≠ b → B) (hx : x = nI a := by rfl) (hy : y = nI b := by rfl) (ha : a < 2 ^ 31 := by omega) (hb : b < 2 ^ 31 := by omega) : (x = y → A) ∧ (¬ x = y → B) := by
  subst hx hy
  rw [nI_eq ha hb]
  exact ⟨f, g⟩
theorem pk_in {x : Int32} (n N : Nat) (h : n < N) (hx : x = nI n := by rfl) (hN : N < 2 ^ 31 := by omega) : vp_in x N := by
  subst hx
  exact vp_in_nI h hN
theorem pk_cl {x : Int32} (n : Nat) (hx : x = nI n := by rfl) (h : n < 2 ^ 31 := by omega) : x.toNatClampNeg = n := by
  subst hx
  exact nI_clamp h
theorem pk_tn {n : Nat} (h : n < 2 ^ 32) : (nI n).toBitVec.toNat = n := Nat.mod_eq_of_lt h
theorem pk_loop {σ : Type} (W : Nat → Nat → σ → Prop) (I : Nat → σ → Prop) (e i0 : Nat) (s : σ) (hi : i0 ≤ e) (h0 : I i0 s) (hx : ∀ n s, I e s → W (n + 1) e s)
    (hs : ∀ n i s, i < e → I i s → (∀ s', I (i + 1) s' → W n (i + 1) s') → W (n + 1) i s) : ∃ n, W n i0 s :=
  ⟨e + 1, loop_i W I e hx hs (e + 1) i0 s hi (by omega) h0⟩
theorem pk_loopD {σ : Type} (W : Nat → Nat → σ → Prop) (I : Nat → σ → Prop) (hx : ∀ n s, I 0 s → W (n + 1) 0 s)
    (hs : ∀ n i s, I (i + 1) s → (∀ s', I i s' → W n i s') → W (n + 1) (i + 1) s) : ∀ (e : Nat) (s : σ), I e s → W (e + 1) e s := by
  intro e
  induction e with
  | zero => exact fun s h => hx 0 s h
  | succ e ih => exact fun s h => hs (e + 1) e s h (fun s' h' => ih s' h')
theorem ek_if {c d A B : Prop} (e : c ↔ d) (f : d → A) (g : ¬ d → B) : (c → A) ∧ (¬ c → B) :=
  ⟨fun z => f (e.mp z), fun z => g (fun y => z (e.mpr y))⟩
theorem ek_v {α : Sort _} {P : α → Prop} {a b : α} (e : a = b) (h : P b) : P a := e ▸ h
theorem sb_m1 {p : Nat} (h : 0 < p) : nI p + (-1) = nI (p - 1) := by
  obtain ⟨q, rfl⟩ : ∃ q, p = q + 1 := ⟨p - 1, by omega⟩
  exact pk_m1 q
/-! own rows: arrays as functions into the naturals -/
def tz_u (f : Nat → Nat) (k v : Nat) : Nat → Nat := fun j => if j = k then v else f j
def tz_F (f : Nat → Nat) : Nat → Int32 := fun j => nI (f j)
theorem tz_us (f : Nat → Nat) (k v : Nat) : tz_u f k v k = v := if_pos rfl
theorem tz_un (f : Nat → Nat) (k v j : Nat) (h : ¬ j = k) : tz_u f k v j = f j := if_neg h
theorem tz_Fu (f : Nat → Nat) (k v : Nat) : upd (tz_F f) k (nI v) = tz_F (tz_u f k v) := by
  funext j
  by_cases h : j = k
  · subst h
    rw [pk_us]
    exact congrArg nI (tz_us f j v).symm
  · rw [pk_un h]
    exact congrArg nI (tz_un f k v j h).symm
theorem tz_F0 : (fun _ => 0 : Nat → Int32) = tz_F (fun _ => 0) := by
  funext j
  exact nI_0.symm
/-- an index: its bound, its value -/
theorem tz_i5 (i k : Nat) : nI i * 5 + nI k = nI (i * 5 + k) := by
  rw [show (5 : Int32) = nI 5 from rfl, pk_mul, nI_add]
theorem tz_i8 (i k : Nat) : nI i * 8 + nI k = nI (i * 8 + k) := by
  rw [show (8 : Int32) = nI 8 from rfl, pk_mul, nI_add]
theorem tz_m5 (i : Nat) : nI i * 5 = nI (i * 5) := by
  rw [show (5 : Int32) = nI 5 from rfl, pk_mul]
theorem tz_m8 (i : Nat) : nI i * 8 = nI (i * 8) := by
  rw [show (8 : Int32) = nI 8 from rfl, pk_mul]
theorem tz_s1 {i : Nat} (h : 1 ≤ i) : nI i - 1 = nI (i - 1) := by
  rw [show (1 : Int32) = nI 1 from rfl, pk_sub h]
theorem tz_at (f : Nat → Nat) {x : Int32} (n : Nat) (hx : x = nI n := by rfl) (h : n < 2 ^ 31 := by omega) : tz_F f x.toNatClampNeg = nI (f n) := by
  subst hx
  rw [nI_clamp h]
  rfl
theorem tz_up (f : Nat → Nat) {x y : Int32} (n v : Nat) (hx : x = nI n := by rfl) (hy : y = nI v := by rfl) (h : n < 2 ^ 31 := by omega) : upd (tz_F f) x.toNatClampNeg y = tz_F (tz_u f n v) := by
  subst hx hy
  rw [nI_clamp h]
  exact tz_Fu f n v
/-- a name for a cell of an array -/
theorem tz_rd {P : Int32 → Prop} (f : Nat → Nat) {x : Int32} (n : Nat) (k : P (nI (f n))) (hx : x = nI n := by rfl) (h : n < 2 ^ 31 := by omega) : ∀ y, y = tz_F f x.toNatClampNeg → P y := by
  intro y ey
  rw [ey, tz_at f n hx h]
  exact k
/-- a name for an array after a store -/
theorem tz_st {P : (Nat → Int32) → Prop} (f : Nat → Nat) {x y : Int32} (n v : Nat) (k : P (tz_F (tz_u f n v))) (hx : x = nI n := by rfl) (hy : y = nI v := by rfl) (h : n < 2 ^ 31 := by omega) : ∀ a, a = upd (tz_F f) x.toNatClampNeg y → P a := by
  intro a ea
  rw [ea, tz_up f n v hx hy h]
  exact k
theorem tz_uu (f : Nat → Nat) (k v v' : Nat) : tz_u (tz_u f k v) k v' = tz_u f k v' := by
  funext j
  by_cases h : j = k
  · subst h
    rw [tz_us, tz_us]
  · rw [tz_un _ _ _ _ h, tz_un _ _ _ _ h, tz_un _ _ _ _ h]
