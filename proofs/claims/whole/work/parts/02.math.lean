/-! the mathematics of both searches: least times against thresholds -/
theorem tz_fold {v x : Nat → Nat} {c : Nat → Prop} (θ : Nat) (h1 : ∀ n, c n → x n < v n → v (n + 1) = x n) (h2 : ∀ n, (c n → ¬ x n < v n) → v (n + 1) = v n) (n : Nat) :
    v n ≤ θ ↔ v 0 ≤ θ ∨ ∃ u, u < n ∧ c u ∧ x u ≤ θ := by
  induction n with
  | zero => exact ⟨Or.inl, fun h => h.elim id (fun ⟨u, hu, _⟩ => absurd hu (Nat.not_lt_zero u))⟩
  | succ n ih =>
    by_cases hc : c n ∧ x n < v n
    · have hlt := hc.2
      rw [h1 n hc.1 hc.2]
      constructor
      · intro h'
        exact Or.inr ⟨n, Nat.lt_succ_self n, hc.1, h'⟩
      · intro h'
        rcases h' with h' | ⟨u, hu, h3, h4⟩
        · have h5 := ih.mpr (Or.inl h')
          omega
        · by_cases hun : u = n
          · subst hun
            exact h4
          · have h5 := ih.mpr (Or.inr ⟨u, by omega, h3, h4⟩)
            omega
    · rw [h2 n (fun a b => hc ⟨a, b⟩)]
      constructor
      · intro h'
        rcases ih.mp h' with h' | ⟨u, hu, h3⟩
        · exact Or.inl h'
        · exact Or.inr ⟨u, by omega, h3⟩
      · intro h'
        rcases h' with h' | ⟨u, hu, h3, h4⟩
        · exact ih.mpr (Or.inl h')
        · by_cases hun : u = n
          · subst hun
            have h5 : ¬ x u < v u := fun z => hc ⟨h3, z⟩
            omega
          · exact ih.mpr (Or.inr ⟨u, by omega, h3, h4⟩)
theorem tz_eqle {a b : Nat} (h : ∀ θ, a ≤ θ ↔ b ≤ θ) : a = b := by
  have h1 := (h b).mpr (Nat.le_refl b)
  have h2 := (h a).mp (Nat.le_refl a)
  omega
/-- one walk onwards -/
def tz_sp (w U : Nat → Nat) (s : Nat) : Nat → Nat
  | 0 => U s
  | n + 1 => if 0 < w (n * 8 + s) ∧ U n + w (n * 8 + s) < tz_sp w U s n then U n + w (n * 8 + s) else tz_sp w U s n
theorem tz_sp_le (w U : Nat → Nat) (s n θ : Nat) : tz_sp w U s n ≤ θ ↔ U s ≤ θ ∨ ∃ u, u < n ∧ 0 < w (u * 8 + s) ∧ U u + w (u * 8 + s) ≤ θ :=
  tz_fold (v := tz_sp w U s) (x := fun n => U n + w (n * 8 + s)) (c := fun n => 0 < w (n * 8 + s)) θ
    (fun n a b => if_pos ⟨a, b⟩) (fun n a => if_neg (fun z => a z.1 z.2)) n
/-- aboard behind k calls of the trip at b; the times behind them -/
def tz_ab (cs ct E : Nat → Nat) (b : Nat) : Nat → Bool
  | 0 => false
  | k + 1 => if E (cs (b + k)) ≤ ct (b + k) then true else tz_ab cs ct E b k
theorem tz_ab_iff (cs ct E : Nat → Nat) (b k : Nat) : tz_ab cs ct E b k = true ↔ ∃ c, c < k ∧ E (cs (b + c)) ≤ ct (b + c) := by
  induction k with
  | zero => exact ⟨fun h => (Bool.false_ne_true h).elim, fun ⟨c, hc, _⟩ => absurd hc (Nat.not_lt_zero c)⟩
  | succ k ih =>
    show (if E (cs (b + k)) ≤ ct (b + k) then true else tz_ab cs ct E b k) = true ↔ _
    by_cases h : E (cs (b + k)) ≤ ct (b + k)
    · rw [if_pos h]
      exact ⟨fun _ => ⟨k, Nat.lt_succ_self k, h⟩, fun _ => rfl⟩
    · rw [if_neg h, ih]
      constructor
      · rintro ⟨c, hc, h'⟩
        exact ⟨c, by omega, h'⟩
      · rintro ⟨c, hc, h'⟩
        by_cases hck : c = k
        · subst hck
          exact absurd h' h
        · exact ⟨c, by omega, h'⟩
def tz_rt (cs ct E : Nat → Nat) (b : Nat) (U : Nat → Nat) : Nat → Nat → Nat
  | 0 => U
  | k + 1 => if tz_ab cs ct E b k = true ∧ ct (b + k) < tz_rt cs ct E b U k (cs (b + k)) then tz_u (tz_rt cs ct E b U k) (cs (b + k)) (ct (b + k)) else tz_rt cs ct E b U k
theorem tz_rt_le (cs ct E : Nat → Nat) (b : Nat) (U : Nat → Nat) (k s θ : Nat) : tz_rt cs ct E b U k s ≤ θ ↔ U s ≤ θ ∨ ∃ c, c < k ∧ (tz_ab cs ct E b c = true ∧ cs (b + c) = s) ∧ ct (b + c) ≤ θ := by
  refine tz_fold (v := fun k => tz_rt cs ct E b U k s) (x := fun c => ct (b + c)) (c := fun c => tz_ab cs ct E b c = true ∧ cs (b + c) = s) θ ?_ ?_ k
  · intro n h1 h2
    obtain ⟨h1, h3⟩ := h1
    subst h3
    have h2 : ct (b + n) < tz_rt cs ct E b U n (cs (b + n)) := h2
    show (if tz_ab cs ct E b n = true ∧ ct (b + n) < tz_rt cs ct E b U n (cs (b + n)) then tz_u (tz_rt cs ct E b U n) (cs (b + n)) (ct (b + n)) else tz_rt cs ct E b U n) (cs (b + n)) = ct (b + n)
    rw [if_pos (And.intro h1 h2)]
    exact tz_us _ _ _
  · intro n h1
    show (if tz_ab cs ct E b n = true ∧ ct (b + n) < tz_rt cs ct E b U n (cs (b + n)) then tz_u (tz_rt cs ct E b U n) (cs (b + n)) (ct (b + n)) else tz_rt cs ct E b U n) s = tz_rt cs ct E b U n s
    by_cases h2 : tz_ab cs ct E b n = true ∧ ct (b + n) < tz_rt cs ct E b U n (cs (b + n))
    · rw [if_pos h2]
      refine tz_un _ _ _ _ (fun z => ?_)
      subst z
      exact h1 ⟨h2.1, rfl⟩ h2.2
    · rw [if_neg h2]
/-- the first i trips -/
def tz_xr (cs ct cc E U : Nat → Nat) : Nat → Nat → Nat
  | 0 => U
  | i + 1 => tz_rt cs ct E (i * 5) (tz_xr cs ct cc E U i) (cc i)
/-- a ride to s by θ, boarded where P lets one -/
def tz_R (cs ct cc : Nat → Nat) (tr : Nat) (P : Nat → Nat → Prop) (s θ : Nat) : Prop :=
  ∃ i d c, i < tr ∧ d < c ∧ c < cc i ∧ P (cs (i * 5 + d)) (ct (i * 5 + d)) ∧ cs (i * 5 + c) = s ∧ ct (i * 5 + c) ≤ θ
theorem tz_xr_le (cs ct cc E U : Nat → Nat) (tr s θ : Nat) : tz_xr cs ct cc E U tr s ≤ θ ↔ U s ≤ θ ∨ tz_R cs ct cc tr (fun q τ => E q ≤ τ) s θ := by
  induction tr with
  | zero => exact ⟨Or.inl, fun h => h.elim id (fun ⟨i, _, _, hi, _⟩ => absurd hi (Nat.not_lt_zero i))⟩
  | succ i ih =>
    show tz_rt cs ct E (i * 5) (tz_xr cs ct cc E U i) (cc i) s ≤ θ ↔ _
    rw [tz_rt_le, ih]
    constructor
    · rintro ((h | ⟨i', d, c, h1, h⟩) | ⟨c, hc, ⟨h1, h2⟩, h3⟩)
      · exact Or.inl h
      · exact Or.inr ⟨i', d, c, by omega, h⟩
      · obtain ⟨d, hd, h4⟩ := (tz_ab_iff _ _ _ _ _).mp h1
        exact Or.inr ⟨i, d, c, Nat.lt_succ_self i, hd, hc, h4, h2, h3⟩
    · rintro (h | ⟨i', d, c, h1, h2, h3, h4, h5, h6⟩)
      · exact Or.inl (Or.inl h)
      · by_cases hi : i' = i
        · subst hi
          exact Or.inr ⟨c, h3, ⟨(tz_ab_iff _ _ _ _ _).mpr ⟨d, h2, h4⟩, h5⟩, h6⟩
        · exact Or.inl (Or.inr ⟨i', d, c, by omega, h2, h3, h4, h5, h6⟩)
/-- the reference's ride from call k on: n calls behind it -/
def tz_yc (cs ct : Nat → Nat) (r b k : Nat) (O : Nat → Nat) : Nat → Nat → Nat
  | 0 => O
  | n + 1 => if ct (b + (k + 1 + n)) < tz_yc cs ct r b k O n (r * 8 + cs (b + (k + 1 + n))) then tz_u (tz_yc cs ct r b k O n) (r * 8 + cs (b + (k + 1 + n))) (ct (b + (k + 1 + n))) else tz_yc cs ct r b k O n
theorem tz_yc_le (cs ct : Nat → Nat) (r b k : Nat) (O : Nat → Nat) (n j θ : Nat) : tz_yc cs ct r b k O n j ≤ θ ↔ O j ≤ θ ∨ ∃ u, u < n ∧ r * 8 + cs (b + (k + 1 + u)) = j ∧ ct (b + (k + 1 + u)) ≤ θ := by
  refine tz_fold (v := fun n => tz_yc cs ct r b k O n j) (x := fun u => ct (b + (k + 1 + u))) (c := fun u => r * 8 + cs (b + (k + 1 + u)) = j) θ ?_ ?_ n
  · intro n h1 h2
    subst h1
    have h2 : ct (b + (k + 1 + n)) < tz_yc cs ct r b k O n (r * 8 + cs (b + (k + 1 + n))) := h2
    show (if ct (b + (k + 1 + n)) < tz_yc cs ct r b k O n (r * 8 + cs (b + (k + 1 + n))) then tz_u (tz_yc cs ct r b k O n) (r * 8 + cs (b + (k + 1 + n))) (ct (b + (k + 1 + n))) else tz_yc cs ct r b k O n) (r * 8 + cs (b + (k + 1 + n))) = ct (b + (k + 1 + n))
    rw [if_pos h2]
    exact tz_us _ _ _
  · intro n h1
    show (if ct (b + (k + 1 + n)) < tz_yc cs ct r b k O n (r * 8 + cs (b + (k + 1 + n))) then tz_u (tz_yc cs ct r b k O n) (r * 8 + cs (b + (k + 1 + n))) (ct (b + (k + 1 + n))) else tz_yc cs ct r b k O n) j = tz_yc cs ct r b k O n j
    by_cases h2 : ct (b + (k + 1 + n)) < tz_yc cs ct r b k O n (r * 8 + cs (b + (k + 1 + n)))
    · rw [if_pos h2]
      refine tz_un _ _ _ _ (fun z => ?_)
      subst z
      exact h1 rfl h2
    · rw [if_neg h2]
def tz_yr (cs ct cc T : Nat → Nat) (r i k : Nat) (O : Nat → Nat) : Nat → Nat :=
  if ct (i * 5 + k) < T ((r - 1) * 8 + cs (i * 5 + k)) then O else tz_yc cs ct r (i * 5) k O (cc i - (k + 1))
def tz_ym (cs ct cc T : Nat → Nat) (r : Nat) (O : Nat → Nat) : Nat → Nat → Nat
  | 0 => O
  | m + 1 => if m % 5 < cc (m / 5) then tz_yr cs ct cc T r (m / 5) (m % 5) (tz_ym cs ct cc T r O m) else tz_ym cs ct cc T r O m
theorem tz_yr_le (cs ct cc T : Nat → Nat) (r i k : Nat) (O : Nat → Nat) (j θ : Nat) : tz_yr cs ct cc T r i k O j ≤ θ ↔ O j ≤ θ ∨ ∃ c, k < c ∧ c < cc i ∧ T ((r - 1) * 8 + cs (i * 5 + k)) ≤ ct (i * 5 + k) ∧ r * 8 + cs (i * 5 + c) = j ∧ ct (i * 5 + c) ≤ θ := by
  unfold tz_yr
  by_cases h : ct (i * 5 + k) < T ((r - 1) * 8 + cs (i * 5 + k))
  · rw [if_pos h]
    exact ⟨Or.inl, fun z => z.elim id (fun ⟨c, _, _, h1, _⟩ => absurd h (by omega))⟩
  · rw [if_neg h, tz_yc_le]
    constructor
    · rintro (h1 | ⟨u, hu, h1, h2⟩)
      · exact Or.inl h1
      · exact Or.inr ⟨k + 1 + u, by omega, by omega, by omega, h1, h2⟩
    · rintro (h1 | ⟨c, hk, hc, _, h1, h2⟩)
      · exact Or.inl h1
      · obtain ⟨u, rfl⟩ : ∃ u, c = k + 1 + u := ⟨c - (k + 1), by omega⟩
        exact Or.inr ⟨u, by omega, h1, h2⟩
theorem tz_ym_le (cs ct cc T : Nat → Nat) (r : Nat) (O : Nat → Nat) (m j θ : Nat) : tz_ym cs ct cc T r O m j ≤ θ ↔ O j ≤ θ ∨ ∃ i d c, i * 5 + d < m ∧ d < 5 ∧ d < c ∧ c < cc i ∧ T ((r - 1) * 8 + cs (i * 5 + d)) ≤ ct (i * 5 + d) ∧ r * 8 + cs (i * 5 + c) = j ∧ ct (i * 5 + c) ≤ θ := by
  induction m with
  | zero => exact ⟨Or.inl, fun h => h.elim id (fun ⟨i, d, _, hi, _⟩ => absurd hi (Nat.not_lt_zero _))⟩
  | succ m ih =>
    have hdm : m / 5 * 5 + m % 5 = m := by omega
    show (if m % 5 < cc (m / 5) then tz_yr cs ct cc T r (m / 5) (m % 5) (tz_ym cs ct cc T r O m) else tz_ym cs ct cc T r O m) j ≤ θ ↔ _
    by_cases h : m % 5 < cc (m / 5)
    · rw [if_pos h, tz_yr_le, ih]
      constructor
      · rintro ((h1 | ⟨i, d, c, h1, h2⟩) | ⟨c, h1, h2, h3⟩)
        · exact Or.inl h1
        · exact Or.inr ⟨i, d, c, by omega, h2⟩
        · exact Or.inr ⟨m / 5, m % 5, c, by omega, by omega, h1, h2, h3⟩
      · rintro (h1 | ⟨i, d, c, h1, h2, h3, h4, h5⟩)
        · exact Or.inl (Or.inl h1)
        · by_cases hm : i * 5 + d = m
          · obtain rfl : i = m / 5 := by omega
            obtain rfl : d = m % 5 := by omega
            exact Or.inr ⟨c, h3, h4, h5⟩
          · exact Or.inl (Or.inr ⟨i, d, c, by omega, h2, h3, h4, h5⟩)
    · rw [if_neg h, ih]
      constructor
      · rintro (h1 | ⟨i, d, c, h1, h2⟩)
        · exact Or.inl h1
        · exact Or.inr ⟨i, d, c, by omega, h2⟩
      · rintro (h1 | ⟨i, d, c, h1, h2, h3, h4, h5⟩)
        · exact Or.inl h1
        · by_cases hm : i * 5 + d = m
          · obtain rfl : i = m / 5 := by omega
            obtain rfl : d = m % 5 := by omega
            exact absurd (Nat.lt_trans h3 h4) h
          · exact Or.inr ⟨i, d, c, by omega, h2, h3, h4, h5⟩
