/-! times as thresholds: f stands for P below the reference's bound -/
def tz_rep (f : Nat → Nat) (P : Nat → Nat → Prop) : Prop := ∀ s, s < 8 → ∀ θ, θ < 100000 → (f s ≤ θ ↔ P s θ)
def tz_W (w : Nat → Nat) (P : Nat → Nat → Prop) (s θ : Nat) : Prop := P s θ ∨ ∃ u, u < 8 ∧ 0 < w (u * 8 + s) ∧ w (u * 8 + s) ≤ θ ∧ P u (θ - w (u * 8 + s))
theorem tz_rep_c {f g : Nat → Nat} {P : Nat → Nat → Prop} (h : tz_rep f P) (e : ∀ s, s < 8 → g s = f s) : tz_rep g P := by
  intro s hs θ hθ
  rw [e s hs]
  exact h s hs θ hθ
theorem tz_rep_i {f : Nat → Nat} {P Q : Nat → Nat → Prop} (h : tz_rep f P) (e : ∀ s θ, P s θ ↔ Q s θ) : tz_rep f Q :=
  fun s hs θ hθ => (h s hs θ hθ).trans (e s θ)
theorem tz_rep_sp {w U : Nat → Nat} {P : Nat → Nat → Prop} (h : tz_rep U P) : tz_rep (fun s => tz_sp w U s 8) (tz_W w P) := by
  intro s hs θ hθ
  show tz_sp w U s 8 ≤ θ ↔ tz_W w P s θ
  rw [tz_sp_le, h s hs θ hθ]
  constructor
  · rintro (h1 | ⟨u, hu, h1, h2⟩)
    · exact Or.inl h1
    · exact Or.inr ⟨u, hu, h1, by omega, (h u hu (θ - w (u * 8 + s)) (by omega)).mp (by omega)⟩
  · rintro (h1 | ⟨u, hu, h1, h2, h3⟩)
    · exact Or.inl h1
    · have h4 := (h u hu (θ - w (u * 8 + s)) (by omega)).mpr h3
      exact Or.inr ⟨u, hu, h1, by omega⟩
theorem tz_R_c {cs ct cc : Nat → Nat} {tr s θ : Nat} {P Q : Nat → Nat → Prop} (hcs : ∀ j, cs j < 8) (hct : ∀ j, ct j ≤ 999) (h : ∀ q τ, q < 8 → τ ≤ 999 → (P q τ ↔ Q q τ)) : tz_R cs ct cc tr P s θ ↔ tz_R cs ct cc tr Q s θ := by
  constructor
  · rintro ⟨i, d, c, h1, h2, h3, h4, h5⟩
    exact ⟨i, d, c, h1, h2, h3, (h _ _ (hcs _) (hct _)).mp h4, h5⟩
  · rintro ⟨i, d, c, h1, h2, h3, h4, h5⟩
    exact ⟨i, d, c, h1, h2, h3, (h _ _ (hcs _) (hct _)).mpr h4, h5⟩
theorem tz_rep_xr {cs ct cc E U : Nat → Nat} {tr : Nat} {P Q : Nat → Nat → Prop} (hcs : ∀ j, cs j < 8) (hct : ∀ j, ct j ≤ 999) (h : tz_rep U P) (hE : tz_rep E Q) :
    tz_rep (tz_xr cs ct cc E U tr) (fun s θ => P s θ ∨ tz_R cs ct cc tr Q s θ) := by
  intro s hs θ hθ
  have e : tz_R cs ct cc tr (fun q τ => E q ≤ τ) s θ ↔ tz_R cs ct cc tr Q s θ := tz_R_c hcs hct (fun q τ hq hτ => hE q hq τ (by omega))
  show tz_xr cs ct cc E U tr s ≤ θ ↔ (P s θ ∨ tz_R cs ct cc tr Q s θ)
  rw [tz_xr_le, h s hs θ hθ, e]
theorem tz_rep_ym {cs ct cc T O : Nat → Nat} {tr r : Nat} {Q : Nat → Nat → Prop} (hcs : ∀ j, cs j < 8) (hct : ∀ j, ct j ≤ 999) (hcc : ∀ j, cc j ≤ 5)
    (hO : ∀ s, s < 8 → O (r * 8 + s) = 100000) (hT : tz_rep (fun q => T ((r - 1) * 8 + q)) Q) :
    tz_rep (fun s => tz_ym cs ct cc T r O (tr * 5) (r * 8 + s)) (tz_R cs ct cc tr Q) := by
  intro s hs θ hθ
  show tz_ym cs ct cc T r O (tr * 5) (r * 8 + s) ≤ θ ↔ tz_R cs ct cc tr Q s θ
  rw [tz_ym_le, hO s hs]
  constructor
  · rintro (h | ⟨i, d, c, h1, h2, h3, h4, h5, h6, h7⟩)
    · omega
    · have hd := hct (i * 5 + d)
      exact ⟨i, d, c, by omega, h3, h4, (hT _ (hcs _) _ (by omega)).mp h5, by omega, h7⟩
  · rintro ⟨i, d, c, h1, h3, h4, h5, h6, h7⟩
    have hi := hcc i
    have hd := hct (i * 5 + d)
    exact Or.inr ⟨i, d, c, by omega, by omega, h3, h4, (hT _ (hcs _) _ (by omega)).mpr h5, by omega, h7⟩
theorem tz_ym_off {cs ct cc T O : Nat → Nat} {r m j : Nat} (hcs : ∀ j, cs j < 8) (hj : j < r * 8 ∨ r * 8 + 8 ≤ j) : tz_ym cs ct cc T r O m j = O j := by
  apply tz_eqle
  intro θ
  rw [tz_ym_le]
  constructor
  · rintro (h | ⟨i, d, c, h1, h2, h3, h4, h5, h6, h7⟩)
    · exact h
    · have hc := hcs (i * 5 + c)
      omega
  · exact Or.inl
theorem tz_ym_ub {cs ct cc T O : Nat → Nat} {r m j B : Nat} (h : O j ≤ B) : tz_ym cs ct cc T r O m j ≤ B := (tz_ym_le cs ct cc T r O m j B).mpr (Or.inl h)
theorem tz_yc_ub {cs ct O : Nat → Nat} {r b k n j B : Nat} (h : O j ≤ B) : tz_yc cs ct r b k O n j ≤ B := (tz_yc_le cs ct r b k O n j B).mpr (Or.inl h)
theorem tz_sp_ub {w U : Nat → Nat} {s n B : Nat} (h : U s ≤ B) : tz_sp w U s n ≤ B := (tz_sp_le w U s n B).mpr (Or.inl h)
theorem tz_rt_ub {cs ct E U : Nat → Nat} {b k s B : Nat} (h : U s ≤ B) : tz_rt cs ct E b U k s ≤ B := (tz_rt_le cs ct E b U k s B).mpr (Or.inl h)
theorem tz_xr_ub {cs ct cc E U : Nat → Nat} {k s B : Nat} (h : U s ≤ B) : tz_xr cs ct cc E U k s ≤ B := (tz_xr_le cs ct cc E U k s B).mpr (Or.inl h)
/-- the component's times are early or never -/
theorem tz_sp_gd {w U : Nat → Nat} {s : Nat} (hw : ∀ j, w j ≤ 99) (hs : s < 8) (h : ∀ q, q < 8 → U q ≤ 999 ∨ U q = 1000000) (n : Nat) (hn : n ≤ 8) : tz_sp w U s n ≤ 1098 ∨ tz_sp w U s n = 1000000 := by
  induction n with
  | zero =>
    show U s ≤ 1098 ∨ U s = 1000000
    have h1 := h s hs
    omega
  | succ n ih =>
    have ih := ih (by omega)
    have h1 := h n (by omega)
    have h2 := hw (n * 8 + s)
    show (if 0 < w (n * 8 + s) ∧ U n + w (n * 8 + s) < tz_sp w U s n then U n + w (n * 8 + s) else tz_sp w U s n) ≤ 1098 ∨ (if 0 < w (n * 8 + s) ∧ U n + w (n * 8 + s) < tz_sp w U s n then U n + w (n * 8 + s) else tz_sp w U s n) = 1000000
    by_cases hc : 0 < w (n * 8 + s) ∧ U n + w (n * 8 + s) < tz_sp w U s n
    · rw [if_pos hc]
      omega
    · rw [if_neg hc]
      exact ih
theorem tz_rt_gd {cs ct E U : Nat → Nat} {b s : Nat} (hct : ∀ j, ct j ≤ 999) (h : U s ≤ 999 ∨ U s = 1000000) (k : Nat) : tz_rt cs ct E b U k s ≤ 999 ∨ tz_rt cs ct E b U k s = 1000000 := by
  induction k with
  | zero => exact h
  | succ k ih =>
    show (if tz_ab cs ct E b k = true ∧ ct (b + k) < tz_rt cs ct E b U k (cs (b + k)) then tz_u (tz_rt cs ct E b U k) (cs (b + k)) (ct (b + k)) else tz_rt cs ct E b U k) s ≤ 999 ∨ (if tz_ab cs ct E b k = true ∧ ct (b + k) < tz_rt cs ct E b U k (cs (b + k)) then tz_u (tz_rt cs ct E b U k) (cs (b + k)) (ct (b + k)) else tz_rt cs ct E b U k) s = 1000000
    by_cases hc : tz_ab cs ct E b k = true ∧ ct (b + k) < tz_rt cs ct E b U k (cs (b + k))
    · rw [if_pos hc]
      by_cases hs : s = cs (b + k)
      · subst hs
        rw [tz_us]
        exact Or.inl (hct _)
      · rw [tz_un _ _ _ _ hs]
        exact ih
    · rw [if_neg hc]
      exact ih
theorem tz_xr_gd {cs ct cc E U : Nat → Nat} {s : Nat} (hct : ∀ j, ct j ≤ 999) (h : U s ≤ 999 ∨ U s = 1000000) (k : Nat) : tz_xr cs ct cc E U k s ≤ 999 ∨ tz_xr cs ct cc E U k s = 1000000 := by
  induction k with
  | zero => exact h
  | succ k ih => exact tz_rt_gd hct ih (cc k)
section
variable (cs ct cc w : Nat → Nat) (tr a t : Nat)
/-- off a ride (or at the start) at s by θ, with exactly k rides; there, with exactly k; the same with at most k -/
def tz_O : Nat → Nat → Nat → Prop
  | 0 => fun s θ => s = a ∧ t ≤ θ
  | k + 1 => tz_R cs ct cc tr (tz_W w (tz_O k))
def tz_T (k : Nat) : Nat → Nat → Prop := tz_W w (tz_O cs ct cc w tr a t k)
def tz_PX (k s θ : Nat) : Prop := ∃ j, j ≤ k ∧ tz_O cs ct cc w tr a t j s θ
def tz_N (k s θ : Nat) : Prop := ∃ j, j ≤ k ∧ tz_T cs ct cc w tr a t j s θ
theorem tz_WN (k s θ : Nat) : tz_W w (tz_PX cs ct cc w tr a t k) s θ ↔ tz_N cs ct cc w tr a t k s θ := by
  constructor
  · rintro (⟨j, hj, h⟩ | ⟨u, hu, h1, h2, j, hj, h⟩)
    · exact ⟨j, hj, Or.inl h⟩
    · exact ⟨j, hj, Or.inr ⟨u, hu, h1, h2, h⟩⟩
  · rintro ⟨j, hj, h | ⟨u, hu, h1, h2, h⟩⟩
    · exact Or.inl ⟨j, hj, h⟩
    · exact Or.inr ⟨u, hu, h1, h2, j, hj, h⟩
theorem tz_PXs (k s θ : Nat) : (tz_PX cs ct cc w tr a t k s θ ∨ tz_R cs ct cc tr (tz_N cs ct cc w tr a t k) s θ) ↔ tz_PX cs ct cc w tr a t (k + 1) s θ := by
  constructor
  · rintro (⟨j, hj, h⟩ | ⟨i, d, c, h1, h2, h3, ⟨j, hj, h4⟩, h5⟩)
    · exact ⟨j, by omega, h⟩
    · exact ⟨j + 1, by omega, i, d, c, h1, h2, h3, h4, h5⟩
  · rintro ⟨j, hj, h⟩
    cases j with
    | zero => exact Or.inl ⟨0, Nat.zero_le _, h⟩
    | succ j =>
      obtain ⟨i, d, c, h1, h2, h3, h4, h5⟩ := h
      exact Or.inr ⟨i, d, c, h1, h2, h3, ⟨j, by omega, h4⟩, h5⟩
/-- the component behind k rides -/
def tz_XU (k : Nat) (U : Nat → Nat) : Prop := tz_rep U (tz_PX cs ct cc w tr a t k) ∧ ∀ s, s < 8 → U s ≤ 999 ∨ U s = 1000000
def tz_XE (k : Nat) (E : Nat → Nat) : Prop := tz_rep E (tz_N cs ct cc w tr a t k) ∧ ∀ s, s < 8 → E s ≤ 1098 ∨ E s = 1000000
end
section
variable {cs ct cc w : Nat → Nat} {tr a t : Nat}
theorem tz_XU_0 {U : Nat → Nat} (ha : a < 8) (ht : t ≤ 999) (h : ∀ s, s < 8 → U s = if s = a then t else 1000000) : tz_XU cs ct cc w tr a t 0 U := by
  constructor
  · intro s hs θ hθ
    rw [h s hs]
    by_cases e : s = a
    · rw [if_pos e]
      constructor
      · intro z
        exact ⟨0, Nat.le_refl 0, e, z⟩
      · rintro ⟨j, hj, z⟩
        obtain rfl : j = 0 := by omega
        have z : s = a ∧ t ≤ θ := z
        exact z.2
    · rw [if_neg e]
      constructor
      · intro z
        omega
      · rintro ⟨j, hj, z⟩
        obtain rfl : j = 0 := by omega
        have z : s = a ∧ t ≤ θ := z
        exact absurd z.1 e
  · intro s hs
    rw [h s hs]
    by_cases e : s = a
    · rw [if_pos e]
      exact Or.inl ht
    · rw [if_neg e]
      exact Or.inr rfl
theorem tz_XE_k {k : Nat} {U E : Nat → Nat} (hw : ∀ j, w j ≤ 99) (h : tz_XU cs ct cc w tr a t k U) (hE : ∀ s, s < 8 → E s = tz_sp w U s 8) : tz_XE cs ct cc w tr a t k E := by
  constructor
  · exact tz_rep_c (tz_rep_i (tz_rep_sp h.1) (tz_WN cs ct cc w tr a t k)) hE
  · intro s hs
    rw [hE s hs]
    exact tz_sp_gd hw hs h.2 8 (Nat.le_refl 8)
theorem tz_XU_s {k : Nat} {U E : Nat → Nat} (hcs : ∀ j, cs j < 8) (hct : ∀ j, ct j ≤ 999) (h : tz_XU cs ct cc w tr a t k U) (hE : tz_XE cs ct cc w tr a t k E) : tz_XU cs ct cc w tr a t (k + 1) (tz_xr cs ct cc E U tr) := by
  constructor
  · exact tz_rep_i (tz_rep_xr hcs hct h.1 hE.1) (tz_PXs cs ct cc w tr a t k)
  · intro s hs
    exact tz_xr_gd hct (h.2 s hs) tr
theorem tz_XE_u {k : Nat} {E E' : Nat → Nat} (h : tz_XE cs ct cc w tr a t k E) (h' : tz_XE cs ct cc w tr a t k E') {s : Nat} (hs : s < 8) : E s = E' s := by
  have b := h.2 s hs
  have b' := h'.2 s hs
  have r : ∀ θ, θ < 100000 → (E s ≤ θ ↔ E' s ≤ θ) := fun θ hθ => (h.1 s hs θ hθ).trans (h'.1 s hs θ hθ).symm
  by_cases c : E s < 100000
  · have r1 := (r (E s) c).mp (Nat.le_refl _)
    have r2 := (r (E' s) (by omega)).mpr (Nat.le_refl _)
    omega
  · by_cases c' : E' s < 100000
    · have r2 := (r (E' s) c').mpr (Nat.le_refl _)
      omega
    · omega
end
section
variable (cs ct cc w : Nat → Nat) (tr a t : Nat)
def tz_UX : Nat → Nat → Nat
  | 0 => fun s => if s = a then t else 1000000
  | k + 1 => tz_xr cs ct cc (fun s => tz_sp w (tz_UX k) s 8) (tz_UX k) tr
def tz_EX (k s : Nat) : Nat := tz_sp w (tz_UX cs ct cc w tr a t k) s 8
theorem tz_UX_k (hcs : ∀ j, cs j < 8) (hct : ∀ j, ct j ≤ 999) (hw : ∀ j, w j ≤ 99) (ha : a < 8) (ht : t ≤ 999) (k : Nat) : tz_XU cs ct cc w tr a t k (tz_UX cs ct cc w tr a t k) := by
  induction k with
  | zero => exact tz_XU_0 ha ht (fun s _ => rfl)
  | succ k ih => exact tz_XU_s hcs hct ih (tz_XE_k hw ih (fun s _ => rfl))
theorem tz_EX_k (hcs : ∀ j, cs j < 8) (hct : ∀ j, ct j ≤ 999) (hw : ∀ j, w j ≤ 99) (ha : a < 8) (ht : t ≤ 999) (k : Nat) : tz_XE cs ct cc w tr a t k (tz_EX cs ct cc w tr a t k) :=
  tz_XE_k hw (tz_UX_k cs ct cc w tr a t hcs hct hw ha ht k) (fun s _ => rfl)
end
/-- the reference behind its rows 0 .. r-1 -/
def tz_YR (cs ct cc w : Nat → Nat) (tr a t r : Nat) (O T : Nat → Nat) : Prop :=
  (∀ k, k < r → tz_rep (fun s => T (k * 8 + s)) (tz_T cs ct cc w tr a t k) ∧ ∀ s, s < 8 → T (k * 8 + s) ≤ 100000) ∧ (∀ j, r * 8 ≤ j → j < 88 → O j = 100000) ∧ ∀ j, j < 88 → O j ≤ 100000
section
variable {cs ct cc w : Nat → Nat} {tr a t : Nat}
theorem tz_YR_1 {O T : Nat → Nat} (ha : a < 8) (ht : t ≤ 999) (hO : ∀ s, s < 88 → O s = if s = a then t else 100000) (hT : ∀ s, s < 8 → T s = tz_sp w O s 8) : tz_YR cs ct cc w tr a t 1 O T := by
  have r0 : tz_rep O (tz_O cs ct cc w tr a t 0) := by
    intro s hs θ hθ
    show O s ≤ θ ↔ (s = a ∧ t ≤ θ)
    rw [hO s (by omega)]
    by_cases e : s = a
    · rw [if_pos e]
      exact ⟨fun z => ⟨e, z⟩, fun z => z.2⟩
    · rw [if_neg e]
      exact ⟨fun z => absurd z (by omega), fun z => absurd z.1 e⟩
  refine ⟨fun k hk => ?_, fun j h1 h2 => ?_, fun j h2 => ?_⟩
  · obtain rfl : k = 0 := by omega
    refine ⟨tz_rep_c (tz_rep_sp r0) (fun s hs => ?_), fun s hs => ?_⟩
    · show T (0 * 8 + s) = _
      rw [Nat.zero_mul, Nat.zero_add, hT s hs]
    · rw [Nat.zero_mul, Nat.zero_add, hT s hs]
      refine tz_sp_ub ?_
      rw [hO s (by omega)]
      split <;> omega
  · rw [hO j h2, if_neg (by omega)]
  · rw [hO j h2]
    split <;> omega
theorem tz_YR_s {O T T' : Nat → Nat} {r : Nat} (hcs : ∀ j, cs j < 8) (hct : ∀ j, ct j ≤ 999) (hcc : ∀ j, cc j ≤ 5) (hr : 1 ≤ r) (hr' : r ≤ 10) (h : tz_YR cs ct cc w tr a t r O T)
    (hT : ∀ s, s < 8 → T' (r * 8 + s) = tz_sp w (fun q => tz_ym cs ct cc T r O (tr * 5) (r * 8 + q)) s 8) (hT' : ∀ j, j < r * 8 → T' j = T j) :
    tz_YR cs ct cc w tr a t (r + 1) (tz_ym cs ct cc T r O (tr * 5)) T' := by
  obtain ⟨h1, h2, h3⟩ := h
  have r0 : tz_rep (fun q => tz_ym cs ct cc T r O (tr * 5) (r * 8 + q)) (tz_O cs ct cc w tr a t r) := by
    obtain ⟨q, rfl⟩ : ∃ q, r = q + 1 := ⟨r - 1, by omega⟩
    refine tz_rep_ym (Q := tz_T cs ct cc w tr a t q) hcs hct hcc (fun s hs => h2 _ (by omega) (by omega)) ?_
    rw [Nat.add_sub_cancel]
    exact (h1 q (by omega)).1
  refine ⟨fun k hk => ?_, fun j hj hj' => ?_, fun j hj' => tz_ym_ub (h3 j hj')⟩
  · by_cases e : k = r
    · subst e
      refine ⟨tz_rep_c (tz_rep_sp r0) hT, fun s hs => ?_⟩
      rw [hT s hs]
      exact tz_sp_ub (tz_ym_ub (h3 _ (by omega)))
    · have hk' := h1 k (by omega)
      refine ⟨tz_rep_c hk'.1 (fun s hs => hT' _ (by omega)), fun s hs => ?_⟩
      rw [hT' _ (by omega)]
      exact hk'.2 s hs
  · rw [tz_ym_off hcs (by omega)]
    exact h2 j (by omega) hj'
end
/-- the least of rows 0 .. n-1 -/
def tz_b (T : Nat → Nat) (b : Nat) : Nat → Nat
  | 0 => 100000
  | n + 1 => if T (n * 8 + b) < tz_b T b n then T (n * 8 + b) else tz_b T b n
theorem tz_b_le (T : Nat → Nat) (b n θ : Nat) : tz_b T b n ≤ θ ↔ 100000 ≤ θ ∨ ∃ u, u < n ∧ True ∧ T (u * 8 + b) ≤ θ :=
  tz_fold (v := tz_b T b) (x := fun n => T (n * 8 + b)) (c := fun _ => True) θ (fun n _ h => if_pos h) (fun n h => if_neg (h trivial)) n
def tz_sim (x y : Nat) : Prop := (x < 100000 ∧ y = x) ∨ (x = 1000000 ∧ y = 100000)
section
variable {cs ct cc w : Nat → Nat} {tr a t : Nat}
theorem tz_sim_k {k b : Nat} {E O T : Nat → Nat} (hb : b < 8) (hk : k ≤ 10) (hE : tz_XE cs ct cc w tr a t k E) (hT : tz_YR cs ct cc w tr a t 11 O T) : tz_sim (E b) (tz_b T b (k + 1)) := by
  have ub : tz_b T b (k + 1) ≤ 100000 := (tz_b_le T b (k + 1) 100000).mpr (Or.inl (Nat.le_refl _))
  have gd := hE.2 b hb
  have r : ∀ θ, θ < 100000 → (E b ≤ θ ↔ tz_b T b (k + 1) ≤ θ) := by
    intro θ hθ
    rw [hE.1 b hb θ hθ, tz_b_le]
    constructor
    · rintro ⟨j, hj, z⟩
      exact Or.inr ⟨j, by omega, trivial, ((hT.1 j (by omega)).1 b hb θ hθ).mpr z⟩
    · rintro (z | ⟨j, hj, _, z⟩)
      · omega
      · exact ⟨j, by omega, ((hT.1 j (by omega)).1 b hb θ hθ).mp z⟩
  by_cases c : E b < 100000
  · have r1 := (r (E b) c).mp (Nat.le_refl _)
    have r2 := (r (tz_b T b (k + 1)) (by omega)).mpr (Nat.le_refl _)
    exact Or.inl ⟨c, by omega⟩
  · refine Or.inr ⟨by omega, ?_⟩
    by_cases c' : tz_b T b (k + 1) < 100000
    · have r2 := (r (tz_b T b (k + 1)) c').mpr (Nat.le_refl _)
      omega
    · omega
end
/-- counts of improvements -/
def tz_bx (e : Nat → Nat) : Nat → Nat
  | 0 => 1000000
  | k + 1 => if e k < tz_bx e k then e k else tz_bx e k
def tz_cx (e : Nat → Nat) : Nat → Nat
  | 0 => 0
  | k + 1 => if e k < tz_bx e k then tz_cx e k + 1 else tz_cx e k
def tz_cy (T : Nat → Nat) (b : Nat) : Nat → Nat
  | 0 => 0
  | k + 1 => if T (k * 8 + b) < tz_b T b k then tz_cy T b k + 1 else tz_cy T b k
theorem tz_cxy {e T : Nat → Nat} {b : Nat} (n : Nat) (h : ∀ k, k < n → tz_sim (e k) (tz_b T b (k + 1))) : tz_sim (tz_bx e n) (tz_b T b n) ∧ tz_cx e n = tz_cy T b n := by
  induction n with
  | zero => exact ⟨Or.inr ⟨rfl, rfl⟩, rfl⟩
  | succ n ih =>
    obtain ⟨i1, i2⟩ := ih (fun k hk => h k (by omega))
    have hn := h n (by omega)
    have e0 : tz_b T b (n + 1) = if T (n * 8 + b) < tz_b T b n then T (n * 8 + b) else tz_b T b n := rfl
    have e1 : tz_bx e (n + 1) = if e n < tz_bx e n then e n else tz_bx e n := rfl
    have e2 : tz_cx e (n + 1) = if e n < tz_bx e n then tz_cx e n + 1 else tz_cx e n := rfl
    have e3 : tz_cy T b (n + 1) = if T (n * 8 + b) < tz_b T b n then tz_cy T b n + 1 else tz_cy T b n := rfl
    unfold tz_sim at hn i1 ⊢
    by_cases c : T (n * 8 + b) < tz_b T b n
    · rw [if_pos c] at e0 e3
      have c' : e n < tz_bx e n := by omega
      rw [if_pos c'] at e1 e2
      omega
    · rw [if_neg c] at e0 e3
      have c' : ¬ e n < tz_bx e n := by omega
      rw [if_neg c'] at e1 e2
      omega
theorem tz_cx_le (e : Nat → Nat) (n : Nat) : tz_cx e n ≤ n := by
  induction n with
  | zero => exact Nat.le_refl 0
  | succ n ih =>
    show (if e n < tz_bx e n then tz_cx e n + 1 else tz_cx e n) ≤ n + 1
    split <;> omega
theorem tz_bx_ub (e : Nat → Nat) (n : Nat) : tz_bx e n ≤ 1000000 := by
  induction n with
  | zero => exact Nat.le_refl _
  | succ n ih =>
    show (if e n < tz_bx e n then e n else tz_bx e n) ≤ 1000000
    split <;> omega
def tz_set (f : Nat → Nat) (y : Nat) : Nat → Int32
  | 0 => 0
  | s + 1 => if f s ≤ y then tz_set f y s ||| (1 <<< (nI s &&& 31)) else tz_set f y s
