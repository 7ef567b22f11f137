/-! the tables: what both sides keep alike -/
def tz_in (x : Int32) (n : Nat) : Prop := ∃ s, s < n ∧ x = nI s
theorem tz_in_f {x : Int32} {n : Nat} (hn : n < 2 ^ 31) (h : ¬ tz_in x n) (h0 : ¬ x < 0) : ¬ x < nI n := by
  intro z
  obtain ⟨j, hj, rfl⟩ := nI_of h0
  exact h ⟨j, (nI_ltI hj hn).mp z, rfl⟩
theorem tz_in_0 {x : Int32} {n : Nat} (hn : n < 2 ^ 31) (h : tz_in x n) : ¬ x < 0 := by
  obtain ⟨s, hs, rfl⟩ := h
  exact nI_pos (by omega)
theorem tz_in_l {x : Int32} {n : Nat} (hn : n < 2 ^ 31) (h : tz_in x n) : x < nI n := by
  obtain ⟨s, hs, rfl⟩ := h
  exact nI_lt hs hn
theorem tz_in_m {x : Int32} {n : Nat} (hn : n < 2 ^ 31) (h0 : ¬ x < 0) (h1 : x < nI n) : tz_in x n := by
  obtain ⟨j, hj, rfl⟩ := nI_of h0
  exact ⟨j, (nI_ltI hj hn).mp h1, rfl⟩
/-- calls at 10 trips, stops, times, walks; the times of a trip never fall -/
def tz_I (tr : Nat) (cc cs ct w : Nat → Nat) : Prop :=
  tr ≤ 10 ∧ (∀ j, cc j ≤ 5) ∧ (∀ j, cs j < 8) ∧ (∀ j, ct j ≤ 999) ∧ (∀ j, w j ≤ 99) ∧ (∀ i, i < tr → 1 ≤ cc i) ∧ ∀ i k, i < tr → k + 1 < cc i → ct (i * 5 + k) ≤ ct (i * 5 + (k + 1))
theorem tz_mono {tr : Nat} {cc cs ct w : Nat → Nat} (h : tz_I tr cc cs ct w) {i k c : Nat} (hi : i < tr) (hk : k ≤ c) (hc : c < cc i) : ct (i * 5 + k) ≤ ct (i * 5 + c) := by
  obtain ⟨d, rfl⟩ : ∃ d, c = k + d := ⟨c - k, by omega⟩
  induction d with
  | zero => exact Nat.le_refl _
  | succ d ih =>
    have h1 := ih (by omega) (by omega)
    have h2 := h.2.2.2.2.2.2 i (k + d) hi (by omega)
    exact Nat.le_trans h1 h2
theorem tz_I_0 : tz_I 0 (fun _ => 0) (fun _ => 0) (fun _ => 0) (fun _ => 0) :=
  ⟨Nat.zero_le _, fun _ => Nat.zero_le _, fun _ => (by decide : 0 < 8), fun _ => Nat.zero_le _, fun _ => Nat.zero_le _, fun i hi => absurd hi (Nat.not_lt_zero i), fun i k hi => absurd hi (Nat.not_lt_zero i)⟩
/-- a new trip -/
theorem tz_I_trip {tr s t : Nat} {cc cs ct w : Nat → Nat} (h : tz_I tr cc cs ct w) (htr : tr < 10) (hs : s < 8) (ht : t ≤ 999) :
    tz_I (tr + 1) (tz_u cc tr 1) (tz_u cs (tr * 5) s) (tz_u ct (tr * 5) t) w := by
  obtain ⟨h1, h2, h3, h4, h5, h6, h7⟩ := h
  refine ⟨by omega, fun j => ?_, fun j => ?_, fun j => ?_, h5, fun i hi => ?_, fun i k hi hk => ?_⟩
  · unfold tz_u
    split
    · omega
    · exact h2 j
  · unfold tz_u
    split
    · exact hs
    · exact h3 j
  · unfold tz_u
    split
    · exact ht
    · exact h4 j
  · unfold tz_u
    split
    · omega
    · exact h6 i (by omega)
  · by_cases e : i = tr
    · subst e
      rw [tz_us] at hk
      omega
    · rw [tz_un _ _ _ _ e] at hk
      have h8 := h2 i
      rw [tz_un ct (tr * 5) t (i * 5 + k) (by omega), tz_un ct (tr * 5) t (i * 5 + (k + 1)) (by omega)]
      exact h7 i k (by omega) hk
/-- one more call of the latest trip -/
theorem tz_I_call {i s t : Nat} {cc cs ct w : Nat → Nat} (h : tz_I (i + 1) cc cs ct w) (hc : cc i < 5) (hs : s < 8) (ht : t ≤ 999) (hl : ct (i * 5 + (cc i - 1)) ≤ t) :
    tz_I (i + 1) (tz_u cc i (cc i + 1)) (tz_u cs (i * 5 + cc i) s) (tz_u ct (i * 5 + cc i) t) w := by
  obtain ⟨h1, h2, h3, h4, h5, h6, h7⟩ := h
  refine ⟨by omega, fun j => ?_, fun j => ?_, fun j => ?_, h5, fun j hj => ?_, fun j k hj hk => ?_⟩
  · unfold tz_u
    split
    · omega
    · exact h2 j
  · unfold tz_u
    split
    · exact hs
    · exact h3 j
  · unfold tz_u
    split
    · exact ht
    · exact h4 j
  · unfold tz_u
    split
    · omega
    · exact h6 j hj
  · by_cases e : j = i
    · subst e
      rw [tz_us] at hk
      rw [tz_un ct (j * 5 + cc j) t (j * 5 + k) (by omega)]
      by_cases e2 : k + 1 = cc j
      · rw [e2, tz_us]
        have e3 : k = cc j - 1 := by omega
        rw [e3]
        exact hl
      · rw [tz_un ct (j * 5 + cc j) t (j * 5 + (k + 1)) (by omega)]
        exact h7 j k hj (by omega)
    · rw [tz_un _ _ _ _ e] at hk
      have h8 := h2 j
      rw [tz_un ct (i * 5 + cc i) t (j * 5 + k) (by omega), tz_un ct (i * 5 + cc i) t (j * 5 + (k + 1)) (by omega)]
      exact h7 j k hj hk
/-- the cells lo .. hi-1 take what lies p further on -/
def tz_sh (f : Nat → Nat) (p lo hi : Nat) : Nat → Nat := fun j => if lo ≤ j ∧ j < hi then f (j + p) else f j
theorem tz_sh_0 (f : Nat → Nat) (p lo : Nat) : tz_sh f p lo lo = f := by
  funext j
  exact if_neg (by omega)
theorem tz_sh_r (f : Nat → Nat) {p lo hi : Nat} (hp : 0 < p) : tz_sh f p lo hi (hi + p) = f (hi + p) := if_neg (by omega)
theorem tz_sh_s (f : Nat → Nat) {p lo hi : Nat} (h : lo ≤ hi) : tz_u (tz_sh f p lo hi) hi (f (hi + p)) = tz_sh f p lo (hi + 1) := by
  funext j
  by_cases e : j = hi
  · subst e
    rw [tz_us]
    exact (if_pos (by omega)).symm
  · rw [tz_un _ _ _ _ e]
    unfold tz_sh
    by_cases c : lo ≤ j ∧ j < hi
    · rw [if_pos c, if_pos (by omega)]
    · rw [if_neg c, if_neg (by omega)]
theorem tz_sh_b {f : Nat → Nat} {p lo hi B : Nat} (h : ∀ j, f j ≤ B) (j : Nat) : tz_sh f p lo hi j ≤ B := by
  unfold tz_sh
  split
  · exact h _
  · exact h _
theorem tz_I_cancel {i n : Nat} {cc cs ct w : Nat → Nat} (h : tz_I (n + 1) cc cs ct w) (hi : i ≤ n) :
    tz_I n (tz_sh cc 1 i n) (tz_sh cs 5 (i * 5) (n * 5)) (tz_sh ct 5 (i * 5) (n * 5)) w := by
  obtain ⟨h1, h2, h3, h4, h5, h6, h7⟩ := h
  refine ⟨by omega, tz_sh_b h2, fun j => ?_, tz_sh_b h4, h5, fun j hj => ?_, fun j k hj hk => ?_⟩
  · have := tz_sh_b (f := cs) (B := 7) (p := 5) (lo := i * 5) (hi := n * 5) (fun j => by have := h3 j; omega) j
    omega
  · unfold tz_sh
    split
    · exact h6 _ (by omega)
    · exact h6 _ (by omega)
  · have b1 := h2 j
    have b2 := h2 (j + 1)
    unfold tz_sh at hk ⊢
    by_cases c : i ≤ j ∧ j < n
    · rw [if_pos c] at hk
      rw [if_pos (by omega), if_pos (by omega)]
      have h8 := h7 (j + 1) k (by omega) hk
      have e1 : (j + 1) * 5 + k = j * 5 + k + 5 := by omega
      have e2 : (j + 1) * 5 + (k + 1) = j * 5 + (k + 1) + 5 := by omega
      rw [e1, e2] at h8
      exact h8
    · rw [if_neg c] at hk
      rw [if_neg (by omega), if_neg (by omega)]
      exact h7 j k (by omega) hk
/-- cells lo .. hi-1 by d more -/
def tz_dl (f : Nat → Nat) (d lo hi : Nat) : Nat → Nat := fun j => if lo ≤ j ∧ j < hi then f j + d else f j
theorem tz_dl_0 (f : Nat → Nat) (d lo : Nat) : tz_dl f d lo lo = f := by
  funext j
  exact if_neg (by omega)
theorem tz_dl_r (f : Nat → Nat) {d lo hi : Nat} : tz_dl f d lo hi hi = f hi := if_neg (by omega)
theorem tz_dl_s (f : Nat → Nat) {d lo hi : Nat} (h : lo ≤ hi) : tz_u (tz_dl f d lo hi) hi (f hi + d) = tz_dl f d lo (hi + 1) := by
  funext j
  by_cases e : j = hi
  · subst e
    rw [tz_us]
    exact (if_pos (by omega)).symm
  · rw [tz_un _ _ _ _ e]
    unfold tz_dl
    by_cases c : lo ≤ j ∧ j < hi
    · rw [if_pos c, if_pos (by omega)]
    · rw [if_neg c, if_neg (by omega)]
theorem tz_I_delay {tr i k d : Nat} {cc cs ct w : Nat → Nat} (h : tz_I tr cc cs ct w) (hi : i < tr) (hl : ∀ c, k ≤ c → c < cc i → ct (i * 5 + c) + d ≤ 999) :
    tz_I tr cc cs (tz_dl ct d (i * 5 + k) (i * 5 + cc i)) w := by
  obtain ⟨h1, h2, h3, h4, h5, h6, h7⟩ := h
  refine ⟨h1, h2, h3, fun j => ?_, h5, h6, fun j c hj hc => ?_⟩
  · unfold tz_dl
    by_cases c : i * 5 + k ≤ j ∧ j < i * 5 + cc i
    · rw [if_pos c]
      have h8 := hl (j - i * 5) (by omega) (by omega)
      have e : i * 5 + (j - i * 5) = j := by omega
      rw [e] at h8
      exact h8
    · rw [if_neg c]
      exact h4 j
  · have h8 := h7 j c hj hc
    have b1 := h2 j
    have b2 := h2 i
    unfold tz_dl
    by_cases e : j = i
    · subst e
      by_cases c1 : k ≤ c
      · rw [if_pos (by omega), if_pos (by omega)]
        omega
      · rw [if_neg (by omega)]
        split <;> omega
    · rw [if_neg (by omega), if_neg (by omega)]
      exact h8
theorem tz_I_walk {tr p q d : Nat} {cc cs ct w : Nat → Nat} (h : tz_I tr cc cs ct w) (hd : d ≤ 99) : tz_I tr cc cs ct (tz_u (tz_u w p d) q d) := by
  obtain ⟨h1, h2, h3, h4, h5, h6, h7⟩ := h
  refine ⟨h1, h2, h3, h4, fun j => ?_, h6, h7⟩
  unfold tz_u
  split
  · exact hd
  · split
    · exact hd
    · exact h5 j
