/-! Form kept: the words that a form knows. -/
section WORDS
variable {T : Nat → Nat} {s L : Nat}
theorem ltr (h : ∀ j, j < L → kd (T (s + j)) = 1) (j : Nat) (hj : j < L) : 97 ≤ T (s + j) ∧ T (s + j) ≤ 122 := by
  have h1 := h j hj
  have h2 := kd_cases (T (s + j))
  omega
theorem wd_nz {W : Nat} (h : ∀ j, j < L → kd (T (s + j)) = 1) (hw : wd T s L = W) (hW : W ≠ 0) : ∃ k, L = k + 1 ∧ (∀ j, j < k → kd (T (s + j)) = 1) ∧ wd T s k = W / 32 ∧ T (s + k) = W % 32 + 96 := by
  cases L with
  | zero => exact absurd hw.symm hW
  | succ k =>
    have hk := ltr h k (by omega)
    have e : wd T s (k + 1) = 32 * wd T s k + (T (s + k) - 96) := rfl
    exact ⟨k, rfl, fun j hj => h j (by omega), by omega, by omega⟩
theorem wd_z (h : ∀ j, j < L → kd (T (s + j)) = 1) (hw : wd T s L = 0) : L = 0 := by
  cases L with
  | zero => rfl
  | succ k =>
    have hk := ltr h k (by omega)
    have e : wd T s (k + 1) = 32 * wd T s k + (T (s + k) - 96) := rfl
    omega
theorem w_size (h : ∀ j, j < L → kd (T (s + j)) = 1) : (L ≤ 7 ∧ wd T s L = 632645) ↔ (L = 4 ∧ T (s + 0) = 115 ∧ T (s + 1) = 105 ∧ T (s + 2) = 122 ∧ T (s + 3) = 101) := by
  constructor
  · rintro ⟨hL, hw4⟩
    obtain ⟨k3, rfl, h3, hw3, c3⟩ := wd_nz h hw4 (by decide)
    obtain ⟨k2, rfl, h2, hw2, c2⟩ := wd_nz h3 hw3 (by decide)
    obtain ⟨k1, rfl, h1, hw1, c1⟩ := wd_nz h2 hw2 (by decide)
    obtain ⟨k0, rfl, h0, hw0, c0⟩ := wd_nz h1 hw1 (by decide)
    have e := wd_z h0 hw0
    subst e
    exact ⟨rfl, c0, c1, c2, c3⟩
  · rintro ⟨rfl, c0, c1, c2, c3⟩
    refine ⟨by omega, ?_⟩
    show (32 * (32 * (32 * (32 * 0 + (T (s + 0) - 96)) + (T (s + 1) - 96)) + (T (s + 2) - 96)) + (T (s + 3) - 96)) = 632645
    rw [c0, c1, c2, c3]
theorem w_box (h : ∀ j, j < L → kd (T (s + j)) = 1) : (L ≤ 7 ∧ wd T s L = 2552) ↔ (L = 3 ∧ T (s + 0) = 98 ∧ T (s + 1) = 111 ∧ T (s + 2) = 120) := by
  constructor
  · rintro ⟨hL, hw3⟩
    obtain ⟨k2, rfl, h2, hw2, c2⟩ := wd_nz h hw3 (by decide)
    obtain ⟨k1, rfl, h1, hw1, c1⟩ := wd_nz h2 hw2 (by decide)
    obtain ⟨k0, rfl, h0, hw0, c0⟩ := wd_nz h1 hw1 (by decide)
    have e := wd_z h0 hw0
    subst e
    exact ⟨rfl, c0, c1, c2⟩
  · rintro ⟨rfl, c0, c1, c2⟩
    refine ⟨by omega, ?_⟩
    show (32 * (32 * (32 * 0 + (T (s + 0) - 96)) + (T (s + 1) - 96)) + (T (s + 2) - 96)) = 2552
    rw [c0, c1, c2]
theorem w_many (h : ∀ j, j < L → kd (T (s + j)) = 1) : (L ≤ 7 ∧ wd T s L = 427481) ↔ (L = 4 ∧ T (s + 0) = 109 ∧ T (s + 1) = 97 ∧ T (s + 2) = 110 ∧ T (s + 3) = 121) := by
  constructor
  · rintro ⟨hL, hw4⟩
    obtain ⟨k3, rfl, h3, hw3, c3⟩ := wd_nz h hw4 (by decide)
    obtain ⟨k2, rfl, h2, hw2, c2⟩ := wd_nz h3 hw3 (by decide)
    obtain ⟨k1, rfl, h1, hw1, c1⟩ := wd_nz h2 hw2 (by decide)
    obtain ⟨k0, rfl, h0, hw0, c0⟩ := wd_nz h1 hw1 (by decide)
    have e := wd_z h0 hw0
    subst e
    exact ⟨rfl, c0, c1, c2, c3⟩
  · rintro ⟨rfl, c0, c1, c2, c3⟩
    refine ⟨by omega, ?_⟩
    show (32 * (32 * (32 * (32 * 0 + (T (s + 0) - 96)) + (T (s + 1) - 96)) + (T (s + 2) - 96)) + (T (s + 3) - 96)) = 427481
    rw [c0, c1, c2, c3]
theorem w_one (h : ∀ j, j < L → kd (T (s + j)) = 1) : (L ≤ 7 ∧ wd T s L = 15813) ↔ (L = 3 ∧ T (s + 0) = 111 ∧ T (s + 1) = 110 ∧ T (s + 2) = 101) := by
  constructor
  · rintro ⟨hL, hw3⟩
    obtain ⟨k2, rfl, h2, hw2, c2⟩ := wd_nz h hw3 (by decide)
    obtain ⟨k1, rfl, h1, hw1, c1⟩ := wd_nz h2 hw2 (by decide)
    obtain ⟨k0, rfl, h0, hw0, c0⟩ := wd_nz h1 hw1 (by decide)
    have e := wd_z h0 hw0
    subst e
    exact ⟨rfl, c0, c1, c2⟩
  · rintro ⟨rfl, c0, c1, c2⟩
    refine ⟨by omega, ?_⟩
    show (32 * (32 * (32 * 0 + (T (s + 0) - 96)) + (T (s + 1) - 96)) + (T (s + 2) - 96)) = 15813
    rw [c0, c1, c2]
theorem w_key (h : ∀ j, j < L → kd (T (s + j)) = 1) : (L ≤ 7 ∧ wd T s L = 11449) ↔ (L = 3 ∧ T (s + 0) = 107 ∧ T (s + 1) = 101 ∧ T (s + 2) = 121) := by
  constructor
  · rintro ⟨hL, hw3⟩
    obtain ⟨k2, rfl, h2, hw2, c2⟩ := wd_nz h hw3 (by decide)
    obtain ⟨k1, rfl, h1, hw1, c1⟩ := wd_nz h2 hw2 (by decide)
    obtain ⟨k0, rfl, h0, hw0, c0⟩ := wd_nz h1 hw1 (by decide)
    have e := wd_z h0 hw0
    subst e
    exact ⟨rfl, c0, c1, c2⟩
  · rintro ⟨rfl, c0, c1, c2⟩
    refine ⟨by omega, ?_⟩
    show (32 * (32 * (32 * 0 + (T (s + 0) - 96)) + (T (s + 1) - 96)) + (T (s + 2) - 96)) = 11449
    rw [c0, c1, c2]
theorem w_worth (h : ∀ j, j < L → kd (T (s + j)) = 1) : (L ≤ 7 ∧ wd T s L = 24627848) ↔ (L = 5 ∧ T (s + 0) = 119 ∧ T (s + 1) = 111 ∧ T (s + 2) = 114 ∧ T (s + 3) = 116 ∧ T (s + 4) = 104) := by
  constructor
  · rintro ⟨hL, hw5⟩
    obtain ⟨k4, rfl, h4, hw4, c4⟩ := wd_nz h hw5 (by decide)
    obtain ⟨k3, rfl, h3, hw3, c3⟩ := wd_nz h4 hw4 (by decide)
    obtain ⟨k2, rfl, h2, hw2, c2⟩ := wd_nz h3 hw3 (by decide)
    obtain ⟨k1, rfl, h1, hw1, c1⟩ := wd_nz h2 hw2 (by decide)
    obtain ⟨k0, rfl, h0, hw0, c0⟩ := wd_nz h1 hw1 (by decide)
    have e := wd_z h0 hw0
    subst e
    exact ⟨rfl, c0, c1, c2, c3, c4⟩
  · rintro ⟨rfl, c0, c1, c2, c3, c4⟩
    refine ⟨by omega, ?_⟩
    show (32 * (32 * (32 * (32 * (32 * 0 + (T (s + 0) - 96)) + (T (s + 1) - 96)) + (T (s + 2) - 96)) + (T (s + 3) - 96)) + (T (s + 4) - 96)) = 24627848
    rw [c0, c1, c2, c3, c4]
end WORDS
