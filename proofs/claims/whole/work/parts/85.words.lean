/-! Form kept: the words that a form knows. -/
section WORDS
variable {T : Nat → Nat} {s L : Nat}
theorem ltr (h : ∀ j, j < L → kd (T (s + j)) = 1) (j : Nat) (hj : j < L) : 97 ≤ T (s + j) ∧ T (s + j) ≤ 122 := by
  have h1 := h j hj
  have h2 := kd_cases (T (s + j))
  omega
theorem w_size (h : ∀ j, j < L → kd (T (s + j)) = 1) : (L ≤ 7 ∧ wd T s L = 632645) ↔ (L = 4 ∧ T (s + 0) = 115 ∧ T (s + 1) = 105 ∧ T (s + 2) = 122 ∧ T (s + 3) = 101) := by
  have l0 := ltr h 0
  have l1 := ltr h 1
  have l2 := ltr h 2
  have l3 := ltr h 3
  have l4 := ltr h 4
  have l5 := ltr h 5
  have l6 := ltr h 6
  by_cases c : L ≤ 7
  · rcases (show L = 0 ∨ L = 1 ∨ L = 2 ∨ L = 3 ∨ L = 4 ∨ L = 5 ∨ L = 6 ∨ L = 7 by omega) with rfl | rfl | rfl | rfl | rfl | rfl | rfl | rfl <;> simp only [wd] <;> omega
  · omega
theorem w_box (h : ∀ j, j < L → kd (T (s + j)) = 1) : (L ≤ 7 ∧ wd T s L = 2552) ↔ (L = 3 ∧ T (s + 0) = 98 ∧ T (s + 1) = 111 ∧ T (s + 2) = 120) := by
  have l0 := ltr h 0
  have l1 := ltr h 1
  have l2 := ltr h 2
  have l3 := ltr h 3
  have l4 := ltr h 4
  have l5 := ltr h 5
  have l6 := ltr h 6
  by_cases c : L ≤ 7
  · rcases (show L = 0 ∨ L = 1 ∨ L = 2 ∨ L = 3 ∨ L = 4 ∨ L = 5 ∨ L = 6 ∨ L = 7 by omega) with rfl | rfl | rfl | rfl | rfl | rfl | rfl | rfl <;> simp only [wd] <;> omega
  · omega
theorem w_many (h : ∀ j, j < L → kd (T (s + j)) = 1) : (L ≤ 7 ∧ wd T s L = 427481) ↔ (L = 4 ∧ T (s + 0) = 109 ∧ T (s + 1) = 97 ∧ T (s + 2) = 110 ∧ T (s + 3) = 121) := by
  have l0 := ltr h 0
  have l1 := ltr h 1
  have l2 := ltr h 2
  have l3 := ltr h 3
  have l4 := ltr h 4
  have l5 := ltr h 5
  have l6 := ltr h 6
  by_cases c : L ≤ 7
  · rcases (show L = 0 ∨ L = 1 ∨ L = 2 ∨ L = 3 ∨ L = 4 ∨ L = 5 ∨ L = 6 ∨ L = 7 by omega) with rfl | rfl | rfl | rfl | rfl | rfl | rfl | rfl <;> simp only [wd] <;> omega
  · omega
theorem w_one (h : ∀ j, j < L → kd (T (s + j)) = 1) : (L ≤ 7 ∧ wd T s L = 15813) ↔ (L = 3 ∧ T (s + 0) = 111 ∧ T (s + 1) = 110 ∧ T (s + 2) = 101) := by
  have l0 := ltr h 0
  have l1 := ltr h 1
  have l2 := ltr h 2
  have l3 := ltr h 3
  have l4 := ltr h 4
  have l5 := ltr h 5
  have l6 := ltr h 6
  by_cases c : L ≤ 7
  · rcases (show L = 0 ∨ L = 1 ∨ L = 2 ∨ L = 3 ∨ L = 4 ∨ L = 5 ∨ L = 6 ∨ L = 7 by omega) with rfl | rfl | rfl | rfl | rfl | rfl | rfl | rfl <;> simp only [wd] <;> omega
  · omega
theorem w_key (h : ∀ j, j < L → kd (T (s + j)) = 1) : (L ≤ 7 ∧ wd T s L = 11449) ↔ (L = 3 ∧ T (s + 0) = 107 ∧ T (s + 1) = 101 ∧ T (s + 2) = 121) := by
  have l0 := ltr h 0
  have l1 := ltr h 1
  have l2 := ltr h 2
  have l3 := ltr h 3
  have l4 := ltr h 4
  have l5 := ltr h 5
  have l6 := ltr h 6
  by_cases c : L ≤ 7
  · rcases (show L = 0 ∨ L = 1 ∨ L = 2 ∨ L = 3 ∨ L = 4 ∨ L = 5 ∨ L = 6 ∨ L = 7 by omega) with rfl | rfl | rfl | rfl | rfl | rfl | rfl | rfl <;> simp only [wd] <;> omega
  · omega
theorem w_worth (h : ∀ j, j < L → kd (T (s + j)) = 1) : (L ≤ 7 ∧ wd T s L = 24627848) ↔ (L = 5 ∧ T (s + 0) = 119 ∧ T (s + 1) = 111 ∧ T (s + 2) = 114 ∧ T (s + 3) = 116 ∧ T (s + 4) = 104) := by
  have l0 := ltr h 0
  have l1 := ltr h 1
  have l2 := ltr h 2
  have l3 := ltr h 3
  have l4 := ltr h 4
  have l5 := ltr h 5
  have l6 := ltr h 6
  by_cases c : L ≤ 7
  · rcases (show L = 0 ∨ L = 1 ∨ L = 2 ∨ L = 3 ∨ L = 4 ∨ L = 5 ∨ L = 6 ∨ L = 7 by omega) with rfl | rfl | rfl | rfl | rfl | rfl | rfl | rfl <;> simp only [wd] <;> omega
  · omega
end WORDS
