/-! A sheet of the pile, asked. -/
theorem RPile.at {f : Nat} {σ : SS} (h : RPile f σ) {Q : Nat} (hQ : Q ≤ 12) (e5 : gI σ f 5 = nI Q) : ∃ S : Nat, S ≤ 16 ∧ gI σ 58 0 = nI S ∧ gI σ 73 65 = nI S ∧ ∀ t, t < S → gI σ 59 t = gI σ 109 t ∧ gI σ 60 t = gI σ 110 t ∧ gI σ 61 t = gI σ 111 t ∧ ∀ q, q < Q → gI σ 62 (12 * t + q) = gI σ 112 (12 * t + q) := by
  obtain ⟨S, h1, h2, h3, h4⟩ := h
  refine ⟨S, h1, h2, h3, fun t ht => ?_⟩
  obtain ⟨a, b, c, d⟩ := h4 t ht
  exact ⟨a, b, c, fun q hq => d q (by rw [e5]; exact nI_lt hq (by omega)) (by omega)⟩
theorem hasS_eq {σ : SS} {S : Nat} (hS : S ≤ 16) (e : gI σ 58 0 = nI S) (x : Int32) : (fX4_hasSheet σ x = true) = (0 ≤ x.toInt ∧ x.toInt < S) := by
  unfold fX4_hasSheet
  rw [e]
  simp only [vthen_eq, lt_i, le_i, nI_toInt (show S < 2 ^ 31 by omega), Int32.reduceToInt]
  by_cases c1 : x.toInt < 0
  · rw [if_pos c1]; simp; omega
  rw [if_neg c1]
  by_cases c2 : (S : Int) ≤ x.toInt
  · rw [if_pos c2]; simp; omega
  rw [if_neg c2]; simp; omega
theorem rank7 {σ : SS} {S t : Nat} (hS : S ≤ 16) (ht : t < S) (e : gI σ 58 0 = nI S) : fX4_rankOf σ (nI t) = some (itr (fun i n => if gI σ 59 i ≤ gI σ 59 t then n else n + 1) 1 S) := by
  unfold fX4_rankOf X4_rankOf_L4
  refine lp_2 (fun i => itr (fun i n => if gI σ 59 i ≤ gI σ 59 t then n else n + 1) 1 i) (fun i => nI i) S _ (fun i hi rec => ?_) (fun rec => ?_) fuel (fuel_gt (by omega))
  · rw [e, if_neg (nI_ge hi (by omega)), grd_eq _ (inb_nI (by omega) (by decide)), grd_eq _ (inb_nI (by omega) (by decide)), nI_clamp (by omega), nI_clamp (by omega), nI_1]
    show _ = rec (if gI σ 59 i ≤ gI σ 59 t then _ else _) _
    by_cases c : gI σ 59 i ≤ gI σ 59 t
    · rw [if_pos c, if_pos c]
    · rw [if_neg c, if_neg c]
  · rw [e, if_pos (nI_le (Nat.le_refl _) (by omega))]
theorem rank8 {σ : SS} {S t : Nat} (hS : S ≤ 16) (ht : t < S) (e : gI σ 73 65 = nI S) : X8_laid_L106 σ (nI t) fuel (1 : Int32) (nI 0) = some (itr (fun i n => if gI σ 109 i ≤ gI σ 109 t then n + 0 else n + 1) 1 S) := by
  unfold X8_laid_L106
  refine lp_2 (fun i => itr (fun i n => if gI σ 109 i ≤ gI σ 109 t then n + 0 else n + 1) 1 i) (fun i => nI i) S _ (fun i hi rec => ?_) (fun rec => ?_) fuel (fuel_gt (by omega))
  · rw [e, if_neg (nI_ge hi (by omega)), grd_eq _ (inb_nI (by omega) (by decide)), grd_eq _ (inb_nI (by omega) (by decide)), nI_clamp (by omega), nI_clamp (by omega), nI_1]
    show _ = rec (if gI σ 109 i ≤ gI σ 109 t then _ else _) _
    by_cases c : gI σ 109 i ≤ gI σ 109 t
    · rw [if_pos c, if_pos c]
      rfl
    · rw [if_neg c, if_neg c]
      rfl
  · rw [e, if_pos (nI_le (Nat.le_refl _) (by omega))]
