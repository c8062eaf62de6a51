/-! Small operations. -/
theorem RAll.of {s f : Nat} {σ σ' : SS} (h : RAll s f σ) (hR : gR σ' = gR σ)
    (h1 : RTape σ' ∨ ∀ c k, (c = 1 ∧ k = 1 ∨ c = 73 ∧ k = 1 ∨ c = 2 ∨ c = 74) → gI σ' c k = gI σ c k)
    (h2 : RScan s σ' ∨ ∀ c k, (c = s ∨ c = s + 1 ∨ c = 73 ∧ (k = 29 ∨ k = 30) ∨ c = 83) → gI σ' c k = gI σ c k)
    (h3 : (∀ i, i < 3 → RDrw i σ') ∨ ∀ c k, (c = 64 ∨ c = 65 ∨ c = 67 ∨ c = 68 ∨ c = 70 ∨ c = 71 ∨ c = 85 ∨ c = 86 ∨ c = 87) → gI σ' c k = gI σ c k)
    (h4 : RSet σ' ∨ ∀ c k, (c = 32 ∨ c = 88) → gI σ' c k = gI σ c k)
    (h5 : RCor σ' ∨ ∀ c k, (c = 28 ∨ c = 29 ∨ c = 89 ∨ c = 90) → gI σ' c k = gI σ c k)
    (h6 : RSeed σ' ∨ ∀ c k, (c = 1 ∧ k = 8 ∨ c = 73 ∧ k = 31) → gI σ' c k = gI σ c k)
    (h7 : RForm f σ' ∨ ∀ c k, ((f ≤ c ∧ c ≤ f + 7) ∨ c = 73 ∧ (k = 11 ∨ k = 12) ∨ (75 ≤ c ∧ c ≤ 81)) → gI σ' c k = gI σ c k)
    (h8 : RTold σ' ∨ ∀ c k, (c = 30 ∨ c = 82) → gI σ' c k = gI σ c k)
    (h9 : RPile f σ' ∨ ∀ c k, (c = f ∨ (58 ≤ c ∧ c ≤ 62) ∨ (109 ≤ c ∧ c ≤ 112) ∨ c = 73 ∧ k = 65) → gI σ' c k = gI σ c k) : RAll s f σ' := by
  obtain ⟨g1, g2, g3, g4, g5, g6, g7, g8, g9, g10⟩ := h
  refine ⟨g1.fr hR, ?_, ?_, ?_, ?_, ?_, ?_, ?_, ?_, ?_⟩
  · rcases h1 with h | h
    · exact h
    · exact g2.fr (h _ _ (by omega)) (h _ _ (by omega)) (funext fun k => h _ _ (by omega)) (funext fun k => h _ _ (by omega))
  · rcases h2 with h | h
    · exact h
    · exact g3.fr (h _ _ (by omega)) (h _ _ (by omega)) (h _ _ (by omega)) (h _ _ (by omega)) (funext fun k => h _ _ (by omega)) (funext fun k => h _ _ (by omega))
  · rcases h3 with h | h
    · exact h
    · exact fun i hi => (g4 i hi).fr (funext fun k => h _ _ (by omega)) (funext fun k => h _ _ (by omega)) (funext fun k => h _ _ (by omega)) (funext fun k => h _ _ (by omega)) (funext fun k => h _ _ (by omega))
  · rcases h4 with h | h
    · exact h
    · exact g5.fr (funext fun k => h _ _ (by omega)) (funext fun k => h _ _ (by omega))
  · rcases h5 with h | h
    · exact h
    · exact g6.fr (funext fun k => h _ _ (by omega)) (funext fun k => h _ _ (by omega)) (funext fun k => h _ _ (by omega)) (funext fun k => h _ _ (by omega))
  · rcases h6 with h | h
    · exact h
    · exact g7.fr (h _ _ (by omega)) (h _ _ (by omega))
  · rcases h7 with h | h
    · exact h
    · exact g8.fr (fun j hj => funext fun k => h _ _ (by omega)) (h _ _ (by omega)) (h _ _ (by omega)) (fun c h1 h2 => funext fun k => h _ _ (by omega))
  · rcases h8 with h | h
    · exact h
    · exact g9.fr (funext fun k => h _ _ (by omega)) (funext fun k => h _ _ (by omega))
  · rcases h9 with h | h
    · exact h
    · exact g10.fr (h _ _ (by omega)) (h _ _ (by omega)) (h _ _ (by omega)) (fun c h1 h2 => funext fun k => h _ _ (by omega)) (fun c h1 h2 => funext fun k => h _ _ (by omega))
theorem in_eq (σ : SS) (x a b : Int32) : (fX8_in σ x a b = true) = (a ≤ x ∧ x ≤ b) := by
  unfold fX8_in
  simp only [vthen_eq]
  by_cases h1 : x < a
  · rw [if_pos h1]; simp [Int32.not_le.mpr h1]
  · rw [if_neg h1]
    by_cases h2 : b < x
    · rw [if_pos h2]; simp [Int32.not_le.mpr h2]
    · rw [if_neg h2]; simp [Int32.not_lt.mp h1, Int32.not_lt.mp h2]
theorem op10 : ∀ a σ, Rel σ → st10 Rel a σ := by
  intro a σ ⟨s, f, h⟩
  obtain ⟨hs, hf, -⟩ := id h.1
  have h7 := h.2.2.2.2.2.2.1
  refine ⟨gI σ 1 8, _, sI (sI σ 1 8 (a 1 &&& 65535)) 73 31 (a 1 &&& 65535), rfl, ?_, s, f, ?_⟩
  · unfold fX8_seed
    simp only [vthen_eq]
    rw [gI_nk (by omega), ← h7.1]
  · refine h.of rfl ?h1 ?h2 ?h3 ?h4 ?h5 ?h6 ?h7 ?h8 ?h9
    case h6 =>
      refine Or.inl ⟨by rw [gI_nk (by omega), gI_eq, gI_eq], ?_⟩
      rw [gI_eq]
      obtain ⟨j, hj, e⟩ := pk_andE (a 1) (m := 65535) 16 rfl
      rw [e]; unfold inR; rw [nI_toInt (by omega)]; omega
    all_goals exact Or.inr fun c k hp => by rw [gI_nk (by omega), gI_nk (by omega)]
theorem lt_i (x y : Int32) : (x < y) = (x.toInt < y.toInt) := propext Int32.lt_iff_toInt_lt
theorem le_i (x y : Int32) : (x ≤ y) = (x.toInt ≤ y.toInt) := propext Int32.le_iff_toInt_le
theorem clamp_lt {x : Int32} {n : Nat} (h0 : 0 ≤ x.toInt) (h : x.toInt < n) : inb x n = true ∧ x.toNatClampNeg < n := by
  have e : x.toNatClampNeg = x.toInt.toNat := rfl
  refine ⟨decide_eq_true fun q => ?_, by omega⟩
  rcases q with q | q
  · rw [lt_i] at q; have : (0 : Int32).toInt = 0 := rfl; omega
  · omega
theorem op30 : ∀ a σ, Rel σ → st30 Rel a σ := by
  intro a σ ⟨s, f, h⟩
  obtain ⟨hs, hf, -⟩ := id h.1
  have h6 := h.2.2.2.2.2.1
  by_cases hc : (0 ≤ (a 1).toInt ∧ (a 1).toInt < 4) ∧ (0 ≤ (a 2).toInt ∧ (a 2).toInt < 40) ∧ (0 ≤ (a 3).toInt ∧ (a 3).toInt < 40)
  · obtain ⟨⟨c1, c2⟩, ⟨c3, c4⟩, c5, c6⟩ := hc
    obtain ⟨b1, b2⟩ := clamp_lt (n := 4) c1 (by omega)
    refine ⟨true, sI (sI σ 28 (a 1).toNatClampNeg (a 2)) 29 (a 1).toNatClampNeg (a 3), sI (sI (sI (sI σ 28 (a 1).toNatClampNeg (a 2)) 29 (a 1).toNatClampNeg (a 3)) 89 (a 1).toNatClampNeg (a 2)) 90 (a 1).toNatClampNeg (a 3), ?_, ?_, s, f, ?_⟩
    · unfold fX7_corner
      simp only [lt_i, le_i, Int32.reduceToInt]
      rw [if_neg (by omega), if_neg (by omega), if_neg (by omega), if_neg (by omega), if_neg (by omega), if_pos (by omega), grd_eq _ b1]
      rfl
    · unfold fX8_corner
      simp only [in_eq, lt_i, le_i, Int32.reduceToInt]
      rw [if_pos (by omega), if_pos (by omega), if_pos (by omega), grd_eq _ b1]
      rfl
    · refine h.of rfl ?h1 ?h2 ?h3 ?h4 ?h5 ?h6 ?h7 ?h8 ?h9
      case h5 =>
        refine Or.inl fun k hk => ?_
        obtain ⟨e1, e2, e3, e4⟩ := h6 k hk
        by_cases hk2 : k = (a 1).toNatClampNeg
        · subst hk2
          rw [gI_nk (by omega), gI_nk (by omega), gI_nk (by omega), gI_eq, gI_nk (c' := 89) (by omega), gI_eq, gI_nk (c' := 29) (by omega), gI_nk (c' := 29) (by omega), gI_eq, gI_eq]
          exact ⟨rfl, rfl, ⟨c3, by omega⟩, c5, by omega⟩
        · rw [gI_nk (by omega), gI_nk (by omega), gI_nk (by omega), gI_nk (by omega), gI_nk (c' := 89) (by omega), gI_nk (c' := 89) (by omega), gI_nk (c' := 89) (by omega), gI_nk (c' := 89) (by omega), gI_nk (c' := 29) (by omega), gI_nk (c' := 29) (by omega), gI_nk (c' := 29) (by omega), gI_nk (c' := 29) (by omega), gI_nk (c' := 90) (by omega), gI_nk (c' := 90) (by omega), gI_nk (c' := 90) (by omega), gI_nk (c' := 90) (by omega)]
          exact ⟨e1, e2, e3, e4⟩
      all_goals exact Or.inr fun c k hp => by rw [gI_nk (by omega), gI_nk (by omega), gI_nk (by omega), gI_nk (by omega)]
  · refine ⟨false, σ, σ, ?_, ?_, s, f, h⟩
    · unfold fX7_corner
      simp only [lt_i, le_i, Int32.reduceToInt]
      repeat' split
      all_goals first | omega | rfl
    · unfold fX8_corner
      simp only [in_eq, lt_i, le_i, Int32.reduceToInt]
      repeat' split
      all_goals first | omega | rfl
theorem set8 (σ' : SS) (x v : Int32) : fX8_set σ' x v = if 0 ≤ x.toInt ∧ x.toInt ≤ 6 then (if (roV 1001 x.toNatClampNeg).toInt ≤ v.toInt ∧ v.toInt ≤ (roV 1002 x.toNatClampNeg).toInt then some (gI σ' 88 x.toNatClampNeg, sI σ' 88 x.toNatClampNeg v) else some (-1, σ')) else some (-1, σ') := by
  unfold fX8_set
  simp only [in_eq, lt_i, le_i, Int32.reduceToInt, vthen_eq]
  by_cases hc : 0 ≤ x.toInt ∧ x.toInt ≤ 6
  · obtain ⟨n, hn, e⟩ := of_range (x := x) (N := 7) (by decide) (by rw [le_i]; exact hc.1) (by rw [lt_i]; exact Int.lt_of_le_of_lt hc.2 (by decide))
    rw [e]
    rcases (show n = 0 ∨ n = 1 ∨ n = 2 ∨ n = 3 ∨ n = 4 ∨ n = 5 ∨ n = 6 by omega) with rfl | rfl | rfl | rfl | rfl | rfl | rfl <;> (simp +decide [grd]; rfl)
  · rw [if_neg hc]
    repeat' split
    all_goals first | omega | rfl
theorem set7 (σ' : SS) (x v : Int32) : fX7_set σ' x v = if 0 ≤ x.toInt ∧ x.toInt ≤ 6 then (if (roV 1001 x.toNatClampNeg).toInt ≤ v.toInt ∧ v.toInt ≤ (roV 1002 x.toNatClampNeg).toInt then some (gI σ' 32 x.toNatClampNeg, sI σ' 32 x.toNatClampNeg v) else some (-1, σ')) else some (-1, σ') := by
  unfold fX7_set
  simp only [lt_i, le_i, Int32.reduceToInt, vthen_eq]
  by_cases hc : 0 ≤ x.toInt ∧ x.toInt ≤ 6
  · rw [if_neg (by omega), if_neg (by omega), grd_eq _ (clamp_lt hc.1 (by omega)).1, if_pos hc]
    repeat' split
    all_goals first | omega | rfl
  · rw [if_neg hc]
    repeat' split
    all_goals first | omega | rfl
theorem op4 : ∀ a σ, Rel σ → st4 Rel a σ := by
  intro a σ ⟨s, f, h⟩
  obtain ⟨hs, hf, -⟩ := id h.1
  have h5 := h.2.2.2.2.1
  unfold st4
  simp only [set7, set8]
  by_cases hc : 0 ≤ (a 1).toInt ∧ (a 1).toInt ≤ 6
  · have hk : (a 1).toNatClampNeg < 7 := (clamp_lt hc.1 (by omega)).2
    by_cases hv : (roV 1001 (a 1).toNatClampNeg).toInt ≤ (a 2).toInt ∧ (a 2).toInt ≤ (roV 1002 (a 1).toNatClampNeg).toInt
    · refine ⟨gI σ 32 (a 1).toNatClampNeg, sI σ 32 (a 1).toNatClampNeg (a 2), sI (sI σ 32 (a 1).toNatClampNeg (a 2)) 88 (a 1).toNatClampNeg (a 2), ?_, ?_, s, f, ?_⟩
      · rw [if_pos hc, if_pos hv]
      · rw [if_pos hc, if_pos hv, gI_nk (by omega), (h5 _ hk).1]
      · refine h.of rfl ?h1 ?h2 ?h3 ?h4 ?h5 ?h6 ?h7 ?h8 ?h9
        case h4 =>
          refine Or.inl fun k hk => ?_
          by_cases hk2 : k = (a 1).toNatClampNeg
          · subst hk2
            rw [gI_nk (by omega), gI_eq, gI_eq]
            exact ⟨rfl, hv⟩
          · rw [gI_nk (by omega), gI_nk (by omega), gI_nk (c' := 88) (by omega), gI_nk (c' := 88) (by omega)]
            exact h5 k hk
        all_goals exact Or.inr fun c k hp => by rw [gI_nk (by omega), gI_nk (by omega)]
    · exact ⟨-1, σ, σ, by rw [if_pos hc, if_neg hv], by rw [if_pos hc, if_neg hv], s, f, h⟩
  · exact ⟨-1, σ, σ, by rw [if_neg hc], by rw [if_neg hc], s, f, h⟩
