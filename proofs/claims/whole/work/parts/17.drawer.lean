/-! Drawers: keep and back. -/
theorem takeAll_eq {σ : SS} {t s : Nat} (h : s ≠ t ∧ s ≠ t + 1 ∧ s + 1 ≠ t) : fX6_takeAll σ t s = some (sA (sI (sI σ t 0 (gI σ s 0)) t 1 (gI σ s 1)) (t + 1) (fun k => if k < 1600 then gI σ (s + 1) k else gI σ (t + 1) k)) := by
  unfold fX6_takeAll
  simp only [vthen_eq]
  rw [grd_eq _ (by decide +kernel), gI_ne (c' := s) (by omega)]
  unfold cpA
  rw [gI_ne (c' := s + 1) (by omega), gI_ne (c' := s + 1) (by omega), gI_ne (c' := t + 1) (by omega), gI_ne (c' := t + 1) (by omega)]
  congr 2
  funext k
  show (if 0 ≤ k ∧ k < 0 + 1600 then gI σ (s + 1) (0 + (k - 0)) else gI σ (t + 1) k) = _
  by_cases hk : k < 1600
  · rw [if_pos (by omega), if_pos hk]; congr 1; omega
  · rw [if_neg (by omega), if_neg hk]
theorem keeps_l {σ : SS} {i : Nat} (hi : i < 3) : X8_keeps_L22 (nI i) fuel (nI 0) σ = some (sA σ 85 (fun j => if 1600 * i ≤ j ∧ j < 1600 * i + 1600 then gI σ 83 (j - 1600 * i) else gI σ 85 j)) := by
  have e0 : sA σ 85 (fun j => if 1600 * i ≤ j ∧ j < 1600 * i + 0 then gI σ 83 (j - 1600 * i) else gI σ 85 j) = σ := by
    rw [show (fun j => if 1600 * i ≤ j ∧ j < 1600 * i + 0 then gI σ 83 (j - 1600 * i) else gI σ 85 j) = gI σ 85 from funext fun j => if_neg (by omega), sA_self]
  suffices hh : X8_keeps_L22 (nI i) fuel (nI 0) (sA σ 85 (fun j => if 1600 * i ≤ j ∧ j < 1600 * i + 0 then gI σ 83 (j - 1600 * i) else gI σ 85 j)) = some (sA σ 85 (fun j => if 1600 * i ≤ j ∧ j < 1600 * i + 1600 then gI σ 83 (j - 1600 * i) else gI σ 85 j)) by
    rw [e0] at hh; exact hh
  unfold X8_keeps_L22
  refine lp_2 (fun k => nI k) (fun k => sA σ 85 (fun j => if 1600 * i ≤ j ∧ j < 1600 * i + k then gI σ 83 (j - 1600 * i) else gI σ 85 j)) 1600 _ (fun k hk rec => ?_) (fun rec => ?_) fuel (fuel_gt (by decide))
  · have e : (1600 : Int32) * nI i + nI k = nI (1600 * i + k) := by rw [show (1600 : Int32) = nI 1600 from rfl, nI_mul, nI_add]
    rw [if_neg (by show ¬ nI 1600 ≤ nI k; exact nI_ge hk (by decide)), grd_eq _ (inb_nI (by omega) (by omega)), e, grd_eq _ (inb_nI (by omega) (by omega)), vthen_eq, nI_clamp (by omega), nI_clamp (by omega), gI_A_ne (by omega), sI_A, nI_1]
    congr 2
    funext j
    show (if j = 1600 * i + k then _ else _) = _
    by_cases h1 : j = 1600 * i + k
    · subst h1
      rw [if_pos rfl, if_pos (by omega)]; congr 1; omega
    · rw [if_neg h1]
      by_cases h2 : 1600 * i ≤ j ∧ j < 1600 * i + k
      · exact (if_pos h2).trans (if_pos (by omega)).symm
      · exact (if_neg h2).trans (if_neg (by omega)).symm
  · rw [if_pos (by show nI 1600 ≤ nI 1600; exact nI_le (Nat.le_refl _) (by decide))]
theorem back_l {σ : SS} {i : Nat} (hi : i < 3) : X8_back_L42 (nI i) fuel (nI 0) σ = some (true, sA σ 83 (fun j => if j < 1600 then gI σ 85 (1600 * i + j) else gI σ 83 j)) := by
  have e0 : sA σ 83 (fun j => if j < 0 then gI σ 85 (1600 * i + j) else gI σ 83 j) = σ := by
    rw [show (fun j => if j < 0 then gI σ 85 (1600 * i + j) else gI σ 83 j) = gI σ 83 from funext fun j => if_neg (by omega), sA_self]
  suffices hh : X8_back_L42 (nI i) fuel (nI 0) (sA σ 83 (fun j => if j < 0 then gI σ 85 (1600 * i + j) else gI σ 83 j)) = some (true, sA σ 83 (fun j => if j < 1600 then gI σ 85 (1600 * i + j) else gI σ 83 j)) by
    rw [e0] at hh; exact hh
  unfold X8_back_L42
  refine lp_2 (fun k => nI k) (fun k => sA σ 83 (fun j => if j < k then gI σ 85 (1600 * i + j) else gI σ 83 j)) 1600 _ (fun k hk rec => ?_) (fun rec => ?_) fuel (fuel_gt (by decide))
  · have e : (1600 : Int32) * nI i + nI k = nI (1600 * i + k) := by rw [show (1600 : Int32) = nI 1600 from rfl, nI_mul, nI_add]
    rw [if_neg (by show ¬ nI 1600 ≤ nI k; exact nI_ge hk (by decide)), e, grd_eq _ (inb_nI (by omega) (by omega)), grd_eq _ (inb_nI (by omega) (by omega)), vthen_eq, nI_clamp (by omega), nI_clamp (by omega), gI_A_ne (by omega), sI_A, nI_1]
    congr 2
    funext j
    show (if j = k then _ else _) = _
    by_cases h1 : j = k
    · subst h1
      rw [if_pos rfl, if_pos (by omega)]
    · rw [if_neg h1]
      by_cases h2 : j < k
      · exact (if_pos h2).trans (if_pos (by omega)).symm
      · exact (if_neg h2).trans (if_neg (by omega)).symm
  · rw [if_pos (by show nI 1600 ≤ nI 1600; exact nI_le (Nat.le_refl _) (by decide))]
theorem drw_id {s f : Nat} {σ : SS} (h : RRef s f σ) {i : Nat} (hi : i < 3) : gR σ 9 i = 64 + 3 * i := by
  obtain ⟨-, -, -, -, -, -, a, b, c⟩ := h
  rcases (show i = 0 ∨ i = 1 ∨ i = 2 by omega) with rfl | rfl | rfl
  · exact a
  · exact b
  · exact c
theorem op17 : ∀ a σ, Rel σ → st17 Rel a σ := by
  intro a σ ⟨s, f, h⟩
  obtain ⟨hs, hf, hR1, -⟩ := id h.1
  obtain ⟨w, q, hw, hq, e1, e2, e3, e4, hd⟩ := h.2.2.1
  have h4 := h.2.2.2.1
  by_cases hc : 0 ≤ (a 1).toInt ∧ (a 1).toInt < 3
  · obtain ⟨i, hi, ei⟩ := in_of (x := a 1) (w := 3) (by decide) hc
    have hid := drw_id h.1 hi
    have ha := area_le (w := w) (h := q) (by omega) (by omega)
    refine ⟨true, sA (sI (sI σ (64 + 3 * i) 0 (gI σ s 0)) (64 + 3 * i) 1 (gI σ s 1)) (64 + 3 * i + 1) (fun k => if k < 1600 then gI σ (s + 1) k else gI σ (64 + 3 * i + 1) k), sA (sI (sI (sA (sI (sI σ (64 + 3 * i) 0 (gI σ s 0)) (64 + 3 * i) 1 (gI σ s 1)) (64 + 3 * i + 1) (fun k => if k < 1600 then gI σ (s + 1) k else gI σ (64 + 3 * i + 1) k)) 86 i (nI w)) 87 i (nI q)) 85 (fun j => if 1600 * i ≤ j ∧ j < 1600 * i + 1600 then gI σ 83 (j - 1600 * i) else gI σ 85 j), ?_, ?_, s, f, ?_⟩
    · unfold fX7_keep
      simp only [lt_i, Int32.reduceToInt]
      rw [if_neg (by omega), if_pos (by omega), ei, grd_eq _ (inb_nI hi (by decide)), nI_clamp (by omega), hid, hR1, bnd1_of _ (takeAll_eq (by omega))]
    · unfold fX8_keep fX8_keeps
      simp only [in_eq, le_i, Int32.reduceToInt]
      rw [if_pos (by omega), ei, grd_eq _ (inb_nI hi (by decide))]
      simp only [vthen_eq]
      rw [nI_clamp (by omega), gI_ne (c' := 73) (by omega), gI_A_ne (c' := 73) (by omega), gI_ne (c' := 73) (by omega), gI_ne (c' := 73) (by omega), e3, e4]
      refine bnd1_of _ ((keeps_l hi).trans ?_)
      rw [gI_ne (c' := 83) (by omega), gI_ne (c' := 83) (by omega), gI_A_ne (c' := 83) (by omega), gI_ne (c' := 83) (by omega), gI_ne (c' := 83) (by omega), gI_ne (c' := 85) (by omega), gI_ne (c' := 85) (by omega), gI_A_ne (c' := 85) (by omega), gI_ne (c' := 85) (by omega), gI_ne (c' := 85) (by omega)]
    · refine h.of rfl ?h1 ?h2 ?h3 ?h4 ?h5 ?h6 ?h7 ?h8 ?h9
      case h3 =>
        refine Or.inl fun i' hi' => ?_
        by_cases hii : i' = i
        · subst hii
          refine Or.inr ⟨w, q, hw, hq, ?_, ?_, ?_, ?_, fun k hk => ?_⟩
          · rw [gI_A_ne (by omega), gI_ne (by omega), gI_ne (by omega), gI_A_ne (by omega), gI_nk (by omega), gI_eq, e1]
          · rw [gI_A_ne (by omega), gI_ne (by omega), gI_ne (by omega), gI_A_ne (by omega), gI_eq, e2]
          · rw [gI_A_ne (by omega), gI_ne (by omega), gI_eq]
          · rw [gI_A_ne (by omega), gI_eq]
          · rw [gI_A_ne (c' := 65 + 3 * i') (by omega), gI_ne (c' := 65 + 3 * i') (by omega), gI_ne (c' := 65 + 3 * i') (by omega), show 65 + 3 * i' = 64 + 3 * i' + 1 by omega, gI_A, gI_A]
            show (if k < 1600 then _ else _) = (if 1600 * i' ≤ 1600 * i' + k ∧ 1600 * i' + k < 1600 * i' + 1600 then _ else _) ∧ inR (if 1600 * i' ≤ 1600 * i' + k ∧ 1600 * i' + k < 1600 * i' + 1600 then _ else _) 0 9
            rw [if_pos (by omega), if_pos (by omega), show 1600 * i' + k - 1600 * i' = k by omega]
            exact hd k hk
        · have o := h4 i' hi'
          have f0 : ∀ k, gI (sA (sI (sI (sA (sI (sI σ (64 + 3 * i) 0 (gI σ s 0)) (64 + 3 * i) 1 (gI σ s 1)) (64 + 3 * i + 1) (fun k => if k < 1600 then gI σ (s + 1) k else gI σ (64 + 3 * i + 1) k)) 86 i (nI w)) 87 i (nI q)) 85 (fun j => if 1600 * i ≤ j ∧ j < 1600 * i + 1600 then gI σ 83 (j - 1600 * i) else gI σ 85 j)) (64 + 3 * i') k = gI σ (64 + 3 * i') k := fun k => by rw [gI_A_ne (by omega), gI_ne (by omega), gI_ne (by omega), gI_A_ne (by omega), gI_ne (by omega), gI_ne (by omega)]
          unfold RDrw
          rw [f0, f0]
          rw [gI_A_ne (c' := 65 + 3 * i') (by omega), gI_ne (c' := 65 + 3 * i') (by omega), gI_ne (c' := 65 + 3 * i') (by omega), gI_A_ne (c' := 65 + 3 * i') (by omega), gI_ne (c' := 65 + 3 * i') (by omega), gI_ne (c' := 65 + 3 * i') (by omega), gI_A_ne (c' := 86) (by omega), gI_ne (c' := 86) (by omega), gI_nk (c' := 86) (by omega), gI_A_ne (c' := 86) (by omega), gI_ne (c' := 86) (by omega), gI_ne (c' := 86) (by omega), gI_A_ne (c' := 87) (by omega), gI_nk (c' := 87) (by omega), gI_ne (c' := 87) (by omega), gI_A_ne (c' := 87) (by omega), gI_ne (c' := 87) (by omega), gI_ne (c' := 87) (by omega), gI_A]
          rcases o with o | ⟨w1, q1, a1, a2, a3, a4, a5, a6, a7⟩
          · exact Or.inl o
          · refine Or.inr ⟨w1, q1, a1, a2, a3, a4, a5, a6, fun k hk => ?_⟩
            have ha1 := area_le (w := w1) (h := q1) (by omega) (by omega)
            have g : (if 1600 * i ≤ 1600 * i' + k ∧ 1600 * i' + k < 1600 * i + 1600 then gI σ 83 (1600 * i' + k - 1600 * i) else gI σ 85 (1600 * i' + k)) = gI σ 85 (1600 * i' + k) := if_neg (by omega)
            show gI σ (65 + 3 * i') k = (if 1600 * i ≤ 1600 * i' + k ∧ 1600 * i' + k < 1600 * i + 1600 then gI σ 83 (1600 * i' + k - 1600 * i) else gI σ 85 (1600 * i' + k)) ∧ inR (if 1600 * i ≤ 1600 * i' + k ∧ 1600 * i' + k < 1600 * i + 1600 then gI σ 83 (1600 * i' + k - 1600 * i) else gI σ 85 (1600 * i' + k)) 0 9
            rw [g]
            exact a7 k hk
      all_goals exact Or.inr fun c k hp => by rw [gI_A_ne (by omega), gI_nk (by omega), gI_nk (by omega), gI_A_ne (by omega), gI_nk (by omega), gI_nk (by omega)]
  · refine ⟨false, σ, σ, ?_, ?_, s, f, h⟩
    · unfold fX7_keep
      simp only [lt_i, Int32.reduceToInt]
      by_cases c1 : (a 1).toInt < 0
      · rw [if_pos c1]
      · rw [if_neg c1, if_neg (by omega)]
    · unfold fX8_keep
      simp only [in_eq, le_i, Int32.reduceToInt]
      rw [if_neg (by omega)]
theorem op18 : ∀ a σ, Rel σ → st18 Rel a σ := by
  intro a σ ⟨s, f, h⟩
  obtain ⟨hs, hf, hR1, -⟩ := id h.1
  by_cases hc : 0 ≤ (a 1).toInt ∧ (a 1).toInt < 3
  · obtain ⟨i, hi, ei⟩ := in_of (x := a 1) (w := 3) (by decide) hc
    have hid := drw_id h.1 hi
    rcases h.2.2.2.1 i hi with ⟨n1, n2⟩ | ⟨w, q, hw, hq, e1, e2, e3, e4, hd⟩
    · refine ⟨false, σ, σ, ?_, ?_, s, f, h⟩
      · unfold fX7_back fX6_isNothing
        simp only [lt_i, le_i, Int32.reduceToInt]
        rw [if_neg (by omega), if_neg (by omega), ei, grd_eq _ (inb_nI hi (by decide)), nI_clamp (by omega), hid, n1]
        rfl
      · unfold fX8_back
        simp only [in_eq, le_i, Int32.reduceToInt]
        rw [if_pos (by omega), ei, grd_eq _ (inb_nI hi (by decide)), nI_clamp (by omega), n2]
        rfl
    · have ha := area_le (w := w) (h := q) (by omega) (by omega)
      have hw0 : ¬ nI w = 0 := nI_ne0 (by omega) (by omega)
      refine ⟨true, sA (sI (sI σ s 0 (nI w)) s 1 (nI q)) (s + 1) (fun k => if k < 1600 then gI σ (64 + 3 * i + 1) k else gI σ (s + 1) k), sA (sI (sI (sA (sI (sI σ s 0 (nI w)) s 1 (nI q)) (s + 1) (fun k => if k < 1600 then gI σ (64 + 3 * i + 1) k else gI σ (s + 1) k)) 73 29 (nI w)) 73 30 (nI q)) 83 (fun j => if j < 1600 then gI σ 85 (1600 * i + j) else gI σ 83 j), ?_, ?_, s, f, ?_⟩
      · unfold fX7_back fX6_isNothing
        simp only [lt_i, le_i, Int32.reduceToInt]
        rw [if_neg (by omega), if_neg (by omega), ei, grd_eq _ (inb_nI hi (by decide)), nI_clamp (by omega), hid, hR1, e1, if_neg hw0, if_neg (by decide), bnd1_of _ (takeAll_eq (by omega)), e1, e2]
      · unfold fX8_back
        simp only [in_eq, le_i, Int32.reduceToInt]
        rw [if_pos (by omega), ei, grd_eq _ (inb_nI hi (by decide)), nI_clamp (by omega), gI_A_ne (c' := 86) (by omega), gI_ne (c' := 86) (by omega), gI_ne (c' := 86) (by omega), e3, if_neg hw0]
        simp only [vthen_eq]
        rw [gI_ne (c' := 87) (by omega), gI_A_ne (c' := 87) (by omega), gI_ne (c' := 87) (by omega), gI_ne (c' := 87) (by omega), e4]
        refine (back_l hi).trans ?_
        rw [gI_ne (c' := 85) (by omega), gI_ne (c' := 85) (by omega), gI_A_ne (c' := 85) (by omega), gI_ne (c' := 85) (by omega), gI_ne (c' := 85) (by omega), gI_ne (c' := 83) (by omega), gI_ne (c' := 83) (by omega), gI_A_ne (c' := 83) (by omega), gI_ne (c' := 83) (by omega), gI_ne (c' := 83) (by omega)]
      · refine h.of rfl ?h1 ?h2 ?h3 ?h4 ?h5 ?h6 ?h7 ?h8 ?h9
        case h2 =>
          refine Or.inl ⟨w, q, hw, hq, ?_, ?_, ?_, ?_, fun k hk => ?_⟩
          · rw [gI_A_ne (by omega), gI_ne (by omega), gI_ne (by omega), gI_A_ne (by omega), gI_nk (by omega), gI_eq]
          · rw [gI_A_ne (by omega), gI_ne (by omega), gI_ne (by omega), gI_A_ne (by omega), gI_eq]
          · rw [gI_A_ne (by omega), gI_nk (by omega), gI_eq]
          · rw [gI_A_ne (by omega), gI_eq]
          · rw [gI_A_ne (c' := s + 1) (by omega), gI_ne (c' := s + 1) (by omega), gI_ne (c' := s + 1) (by omega), gI_A, gI_A]
            show (if k < 1600 then _ else _) = (if k < 1600 then _ else _) ∧ inR (if k < 1600 then _ else _) 0 9
            rw [if_pos (by omega), if_pos (by omega), show 64 + 3 * i + 1 = 65 + 3 * i by omega]
            exact hd k hk
        all_goals exact Or.inr fun c k hp => by rw [gI_A_ne (by omega), gI_nk (by omega), gI_nk (by omega), gI_A_ne (by omega), gI_nk (by omega), gI_nk (by omega)]
  · refine ⟨false, σ, σ, ?_, ?_, s, f, h⟩
    · unfold fX7_back
      simp only [lt_i, le_i, Int32.reduceToInt]
      by_cases c1 : (a 1).toInt < 0
      · rw [if_pos c1]
      · rw [if_neg c1, if_pos (by omega)]
    · unfold fX8_back
      simp only [in_eq, le_i, Int32.reduceToInt]
      rw [if_neg (by omega)]
