/-! A sheet of the pile, asked. -/
theorem RPile.at {f : Nat} {σ : SS} (h : RPile f σ) {Q : Nat} (hQ : Q ≤ 12) (e5 : gI σ f 5 = nI Q) : ∃ S : Nat, S ≤ 16 ∧ gI σ 58 0 = nI S ∧ gI σ 73 65 = nI S ∧ ∀ t, t < S → gI σ 59 t = gI σ 109 t ∧ gI σ 60 t = gI σ 110 t ∧ gI σ 61 t = gI σ 111 t ∧ ∀ q, q < Q → gI σ 62 (12 * t + q) = gI σ 112 (12 * t + q) := by
  obtain ⟨S, h1, h2, h3, h4⟩ := h
  refine ⟨S, h1, h2, h3, fun t ht => ?_⟩
  obtain ⟨a, b, c, d⟩ := h4 t ht
  exact ⟨a, b, c, fun q hq => d q (by rw [e5]; exact nI_lt hq (by omega)) (by omega)⟩
theorem hasS_eq {σ : SS} {S : Nat} (hS : S ≤ 16) (e : gI σ 58 0 = nI S) (x : Int32) : (fX4_hasSheet σ x = true) = (0 ≤ x.toInt ∧ x.toInt < S) := by
  unfold fX4_hasSheet
  rw [e]
  simp only [vthen_eq, lt_i, le_i, nI_toInt (show S < 2 ^ 31 by omega), Int32.reduceToInt]
  by_cases c1 : x.toInt < 0
  · rw [if_pos c1]; simp; omega
  rw [if_neg c1]
  by_cases c2 : (S : Int) ≤ x.toInt
  · rw [if_pos c2]; simp; omega
  rw [if_neg c2]; simp; omega
theorem rank7 {σ : SS} {S t : Nat} (hS : S ≤ 16) (ht : t < S) (e : gI σ 58 0 = nI S) : fX4_rankOf σ (nI t) = some (itr (fun i n => if gI σ 59 i ≤ gI σ 59 t then n else n + 1) 1 S) := by
  unfold fX4_rankOf X4_rankOf_L4
  refine lp_2 (fun i => itr (fun i n => if gI σ 59 i ≤ gI σ 59 t then n else n + 1) 1 i) (fun i => nI i) S _ (fun i hi rec => ?_) (fun rec => ?_) fuel (fuel_gt (by omega))
  · rw [e, if_neg (nI_ge hi (by omega)), grd_eq _ (inb_nI (by omega) (by decide)), grd_eq _ (inb_nI (by omega) (by decide)), nI_clamp (by omega), nI_clamp (by omega), nI_1]
    show _ = rec (if gI σ 59 i ≤ gI σ 59 t then _ else _) _
    by_cases c : gI σ 59 i ≤ gI σ 59 t
    · rw [if_pos c, if_pos c]
    · rw [if_neg c, if_neg c]
  · rw [e, if_pos (nI_le (Nat.le_refl _) (by omega))]
theorem rank8 {σ : SS} {S t : Nat} (hS : S ≤ 16) (ht : t < S) (e : gI σ 73 65 = nI S) : X8_laid_L106 σ (nI t) fuel (1 : Int32) (nI 0) = some (itr (fun i n => if gI σ 109 i ≤ gI σ 109 t then n + 0 else n + 1) 1 S) := by
  unfold X8_laid_L106
  refine lp_2 (fun i => itr (fun i n => if gI σ 109 i ≤ gI σ 109 t then n + 0 else n + 1) 1 i) (fun i => nI i) S _ (fun i hi rec => ?_) (fun rec => ?_) fuel (fuel_gt (by omega))
  · rw [e, if_neg (nI_ge hi (by omega)), grd_eq _ (inb_nI (by omega) (by decide)), grd_eq _ (inb_nI (by omega) (by decide)), nI_clamp (by omega), nI_clamp (by omega), nI_1]
    show _ = rec (if gI σ 109 i ≤ gI σ 109 t then _ else _) _
    by_cases c : gI σ 109 i ≤ gI σ 109 t
    · rw [if_pos c, if_pos c]
      rfl
    · rw [if_neg c, if_neg c]
      rfl
  · rw [e, if_pos (nI_le (Nat.le_refl _) (by omega))]
theorem op36 : ∀ a σ, Rel σ → st36 Rel a σ := by
  intro a σ ⟨s, f, h⟩
  obtain ⟨hs, hf, -, -, hR5, -⟩ := id h.1
  obtain ⟨b, Q, N, hb, hQ, e11, e5, -, eq, -⟩ := h.2.2.2.2.2.2.2.1.q
  obtain ⟨S, hS, p1, p2, hp⟩ := h.2.2.2.2.2.2.2.2.2.at hQ e5
  suffices hh : ∃ v, fX7_laid σ (a 1) (a 2) = some v ∧ fX8_laid σ (a 1) (a 2) = some v by
    obtain ⟨v, x1, x2⟩ := hh
    exact ⟨v, x1, x2, s, f, h⟩
  have c7 := hasS_eq hS p1 (a 1)
  have c8 : (fX8_in σ (a 1) 0 (gI σ 73 65 - 1) = true) = (0 ≤ (a 1).toInt ∧ (a 1).toInt < S) := by
    rw [in_eq, p2, le_i, le_i, sub1z (by omega)]
    have : (0 : Int32).toInt = 0 := rfl
    exact propext ⟨fun h => by omega, fun h => by omega⟩
  by_cases hc : 0 ≤ (a 1).toInt ∧ (a 1).toInt < S
  · obtain ⟨t, ht, et⟩ := in_of (x := a 1) (by omega) hc
    obtain ⟨g1, g2, g3, g4⟩ := hp t ht
    have b9 : (9 + nI Q).toInt = 9 + (Q : Int) := by rw [show (9 : Int32) + nI Q = nI (9 + Q) from nI_add 9 _, nI_toInt (by omega)]; omega
    have b10 : (10 + nI Q).toInt = 10 + (Q : Int) := by rw [show (10 : Int32) + nI Q = nI (10 + Q) from nI_add 10 _, nI_toInt (by omega)]; omega
    have ne : ∀ c : Int32, ¬ (a 2).toInt = c.toInt → ¬ a 2 = c := fun c q1 q2 => q1 (congrArg Int32.toInt q2)
    unfold fX7_laid fX8_laid
    rw [if_pos (c := fX4_hasSheet σ (a 1) = true) (by rw [c7]; exact hc), if_pos (c := fX8_in σ (a 1) 0 (gI σ 73 65 - 1) = true) (by rw [c8]; exact hc), bnd1_of _ eq]
    simp only [in_eq, lt_i, le_i, Int32.reduceToInt]
    rw [hR5, e5, b9, b10, et]
    by_cases d : 10 ≤ (a 2).toInt ∧ (a 2).toInt < 10 + (Q : Int)
    · obtain ⟨m, hm, em⟩ := in_of (x := a 2) (w := 22) (by decide) (by omega)
      have tm : (a 2).toInt = m := by rw [em, nI_toInt (by omega)]
      have e7 : nI t * 12 + (a 2 - 10) = nI (12 * t + (m - 10)) := by
        rw [em, show nI m - 10 = nI (m - 10) from nI_sub (a := m) (b := 10) (by omega), show (12 : Int32) = nI 12 from rfl, nI_mul, nI_add, Nat.mul_comm]
      have e8 : (12 : Int32) * nI t + a 2 - 10 = nI (12 * t + (m - 10)) := by
        rw [em, show (12 : Int32) = nI 12 from rfl, nI_mul, nI_add]
        exact (nI_sub (a := 12 * t + m) (b := 10) (by omega)).trans (by congr 1; omega)
      refine ⟨gI σ 62 (12 * t + (m - 10)), ?_, ?_⟩
      · rw [if_neg (ne 0 (by show ¬ (a 2).toInt = 0; omega)), if_neg (ne 1 (by show ¬ (a 2).toInt = 1; omega)), if_neg (ne 2 (by show ¬ (a 2).toInt = 2; omega)), if_neg (ne 3 (by show ¬ (a 2).toInt = 3; omega)), if_neg (by omega), if_neg (by omega)]
        unfold fX4_answer
        rw [e7, grd_eq _ (inb_nI (by omega) (by decide)), nI_clamp (by omega)]
        rfl
      · rw [if_pos (by omega), e8, grd_eq _ (inb_nI (by omega) (by decide)), nI_clamp (by omega), g4 _ (by omega)]
    · rw [if_neg (c := 10 ≤ (a 2).toInt ∧ (a 2).toInt ≤ 9 + (Q : Int)) (by omega)]
      by_cases z0 : a 2 = 0
      · rw [if_pos z0, if_pos z0, grd_eq _ (inb_nI (by omega) (by decide)), grd_eq _ (inb_nI (by omega) (by decide)), nI_clamp (by omega), g1]
        exact ⟨_, rfl, rfl⟩
      rw [if_neg z0, if_neg z0]
      by_cases z1 : a 2 = 1
      · rw [if_pos z1, if_pos z1, grd_eq _ (inb_nI (by omega) (by decide)), grd_eq _ (inb_nI (by omega) (by decide)), nI_clamp (by omega), g2]
        exact ⟨_, rfl, rfl⟩
      rw [if_neg z1, if_neg z1]
      by_cases z2 : a 2 = 2
      · rw [if_pos z2, if_pos z2, grd_eq _ (inb_nI (by omega) (by decide)), grd_eq _ (inb_nI (by omega) (by decide)), nI_clamp (by omega), g3]
        exact ⟨_, rfl, rfl⟩
      rw [if_neg z2, if_neg z2]
      by_cases z3 : a 2 = 3
      · rw [if_pos z3, if_pos z3, bnd1_of _ (rank7 hS ht p1)]
        refine ⟨_, rfl, (rank8 hS ht p2).trans (congrArg some (itr_congr fun i hi n => ?_))⟩
        rw [(hp i hi).1, g1]
        by_cases c : gI σ 109 i ≤ gI σ 109 t
        · rw [if_pos c, if_pos c, Int32.add_zero]
        · rw [if_neg c, if_neg c]
      rw [if_neg z3, if_neg z3]
      refine ⟨_, ?_, rfl⟩
      by_cases w : (a 2).toInt < 10
      · rw [if_pos w]
      · rw [if_neg w, if_pos (by omega)]
  · unfold fX7_laid fX8_laid
    rw [if_neg (c := fX4_hasSheet σ (a 1) = true) (by rw [c7]; exact hc), if_neg (c := fX8_in σ (a 1) 0 (gI σ 73 65 - 1) = true) (by rw [c8]; exact hc)]
    exact ⟨_, rfl, rfl⟩
