/-! The pile, asked: chosen, copied. -/
theorem bnd1_id {α : Type} (x : Option α) : bnd1 x (fun v => some v) = x := by cases x <;> rfl
theorem and1 (x : Int32) : x &&& 1 = 0 ∨ x &&& 1 = 1 := by
  obtain ⟨j, hj, e⟩ := pk_andE x (m := 1) 1 rfl
  rcases (show j = 0 ∨ j = 1 by omega) with rfl | rfl
  · exact Or.inl e
  · exact Or.inr e
theorem or_bit (a b s : Int32) : ((a ||| b) >>> s) &&& 1 = (a >>> s &&& 1) ||| (b >>> s &&& 1) := by
  apply Int32.toBitVec_inj.mp
  simp only [Int32.toBitVec_and, Int32.toBitVec_or, Int32.toBitVec_shiftRight]
  apply BitVec.eq_of_getLsbD_eq
  intro i hi
  simp only [BitVec.getLsbD_and, BitVec.getLsbD_or]
  have e : ∀ n, ((a.toBitVec ||| b.toBitVec).sshiftRight n).getLsbD i = ((a.toBitVec.sshiftRight n).getLsbD i || (b.toBitVec.sshiftRight n).getLsbD i) := fun n => by
    rw [BitVec.getLsbD_sshiftRight, BitVec.getLsbD_sshiftRight, BitVec.getLsbD_sshiftRight]
    by_cases c1 : 32 ≤ i
    · omega
    · by_cases c2 : n + i < 32 <;> simp [c1, c2, BitVec.msb_or]
  cases (1 : Int32).toBitVec.getLsbD i
  · simp
  · simp only [Bool.and_true]; exact e _
theorem has8 (σ : SS) (x k : Int32) : (fX8_has σ x k = true) = ((x >>> (k &&& 31)) &&& 1 = 1) := by
  unfold fX8_has
  by_cases h : (x >>> (k &&& 31)) &&& 1 = 1
  · rw [if_pos h]; exact propext ⟨fun _ => h, fun _ => rfl⟩
  · rw [if_neg h]; exact propext ⟨fun q => absurd q (by decide), fun q => absurd q h⟩
theorem or_two (a b : Int32) (k : Int32) : (((a ||| b) >>> k) &&& 1 = 0) ↔ ¬ (a >>> k &&& 1 = 1) ∧ ¬ (b >>> k &&& 1 = 1) := by
  rw [or_bit]
  rcases and1 (a >>> k) with h1 | h1 <;> rcases and1 (b >>> k) with h2 | h2 <;> rw [h1, h2] <;> decide
theorem keyOf_eq {σ : SS} {b q : Nat} (hb : b < 2) (e : gI σ 73 11 = nI b) (hq : q < 12) : fX8_keyOf σ (nI q) = some (gI σ 78 (12 * b + q)) := by
  unfold fX8_keyOf
  have e5 : (12 : Int32) * nI b + nI q = nI (12 * b + q) := by rw [show (12 : Int32) = nI 12 from rfl, nI_mul, nI_add]
  rw [e, e5, grd_eq _ (inb_nI (by omega) (by decide)), nI_clamp (by omega)]
theorem ans7 {σ : SS} {t q : Nat} (ht : t < 16) (hq : q < 12) : fX4_answer σ (nI t) (nI q) = some (gI σ 62 (12 * t + q)) := by
  unfold fX4_answer
  have e : nI t * 12 + nI q = nI (12 * t + q) := by rw [show (12 : Int32) = nI 12 from rfl, nI_mul, nI_add, Nat.mul_comm]
  rw [e, grd_eq _ (inb_nI (by omega) (by decide)), nI_clamp (by omega)]
theorem right_eq {σ : SS} {f b t q : Nat} (hb : b < 2) (e11 : gI σ 73 11 = nI b) (hq : q < 12) (ht : t < 16) (g4 : gI σ (f + 4) q = gI σ 78 (12 * b + q)) (g60 : gI σ 60 t = gI σ 110 t) (g61 : gI σ 61 t = gI σ 111 t) (g62 : gI σ 62 (12 * t + q) = gI σ 112 (12 * t + q)) : ∃ v, fX4_isRight σ f (nI t) (nI q) = some v ∧ fX8_isRight σ (nI t) (nI q) = some v := by
  apply w2_val
  have e : (12 : Int32) * nI t + nI q = nI (12 * t + q) := by rw [show (12 : Int32) = nI 12 from rfl, nI_mul, nI_add]
  unfold fX4_isRight fX8_isRight
  simp only [vthen_eq]
  rw [keyOf_eq hb e11 hq, ans7 ht hq, e, nI_clamp (by omega), nI_clamp (by omega), nI_clamp (by omega), g4, g60, g61, g62]
  refine w2_gl (inb_nI hq (by decide)) (w2_r rfl (w2_if Iff.rfl (fun _ _ => w2_some rfl) fun h1 _ => w2_l rfl (w2_gr (inb_nI (by omega) (by decide)) (w2_r rfl (w2_if Iff.rfl (fun _ _ => w2_gl (inb_nI ht (by decide)) (w2_gr (inb_nI ht (by decide)) ?_)) fun _ _ => w2_some rfl)))))
  simp only [has8]
  have o := or_two (gI σ 110 t) (gI σ 111 t) (nI q &&& 31)
  by_cases h : ((gI σ 110 t ||| gI σ 111 t) >>> (nI q &&& 31)) &&& 1 = 0
  · rw [if_pos h, if_neg (o.mp h).1, if_neg (o.mp h).2]; exact w2_some rfl
  · rw [if_neg h]
    by_cases h1 : gI σ 110 t >>> (nI q &&& 31) &&& 1 = 1
    · rw [if_pos h1]; exact w2_some rfl
    · rw [if_neg h1]
      by_cases h2 : gI σ 111 t >>> (nI q &&& 31) &&& 1 = 1
      · rw [if_pos h2]; exact w2_some rfl
      · exact absurd (o.mpr ⟨h1, h2⟩) h
theorem isBox_eq {σ : SS} {Q b q n : Nat} (hQ : Q ≤ 12) (eq : fX8_questions σ = some (nI Q)) (hb : b < 2) (e : gI σ 73 11 = nI b) (hqQ : q < Q) (h : gI σ 77 (12 * b + q) = nI n) (hn : n ≤ 6) (x : Int32) : ∃ v, fX8_isBox σ (nI q) x = some v ∧ (v = true ↔ 0 ≤ x.toInt ∧ x.toInt < n) := by
  unfold fX8_isBox
  obtain ⟨bb, i1, i2⟩ := isQ_eq (σ := σ) hQ eq (nI q)
  have z : (0 : Int32).toInt = 0 := rfl
  rw [bnd1_of _ i1, vthen_eq, if_pos (by rw [i2, nI_toInt (by omega)]; omega), bnd1_of _ (boxesOf_eq hb e (by omega) h)]
  simp only [in_eq, le_i]
  rw [sub1z (by omega)]
  by_cases c : 0 ≤ x.toInt ∧ x.toInt < n
  · rw [if_pos (by omega)]; exact ⟨_, rfl, by simp [c]⟩
  · rw [if_neg (by omega)]; exact ⟨_, rfl, by simp [c]⟩
theorem op37 : ∀ a σ, Rel σ → st37 Rel a σ := by
  intro a σ ⟨s, f, h⟩
  obtain ⟨hs, hf, -, -, hR5, -⟩ := id h.1
  obtain ⟨b, Q, N, hb, hQ, e11, e5, -, eq, hqs⟩ := h.2.2.2.2.2.2.2.1.q
  obtain ⟨S, hS, p1, p2, hp⟩ := h.2.2.2.2.2.2.2.2.2.at hQ e5
  suffices hh : ∃ v, fX7_chosen σ (a 1) (a 2) = some v ∧ fX8_chosen σ (a 1) (a 2) = some v by
    obtain ⟨v, x1, x2⟩ := hh
    exact ⟨v, x1, x2, s, f, h⟩
  have c7 := hasQ_eq hQ e5 (a 1)
  obtain ⟨bb, i1, i2⟩ := isQ_eq (σ := σ) hQ eq (a 1)
  unfold fX7_chosen fX8_chosen
  rw [hR5, bnd1_of _ i1]
  by_cases hc : 0 ≤ (a 1).toInt ∧ (a 1).toInt < Q
  · rw [if_pos (by rw [c7]; exact hc), if_pos (c := bb = true) (by rw [i2]; exact hc)]
    obtain ⟨q, hqQ, eqq⟩ := in_of (x := a 1) (by omega) hc
    obtain ⟨⟨n1, n2⟩, g2, g3, g77, ⟨g4, -⟩, -⟩ := hqs q hqQ
    rw [eqq]
    simp only [vthen_eq]
    by_cases hn : a 2 = -1
    · rw [if_pos hn, if_pos hn]
      apply w2_val
      rw [bnd1_id]
      unfold fX4_rightOnes X4_rightOnes_L5 X8_chosen_L29
      refine w2f_2 S (fun i x y x' y' => x' = x ∧ y = nI i ∧ y' = nI i) ⟨rfl, rfl, rfl⟩ (by omega) ?_ ?_
      · rintro i x _ _ _ rec rec' hi ⟨rfl, rfl, rfl⟩ hr
        obtain ⟨h59, h60, h61, h62⟩ := hp i hi
        obtain ⟨v, r1, r2⟩ := right_eq (f := f) hb e11 (by omega) (show i < 16 by omega) g4 h60 h61 (h62 q hqQ)
        simp only [vthen_eq]
        rw [p1, p2, if_neg (nI_ge hi (by omega)), if_neg (nI_ge hi (by omega)), bnd1_of _ r1, if_pos hn, bnd1_of _ r2]
        rw [nI_1, Int32.add_zero]
        exact w2_if Iff.rfl (fun _ _ => hr _ _ _ _ ⟨rfl, rfl, rfl⟩) fun _ _ => hr _ _ _ _ ⟨rfl, rfl, rfl⟩
      · rintro x _ _ _ rec rec' ⟨rfl, rfl, rfl⟩
        rw [p1, p2, if_pos (nI_le (Nat.le_refl _) (by omega)), if_pos (nI_le (Nat.le_refl _) (by omega))]
        exact w2_some rfl
    · rw [if_neg hn, if_neg hn]
      obtain ⟨b1, u1, u2⟩ := hasBox_eq hQ e5 hqQ n2 g3 (a 2)
      obtain ⟨b2, w1, w2⟩ := isBox_eq hQ eq hb e11 hqQ g77 n2 (a 2)
      rw [bnd1_of _ u1, bnd1_of _ w1]
      apply w2_val
      refine w2_if ((iff_of_eq u2).trans w2.symm) (fun _ hb2 => ?_) fun _ _ => w2_some rfl
      rw [bnd1_id]
      unfold fX4_choosing X4_choosing_L5 X8_chosen_L29
      refine w2f_2 S (fun i x y x' y' => x' = x ∧ y = nI i ∧ y' = nI i) ⟨rfl, rfl, rfl⟩ (by omega) ?_ ?_
      · rintro i x _ _ _ rec rec' hi ⟨rfl, rfl, rfl⟩ hr
        obtain ⟨h59, h60, h61, h62⟩ := hp i hi
        have e : (12 : Int32) * nI i + nI q = nI (12 * i + q) := by rw [show (12 : Int32) = nI 12 from rfl, nI_mul, nI_add]
        simp only [vthen_eq]
        rw [p1, p2, if_neg (nI_ge hi (by omega)), if_neg (nI_ge hi (by omega)), if_neg hn, ans7 (by omega) (by omega), e]
        refine w2_l rfl (w2_gr (inb_nI (by omega) (by decide)) ?_)
        simp only [vthen_eq, has8]
        rw [nI_clamp (by omega), h62 q hqQ, nI_1]
        rcases and1 (gI σ 112 (12 * i + q) >>> (a 2 &&& 31)) with z | z
        · rw [z, if_neg (by decide)]; exact hr _ _ _ _ ⟨rfl, rfl, rfl⟩
        · rw [z, if_pos rfl]; exact hr _ _ _ _ ⟨rfl, rfl, rfl⟩
      · rintro x _ _ _ rec rec' ⟨rfl, rfl, rfl⟩
        rw [p1, p2, if_pos (nI_le (Nat.le_refl _) (by omega)), if_pos (nI_le (Nat.le_refl _) (by omega))]
        exact w2_some rfl
  · rw [if_neg (by rw [c7]; exact hc), if_neg (c := bb = true) (by rw [i2]; exact hc)]
    exact ⟨_, rfl, rfl⟩
theorem shared_eq {σ : SS} {f b Q t u : Nat} (hQ : Q ≤ 12) (hb : b < 2) (e11 : gI σ 73 11 = nI b) (e5 : gI σ f 5 = nI Q) (eq : fX8_questions σ = some (nI Q)) (ht : t < 16) (hu : u < 16) (g4 : ∀ q, q < Q → gI σ (f + 4) q = gI σ 78 (12 * b + q)) (g62 : ∀ q, q < Q → gI σ 62 (12 * t + q) = gI σ 112 (12 * t + q)) (h62 : ∀ q, q < Q → gI σ 62 (12 * u + q) = gI σ 112 (12 * u + q)) : ∃ v, fX4_sharedFaults σ f (nI t) (nI u) = some v ∧ fX8_alikeIn σ (nI t) (nI u) = some v := by
  apply w2_val
  unfold fX4_sharedFaults X4_sharedFaults_L6 fX8_alikeIn X8_alikeIn_L5
  refine w2f_2 Q (fun i x y x' y' => x' = x ∧ y = nI i ∧ y' = nI i) ⟨rfl, rfl, rfl⟩ (by omega) ?_ ?_
  · rintro i x _ _ _ rec rec' hi ⟨rfl, rfl, rfl⟩ hr
    have e : (12 : Int32) * nI t + nI i = nI (12 * t + i) := by rw [show (12 : Int32) = nI 12 from rfl, nI_mul, nI_add]
    have e' : (12 : Int32) * nI u + nI i = nI (12 * u + i) := by rw [show (12 : Int32) = nI 12 from rfl, nI_mul, nI_add]
    rw [e5, if_neg (nI_ge hi (by omega)), ans7 ht (by omega), ans7 hu (by omega), keyOf_eq hb e11 (by omega), e, e', nI_clamp (by omega), nI_clamp (by omega), nI_clamp (by omega), nI_1, Int32.add_zero, g4 i hi, g62 i hi, h62 i hi]
    refine w2_r eq ?_
    simp only [vthen_eq]
    rw [if_neg (nI_ge hi (by omega))]
    refine w2_l rfl (w2_gl (inb_nI (by omega) (by decide)) (w2_gr (inb_nI (by omega) (by decide)) (w2_r rfl ?_)))
    refine w2_if Iff.rfl (fun _ _ => hr _ _ _ _ ⟨rfl, rfl, rfl⟩) fun _ _ => ?_
    refine w2_if Iff.rfl (fun _ _ => hr _ _ _ _ ⟨rfl, rfl, rfl⟩) fun _ _ => w2_r rfl ?_
    refine w2_if Iff.rfl (fun _ _ => hr _ _ _ _ ⟨rfl, rfl, rfl⟩) fun _ _ => w2_l rfl (w2_gr (inb_nI (by omega) (by decide)) ?_)
    exact w2_if Iff.rfl (fun _ _ => hr _ _ _ _ ⟨rfl, rfl, rfl⟩) fun _ _ => hr _ _ _ _ ⟨rfl, rfl, rfl⟩
  · rintro x _ _ _ rec rec' ⟨rfl, rfl, rfl⟩
    rw [e5, if_pos (nI_le (Nat.le_refl _) (by omega))]
    refine w2_r eq ?_
    rw [if_pos (nI_le (Nat.le_refl _) (by omega))]
    exact w2_some rfl
theorem op38 : ∀ a σ, Rel σ → st38 Rel a σ := by
  intro a σ ⟨s, f, h⟩
  obtain ⟨hs, hf, -, -, hR5, -⟩ := id h.1
  obtain ⟨b, Q, N, hb, hQ, e11, e5, -, eq, hqs⟩ := h.2.2.2.2.2.2.2.1.q
  obtain ⟨S, hS, p1, p2, hp⟩ := h.2.2.2.2.2.2.2.2.2.at hQ e5
  suffices hh : ∃ v, fX7_copied σ (a 1) (a 2) = some v ∧ fX8_copied σ (a 1) (a 2) = some v by
    obtain ⟨v, x1, x2⟩ := hh
    exact ⟨v, x1, x2, s, f, h⟩
  apply w2_val
  unfold fX7_copied fX8_copied
  simp only [in_eq, lt_i, le_i, Int32.reduceToInt]
  by_cases hc : 1 ≤ (a 1).toInt ∧ (a 1).toInt ≤ 12
  · rw [if_neg (by omega), if_neg (by omega), if_pos hc]
    refine w2_if Iff.rfl (fun _ _ => ?_) fun _ _ => w2_some rfl
    unfold X7_copied_L23 X8_copied_L22
    refine w2f_2 S (fun i x y x' y' => x' = x ∧ y = nI i ∧ y' = nI i) ⟨rfl, rfl, rfl⟩ (by omega) ?_ ?_
    · rintro t x _ _ _ rec rec' ht ⟨rfl, rfl, rfl⟩ hr
      rw [p1, p2, if_neg (nI_ge ht (by omega)), if_neg (nI_ge ht (by omega))]
      simp only [vthen_eq]
      rw [nI_1]
      unfold X7_copied_L41 X8_copied_L37
      refine w2f_2 (S - (t + 1)) (fun i x y x' y' => x' = x ∧ y = nI (t + 1 + i) ∧ y' = nI (t + 1 + i)) ⟨rfl, rfl, rfl⟩ (by omega) ?_ ?_
      · rintro i x _ _ _ rec2 rec2' hi ⟨rfl, rfl, rfl⟩ hr2
        obtain ⟨v, z1, z2⟩ := shared_eq hQ hb e11 e5 eq (show t < 16 by omega) (show t + 1 + i < 16 by omega) (fun q hq => (hqs q hq).2.2.2.2.1.1) (hp t ht).2.2.2 (hp (t + 1 + i) (by omega)).2.2.2
        rw [p1, p2, if_neg (nI_ge (by omega) (by omega)), if_neg (nI_ge (by omega) (by omega)), hR5, bnd1_of _ z1, bnd1_of _ z2]
        simp only [vthen_eq]
        rw [nI_1]
        refine w2_nif (Int32.not_le.symm) (fun _ _ => hr2 _ _ _ _ ⟨rfl, rfl, rfl⟩) fun _ _ => w2_if Iff.rfl (fun _ _ => w2_some rfl) fun _ _ => hr2 _ _ _ _ ⟨rfl, rfl, rfl⟩
      · rintro x _ _ _ rec2 rec2' ⟨rfl, rfl, rfl⟩
        rw [p1, p2, if_pos (nI_le (by omega) (by omega)), if_pos (nI_le (by omega) (by omega))]
        exact hr _ _ _ _ ⟨rfl, rfl, rfl⟩
    · rintro x _ _ _ rec rec' ⟨rfl, rfl, rfl⟩
      rw [p1, p2, if_pos (nI_le (Nat.le_refl _) (by omega)), if_pos (nI_le (Nat.le_refl _) (by omega))]
      exact w2_if Iff.rfl (fun _ _ => w2_some rfl) fun _ _ => w2_some rfl
  · rw [if_neg hc]
    by_cases c1 : (a 1).toInt < 1
    · rw [if_pos c1]; exact w2_some rfl
    · rw [if_neg c1, if_pos (by omega)]; exact w2_some rfl
