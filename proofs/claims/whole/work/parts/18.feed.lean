/-! Feeding the tape. -/
theorem bp_b (x : Int32) : x.toInt8.toInt32 &&& 255 = x &&& 255 := by
  apply Int32.toBitVec_inj.mp
  rw [Int32.toBitVec_and, Int32.toBitVec_and, Int8.toBitVec_toInt32, Int32.toBitVec_toInt8]
  apply BitVec.eq_of_getLsbD_eq
  intro i hi
  rw [BitVec.getLsbD_and, BitVec.getLsbD_and]
  have hm : ∀ i < 32, 8 ≤ i → (255 : Int32).toBitVec.getLsbD i = false := by decide
  rcases Nat.lt_or_ge i 8 with z | z
  · rw [BitVec.getLsbD_signExtend, BitVec.getLsbD_signExtend, if_pos z, if_pos hi]
    simp only [z, hi, decide_true, Bool.true_and]
  · rw [hm i hi z]; simp
def x7 (i : Nat) : Int32 := [24, 16, 8, 0, -8].getD i 0
def x8 (i : Nat) : Int32 := [3, 2, 1, 0, -1].getD i 0
theorem x7_pos : ∀ i, i < 4 → ¬ x7 i < 0 := by decide +kernel
theorem x8_pos : ∀ i, i < 4 → ¬ x8 i < 0 := by decide +kernel
theorem x7_s : ∀ i, i < 4 → x7 i + -8 = x7 (i + 1) := by decide +kernel
theorem x8_s : ∀ i, i < 4 → x8 i + -1 = x8 (i + 1) := by decide +kernel
theorem x78 : ∀ i, i < 4 → 8 * x8 i = x7 i := by decide +kernel
def b7 (v : Int32) (i : Nat) : Int32 := (v >>> (x7 i &&& 31)) &&& 255
def b8 (v : Int32) (i : Nat) : Int32 := Int8.toInt32 (Int32.toInt8 (Int8.toInt32 (Int32.toInt8 (v >>> ((8 * x8 i) &&& 31)))))
theorem b78 (v : Int32) (i : Nat) (hi : i < 4) : b7 v i = b8 v i &&& 255 ∧ inR (b8 v i) (-128) 127 := by
  unfold b7 b8
  rw [x78 i hi, Int8.toInt8_toInt32, bp_b]
  refine ⟨rfl, ?_⟩
  unfold inR
  rw [Int8.toInt_toInt32]
  have h1 := Int8.toInt_lt (Int32.toInt8 (v >>> (x7 i &&& 31)))
  have h2 := Int8.le_toInt (Int32.toInt8 (v >>> (x7 i &&& 31)))
  omega
def y7 (n : Nat) (v : Int32) (σ : SS) (i : Nat) : SS := itr (fun i σ => sI (sI σ 2 (n + i) (b7 v i)) 1 1 (nI (n + i + 1))) σ i
def y8 (n : Nat) (v : Int32) (σ : SS) (i : Nat) : SS := itr (fun i σ => sI (sI σ 74 (n + i) (b8 v i)) 73 1 (nI (n + i + 1))) σ i
section FEED
variable {σ : SS} {n : Nat} {v : Int32}
theorem y7_1 (h : gI σ 1 1 = nI n) : ∀ i, gI (y7 n v σ i) 1 1 = nI (n + i)
  | 0 => h
  | i + 1 => gI_eq _ _ _ _
theorem y8_1 (h : gI σ 73 1 = nI n) : ∀ i, gI (y8 n v σ i) 73 1 = nI (n + i)
  | 0 => h
  | i + 1 => gI_eq _ _ _ _
theorem y7_o {c k : Nat} (hc : ¬ (c = 1 ∧ k = 1)) (hc2 : c ≠ 2) : ∀ i, gI (y7 n v σ i) c k = gI σ c k
  | 0 => rfl
  | i + 1 => by
    show gI (sI (sI (y7 n v σ i) 2 (n + i) (b7 v i)) 1 1 (nI (n + i + 1))) c k = _
    rw [gI_nk hc, gI_ne hc2]; exact y7_o hc hc2 i
theorem y8_o {c k : Nat} (hc : ¬ (c = 73 ∧ k = 1)) (hc2 : c ≠ 74) : ∀ i, gI (y8 n v σ i) c k = gI σ c k
  | 0 => rfl
  | i + 1 => by
    show gI (sI (sI (y8 n v σ i) 74 (n + i) (b8 v i)) 73 1 (nI (n + i + 1))) c k = _
    rw [gI_nk hc, gI_ne hc2]; exact y8_o hc hc2 i
theorem y7_c {j : Nat} : ∀ i, gI (y7 n v σ i) 2 j = if n ≤ j ∧ j < n + i then b7 v (j - n) else gI σ 2 j
  | 0 => (if_neg (by omega)).symm
  | i + 1 => by
    show gI (sI (sI (y7 n v σ i) 2 (n + i) (b7 v i)) 1 1 (nI (n + i + 1))) 2 j = _
    rw [gI_ne (by omega)]
    by_cases h : j = n + i
    · subst h; rw [gI_eq, if_pos (by omega), show n + i - n = i by omega]
    · rw [gI_nk (by omega), y7_c i]
      by_cases h2 : n ≤ j ∧ j < n + i
      · rw [if_pos h2, if_pos (by omega)]
      · rw [if_neg h2, if_neg (by omega)]
theorem y8_c {j : Nat} : ∀ i, gI (y8 n v σ i) 74 j = if n ≤ j ∧ j < n + i then b8 v (j - n) else gI σ 74 j
  | 0 => (if_neg (by omega)).symm
  | i + 1 => by
    show gI (sI (sI (y8 n v σ i) 74 (n + i) (b8 v i)) 73 1 (nI (n + i + 1))) 74 j = _
    rw [gI_ne (by omega)]
    by_cases h : j = n + i
    · subst h; rw [gI_eq, if_pos (by omega), show n + i - n = i by omega]
    · rw [gI_nk (by omega), y8_c i]
      by_cases h2 : n ≤ j ∧ j < n + i
      · rw [if_pos h2, if_pos (by omega)]
      · rw [if_neg h2, if_neg (by omega)]
theorem put4 (h : gI σ 1 1 = nI n) (hn : n + 4 ≤ 480) : fX7_putOnTape σ v = some (y7 n v σ 4) := by
  unfold fX7_putOnTape X7_putOnTape_L3
  refine lp_2 x7 (y7 n v σ) 4 _ (fun i hi rec => ?_) (fun rec => ?_) fuel (fuel_gt (by decide))
  · rw [if_neg (x7_pos i hi), y7_1 h, if_neg (by show ¬ nI 480 ≤ nI (n + i); exact nI_ge (by omega) (by decide)), grd_eq _ (inb_nI (by omega) (by decide)), vthen_eq, vthen_eq, nI_clamp (by omega), gI_ne (c' := 1) (by omega), y7_1 h, nI_1, x7_s i hi]
    rfl
  · rw [if_pos (by decide +kernel)]
theorem typed4 (h : gI σ 73 1 = nI n) (hn : n + 4 ≤ 480) : fX8_typed4 σ v = some (y8 n v σ 4) := by
  unfold fX8_typed4 X8_typed4_L2
  refine lp_2 x8 (y8 n v σ) 4 _ (fun i hi rec => ?_) (fun rec => ?_) fuel (fuel_gt (by decide))
  · rw [if_neg (x8_pos i hi), y8_1 h, grd_eq _ (inb_nI (by omega) (by decide)), vthen_eq, vthen_eq, nI_clamp (by omega), gI_ne (c' := 73) (by omega), y8_1 h, nI_1, x8_s i hi]
    rfl
  · rw [if_pos (by decide +kernel)]
end FEED
theorem y7_R (n : Nat) (v : Int32) (σ : SS) : ∀ i, gR (y7 n v σ i) = gR σ
  | 0 => rfl
  | i + 1 => y7_R n v σ i
theorem y8_R (n : Nat) (v : Int32) (σ : SS) : ∀ i, gR (y8 n v σ i) = gR σ
  | 0 => rfl
  | i + 1 => y8_R n v σ i
def z7 (n : Nat) (a : Nat → Int32) (σ : SS) : SS := y7 (n + 16) (a 5) (y7 (n + 12) (a 4) (y7 (n + 8) (a 3) (y7 (n + 4) (a 2) (y7 n (a 1) σ 4) 4) 4) 4) 4
def z8 (n : Nat) (a : Nat → Int32) (σ : SS) : SS := y8 (n + 16) (a 5) (y8 (n + 12) (a 4) (y8 (n + 8) (a 3) (y8 (n + 4) (a 2) (y8 n (a 1) σ 4) 4) 4) 4) 4
theorem op0 : ∀ a σ, Rel σ → st0 Rel a σ := by
  intro a σ ⟨s, f, h⟩
  obtain ⟨hs, hf, hR1, -⟩ := id h.1
  obtain ⟨n, hn, t1, t2, ht⟩ := h.2.1
  by_cases hc : n + 20 ≤ 480
  · have c1 : nI n + 20 ≤ 480 := by
      rw [show nI n + 20 = nI (n + 20) from nI_add n 20]
      show nI (n + 20) ≤ nI 480
      exact nI_le hc (by decide)
    have k1 : gI (y7 n (a 1) σ 4) 1 1 = nI (n + 4) := y7_1 t1 4
    have k2 : gI (y7 (n + 4) (a 2) (y7 n (a 1) σ 4) 4) 1 1 = nI (n + 8) := y7_1 k1 4
    have k3 : gI (y7 (n + 8) (a 3) (y7 (n + 4) (a 2) (y7 n (a 1) σ 4) 4) 4) 1 1 = nI (n + 12) := y7_1 k2 4
    have k4 : gI (y7 (n + 12) (a 4) (y7 (n + 8) (a 3) (y7 (n + 4) (a 2) (y7 n (a 1) σ 4) 4) 4) 4) 1 1 = nI (n + 16) := y7_1 k3 4
    have k5 : gI (z7 n a σ) 1 1 = nI (n + 20) := y7_1 k4 4
    have o7 : ∀ c k, ¬ (c = 1 ∧ k = 1) → c ≠ 2 → gI (z7 n a σ) c k = gI σ c k := fun c k q1 q2 => by
      unfold z7; rw [y7_o q1 q2, y7_o q1 q2, y7_o q1 q2, y7_o q1 q2, y7_o q1 q2]
    have l0 : gI (z7 n a σ) 73 1 = nI n := by rw [o7 _ _ (by omega) (by omega)]; exact t2
    have l1 : gI (y8 n (a 1) (z7 n a σ) 4) 73 1 = nI (n + 4) := y8_1 l0 4
    have l2 : gI (y8 (n + 4) (a 2) (y8 n (a 1) (z7 n a σ) 4) 4) 73 1 = nI (n + 8) := y8_1 l1 4
    have l3 : gI (y8 (n + 8) (a 3) (y8 (n + 4) (a 2) (y8 n (a 1) (z7 n a σ) 4) 4) 4) 73 1 = nI (n + 12) := y8_1 l2 4
    have l4 : gI (y8 (n + 12) (a 4) (y8 (n + 8) (a 3) (y8 (n + 4) (a 2) (y8 n (a 1) (z7 n a σ) 4) 4) 4) 4) 73 1 = nI (n + 16) := y8_1 l3 4
    have l5 : gI (z8 n a (z7 n a σ)) 73 1 = nI (n + 20) := y8_1 l4 4
    have o8 : ∀ c k, ¬ (c = 73 ∧ k = 1) → c ≠ 74 → gI (z8 n a (z7 n a σ)) c k = gI (z7 n a σ) c k := fun c k q1 q2 => by
      unfold z8; rw [y8_o q1 q2, y8_o q1 q2, y8_o q1 q2, y8_o q1 q2, y8_o q1 q2]
    refine ⟨nI (n + 20), z7 n a σ, z8 n a (z7 n a σ), ?_, ?_, s, f, ?_⟩
    · unfold fX7_feed
      rw [t1, if_pos c1, bnd1_of _ (put4 t1 (by omega)), bnd1_of _ (put4 k1 (by omega)), bnd1_of _ (put4 k2 (by omega)), bnd1_of _ (put4 k3 (by omega)), bnd1_of _ (put4 k4 (by omega))]
      show some (gI (z7 n a σ) 1 1, z7 n a σ) = _
      rw [k5]
    · unfold fX8_feed
      rw [l0, if_pos c1, bnd1_of _ (typed4 l0 (by omega)), bnd1_of _ (typed4 l1 (by omega)), bnd1_of _ (typed4 l2 (by omega)), bnd1_of _ (typed4 l3 (by omega)), bnd1_of _ (typed4 l4 (by omega))]
      show some (gI (z8 n a (z7 n a σ)) 73 1, z8 n a (z7 n a σ)) = _
      rw [l5]
    · refine h.of ?hR ?h1 ?h2 ?h3 ?h4 ?h5 ?h6 ?h7 ?h8 ?h9
      case hR => unfold z8 z7; rw [y8_R, y8_R, y8_R, y8_R, y8_R, y7_R, y7_R, y7_R, y7_R, y7_R]
      case h1 =>
        refine Or.inl ⟨n + 20, hc, ?_, l5, fun j hj => ?_⟩
        · rw [o8 _ _ (by omega) (by omega)]; exact k5
        · rw [o8 2 _ (by omega) (by omega)]
          unfold z8
          rw [y8_c, y8_c, y8_c, y8_c, y8_c, o7 74 _ (by omega) (by omega)]
          unfold z7
          rw [y7_c, y7_c, y7_c, y7_c, y7_c]
          by_cases q5 : n + 16 ≤ j ∧ j < n + 16 + 4
          · rw [if_pos q5, if_pos q5]; exact b78 _ _ (by omega)
          rw [if_neg q5, if_neg q5]
          by_cases q4 : n + 12 ≤ j ∧ j < n + 12 + 4
          · rw [if_pos q4, if_pos q4]; exact b78 _ _ (by omega)
          rw [if_neg q4, if_neg q4]
          by_cases q3 : n + 8 ≤ j ∧ j < n + 8 + 4
          · rw [if_pos q3, if_pos q3]; exact b78 _ _ (by omega)
          rw [if_neg q3, if_neg q3]
          by_cases q2 : n + 4 ≤ j ∧ j < n + 4 + 4
          · rw [if_pos q2, if_pos q2]; exact b78 _ _ (by omega)
          rw [if_neg q2, if_neg q2]
          by_cases q1 : n ≤ j ∧ j < n + 4
          · rw [if_pos q1, if_pos q1]; exact b78 _ _ (by omega)
          rw [if_neg q1, if_neg q1]
          exact ht j (by omega)
      all_goals exact Or.inr fun c k hp => by rw [o8 _ _ (by omega) (by omega), o7 _ _ (by omega) (by omega)]
  · have c1 : ¬ nI n + 20 ≤ 480 := by
      rw [show nI n + 20 = nI (n + 20) from nI_add n 20]
      show ¬ nI (n + 20) ≤ nI 480
      exact nI_ge (by omega) (by omega)
    refine ⟨-1, σ, σ, ?_, ?_, s, f, h⟩
    · unfold fX7_feed
      rw [t1, if_neg c1]
    · unfold fX8_feed
      rw [t2, if_neg c1]
