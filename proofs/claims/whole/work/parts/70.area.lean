/-! Shape kept: area, slope, and all. -/
section SHAPE9
variable {X Y S : Nat → Nat} {r : SS}
def qT (X Y S : Nat → Nat) (k : Nat) : Int64 := (((lN (X (cyc k)) * lN (Y (cyc ((k + 1) % 4)))) - (lN (X (cyc ((k + 1) % 4))) * lN (Y (cyc k)))) * lN (S (cyc ((k + 2) % 4)))) * lN (S (cyc ((k + 3) % 4)))
def arS (X Y S : Nat → Nat) : Nat → Int64 := itr (fun k n => n + qT X Y S k) 0
theorem den_b (hS : ∀ k, k < 4 → 1 ≤ S k ∧ S k ≤ 1600) : 1 ≤ 2 * S 0 * S 1 * S 2 * S 3 ∧ 2 * S 0 * S 1 * S 2 * S 3 ≤ 2 * 1600 * 1600 * 1600 * 1600 := by
  obtain ⟨a1, a2⟩ := hS 0 (by omega)
  obtain ⟨b1, b2⟩ := hS 1 (by omega)
  obtain ⟨c1, c2⟩ := hS 2 (by omega)
  obtain ⟨d1, d2⟩ := hS 3 (by omega)
  exact ⟨Nat.mul_pos (Nat.mul_pos (Nat.mul_pos (Nat.mul_pos (by omega) a1) b1) c1) d1, Nat.mul_le_mul (Nat.mul_le_mul (Nat.mul_le_mul (Nat.mul_le_mul (Nat.le_refl _) a2) b2) c2) d2⟩
theorem area7 (h : ∀ k, k < 4 → gL r 46 k = lN (X k) ∧ gL r 47 k = lN (Y k) ∧ gL r 48 k = lN (S k)) (hS : ∀ k, k < 4 → 1 ≤ S k ∧ S k ≤ 1600) : fX5_area r = some (Int64.toInt32 (fJ9_abs_067f4 r (arS X Y S 4) / lN (2 * S 0 * S 1 * S 2 * S 3))) := by
  obtain ⟨d1, d2⟩ := den_b hS
  unfold fX5_area X5_area_L4
  refine lp_2 (fun i => arS X Y S i) (fun i => nI i) 4 _ (fun k hk rec => ?_) (fun rec => ?_) fuel (fuel_gt (by omega))
  · obtain ⟨c1, c2, c3, c4, c5⟩ := cyc_r k hk
    obtain ⟨d1, -, -, -, d5⟩ := cyc_r ((k + 1) % 4) (by omega)
    obtain ⟨e1, -, -, -, e5⟩ := cyc_r ((k + 2) % 4) (by omega)
    obtain ⟨f1, -, -, -, f5⟩ := cyc_r ((k + 3) % 4) (by omega)
    rw [if_neg (by show ¬ nI 4 ≤ nI k; exact nI_ge hk (by omega)), c2, c3, c4, c5, d5, e5, f5]
    simp only [vthen_q, grd_eq _ (show inb (nI k) 4 = true from inb_nI hk (by decide)), grd_eq _ (show inb (nI ((k + 1) % 4)) 4 = true from inb_nI (by omega) (by decide)), grd_eq _ (show inb (nI ((k + 2) % 4)) 4 = true from inb_nI (by omega) (by decide)), grd_eq _ (show inb (nI ((k + 3) % 4)) 4 = true from inb_nI (by omega) (by decide)), grd_eq _ (show inb (nI (cyc k)) 4 = true from inb_nI c1 (by decide)), grd_eq _ (show inb (nI (cyc ((k + 1) % 4))) 4 = true from inb_nI d1 (by decide)), grd_eq _ (show inb (nI (cyc ((k + 2) % 4))) 4 = true from inb_nI e1 (by decide)), grd_eq _ (show inb (nI (cyc ((k + 3) % 4))) 4 = true from inb_nI f1 (by decide))]
    rw [nI_clamp (show cyc k < 2 ^ 31 by omega), nI_clamp (show cyc ((k + 1) % 4) < 2 ^ 31 by omega), nI_clamp (show cyc ((k + 2) % 4) < 2 ^ 31 by omega), nI_clamp (show cyc ((k + 3) % 4) < 2 ^ 31 by omega), (h _ c1).1, (h _ c1).2.1, (h _ d1).1, (h _ d1).2.1, (h _ e1).2.2, (h _ f1).2.2, nI_1]
    rfl
  · rw [if_pos (by decide)]
    simp only [vthen_q]
    rw [(h 0 (by omega)).2.2, (h 1 (by omega)).2.2, (h 2 (by omega)).2.2, (h 3 (by omega)).2.2, show (2 : Int64) = lN 2 from rfl, lN_mul, lN_mul, lN_mul, lN_mul, if_neg (lg_pos d1 (by omega)), grd_eq _ (nzl_lN d1 (by omega))]
theorem side8 (h : ∀ k, k < 4 → gL r 103 k = lN (X k) ∧ gL r 104 k = lN (Y k) ∧ gL r 105 k = lN (S k)) {a b c d : Nat} (ha : a < 4) (hb : b < 4) (hc : c < 4) (hd : d < 4) : fX8_side r (nI a) (nI b) (nI c) (nI d) = some ((((lN (X a) * lN (Y b)) - (lN (X b) * lN (Y a))) * lN (S c)) * lN (S d)) := by
  unfold fX8_side
  rw [grd_eq _ (inb_nI ha (by decide)), grd_eq _ (inb_nI hb (by decide)), grd_eq _ (inb_nI hc (by decide)), grd_eq _ (inb_nI hd (by decide)), nI_clamp (by omega), nI_clamp (by omega), nI_clamp (by omega), nI_clamp (by omega), (h a ha).1, (h b hb).1, (h a ha).2.1, (h b hb).2.1, (h c hc).2.2, (h d hd).2.2]
theorem l_swap (x y z : Int64) : x * y * z = x * z * y := by rw [Int64.mul_assoc, Int64.mul_comm y z, ← Int64.mul_assoc]
theorem ar_4 : arS X Y S 4 = (((((lN (X 0) * lN (Y 1)) - (lN (X 1) * lN (Y 0))) * lN (S 2)) * lN (S 3) + (((lN (X 1) * lN (Y 3)) - (lN (X 3) * lN (Y 1))) * lN (S 0)) * lN (S 2)) + (((lN (X 3) * lN (Y 2)) - (lN (X 2) * lN (Y 3))) * lN (S 0)) * lN (S 1)) + (((lN (X 2) * lN (Y 0)) - (lN (X 0) * lN (Y 2))) * lN (S 1)) * lN (S 3) := by
  show ((((0 : Int64) + (((lN (X 0) * lN (Y 1)) - (lN (X 1) * lN (Y 0))) * lN (S 3)) * lN (S 2)) + (((lN (X 1) * lN (Y 3)) - (lN (X 3) * lN (Y 1))) * lN (S 2)) * lN (S 0)) + (((lN (X 3) * lN (Y 2)) - (lN (X 2) * lN (Y 3))) * lN (S 0)) * lN (S 1)) + (((lN (X 2) * lN (Y 0)) - (lN (X 0) * lN (Y 2))) * lN (S 1)) * lN (S 3) = _
  rw [Int64.zero_add, l_swap _ (lN (S 3)) (lN (S 2)), l_swap _ (lN (S 2)) (lN (S 0))]
theorem abs_l (σ : SS) (W : Int64) : fJ9_abs_067f4 σ W = if 0 ≤ lg_cmp W 0 then W else -W := by
  have z : (0 : Int64).toInt = 0 := rfl
  have e := cmp_ge W 0
  unfold fJ9_abs_067f4
  by_cases c : 0 ≤ lg_cmp W 0
  · rw [if_pos c]
    rw [e, z] at c
    by_cases c2 : 0 < W
    · rw [if_pos c2]
    · rw [if_neg c2]
      have : W.toInt = 0 := by
        rw [Int64.lt_iff_toInt_lt, z] at c2; omega
      have : W = 0 := Int64.toInt_inj.mp (this.trans z.symm)
      rw [this]; decide
  · rw [if_neg c]
    rw [e, z] at c
    rw [if_neg fun q => by rw [Int64.lt_iff_toInt_lt, z] at q; omega]
end SHAPE9
