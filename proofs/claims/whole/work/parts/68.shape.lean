/-! Shape kept: signs and areas in long. -/
theorem l_mul (x y : Int) : Int64.ofInt x * Int64.ofInt y = Int64.ofInt (x * y) := (Int64.ofInt_mul x y).symm
theorem l_add (x y : Int) : Int64.ofInt x + Int64.ofInt y = Int64.ofInt (x + y) := (Int64.ofInt_add x y).symm
theorem l_sub (x y : Int) : Int64.ofInt x - Int64.ofInt y = Int64.ofInt (x - y) := (Int64.ofInt_sub x y).symm
theorem l_val {n : Int} (h : n.natAbs ≤ 9000000000000000000) : (Int64.ofInt n).toInt = n := Int64.toInt_ofInt_of_le (by omega) (by omega)
theorem l_nat (n : Nat) : lN n = Int64.ofInt n := rfl
theorem cmp_le (x y : Int64) : (lg_cmp x y ≤ 0) = (x.toInt ≤ y.toInt) := by rw [lg_cmp_le]; exact propext Int64.le_iff_toInt_le
theorem cmp_ge (x y : Int64) : (0 ≤ lg_cmp x y) = (y.toInt ≤ x.toInt) := by
  have h : (0 ≤ lg_cmp x y) ↔ ¬ lg_cmp x y < 0 := Int32.not_lt.symm
  rw [h, lg_cmp_lt]
  exact propext ⟨fun q => by rw [Int64.lt_iff_toInt_lt] at q; omega, fun q => by rw [Int64.lt_iff_toInt_lt]; omega⟩
theorem cmp0 {n : Int} (h : n.natAbs ≤ 9000000000000000000) : (lg_cmp (Int64.ofInt n) 0 ≤ 0 ↔ n ≤ 0) ∧ (0 ≤ lg_cmp (Int64.ofInt n) 0 ↔ 0 ≤ n) := by
  have z : (0 : Int64).toInt = 0 := rfl
  have e1 := cmp_le (Int64.ofInt n) 0
  have e2 := cmp_ge (Int64.ofInt n) 0
  rw [l_val h, z] at e1 e2
  exact ⟨by rw [e1], by rw [e2]⟩
def sg (n : Int) : Int32 := if n ≤ 0 then (if 0 ≤ n then 0 else -1) else 1
section SHAPE
variable {X Y S : Nat → Nat} {r : SS}
/-- which way it turns at three marks -/
def sdI (X Y S : Nat → Nat) (a b c : Nat) : Int := ((S c : Int) * (((X a * Y b : Nat) : Int) - ((X b * Y a : Nat) : Int)) + (S a : Int) * (((X b * Y c : Nat) : Int) - ((X c * Y b : Nat) : Int))) + (S b : Int) * (((X c * Y a : Nat) : Int) - ((X a * Y c : Nat) : Int))
theorem pr_le {p q : Nat} (hp : p ≤ 64000) (hq : q ≤ 64000) : p * q ≤ 4096000000 := Nat.mul_le_mul hp hq
theorem mul_abs {s : Nat} {d : Int} {M K : Nat} (hs : s ≤ M) (hd : d.natAbs ≤ K) : ((s : Int) * d).natAbs ≤ M * K := by
  rw [Int.natAbs_mul]
  exact Nat.mul_le_mul (by omega) hd
theorem sdI_b (hX : ∀ k, k < 4 → X k ≤ 64000 ∧ Y k ≤ 64000) (hS : ∀ k, k < 4 → 1 ≤ S k ∧ S k ≤ 1600) {a b c : Nat} (ha : a < 4) (hb : b < 4) (hc : c < 4) : (sdI X Y S a b c).natAbs ≤ 19660800000000 := by
  have d : ∀ i j, i < 4 → j < 4 → (((X i * Y j : Nat) : Int) - ((X j * Y i : Nat) : Int)).natAbs ≤ 4096000000 := fun i j hi hj => by
    have h1 := pr_le (hX i hi).1 (hX j hj).2
    have h2 := pr_le (hX j hj).1 (hX i hi).2
    generalize X i * Y j = p at *
    generalize X j * Y i = q at *
    omega
  have t1 := mul_abs (hS c hc).2 (d a b ha hb)
  have t2 := mul_abs (hS a ha).2 (d b c hb hc)
  have t3 := mul_abs (hS b hb).2 (d c a hc ha)
  unfold sdI
  generalize (S c : Int) * (((X a * Y b : Nat) : Int) - ((X b * Y a : Nat) : Int)) = p at *
  generalize (S a : Int) * (((X b * Y c : Nat) : Int) - ((X c * Y b : Nat) : Int)) = q at *
  generalize (S b : Int) * (((X c * Y a : Nat) : Int) - ((X a * Y c : Nat) : Int)) = t at *
  omega
theorem side7 (h : ∀ k, k < 4 → gL r 46 k = lN (X k) ∧ gL r 47 k = lN (Y k) ∧ gL r 48 k = lN (S k)) {a b c : Nat} (ha : a < 4) (hb : b < 4) (hc : c < 4) : fX5_sideOf r (nI a) (nI b) (nI c) = some (Int64.ofInt (sdI X Y S a b c)) := by
  unfold fX5_sideOf sdI
  rw [grd_eq _ (inb_nI hc (by decide)), grd_eq _ (inb_nI ha (by decide)), grd_eq _ (inb_nI hb (by decide)), nI_clamp (by omega), nI_clamp (by omega), nI_clamp (by omega), (h a ha).1, (h b hb).1, (h c hc).1, (h a ha).2.1, (h b hb).2.1, (h c hc).2.1, (h a ha).2.2, (h b hb).2.2, (h c hc).2.2]
  simp only [l_nat, l_mul, l_sub, l_add, Int.natCast_mul]
theorem turn8_at (h : ∀ k, k < 4 → gL r 103 k = lN (X k) ∧ gL r 104 k = lN (Y k) ∧ gL r 105 k = lN (S k)) (hX : ∀ k, k < 4 → X k ≤ 64000 ∧ Y k ≤ 64000) (hS : ∀ k, k < 4 → 1 ≤ S k ∧ S k ≤ 1600) {a b c : Nat} (ha : a < 4) (hb : b < 4) (hc : c < 4) : fX8_turnAt r (nI a) (nI b) (nI c) = some (sg (sdI X Y S a b c)) := by
  have hI := sdI_b hX hS ha hb hc
  have hJ := mul_abs (hS b hb).2 hI
  have e : ((X b : Int) * (S a : Int) - (X a : Int) * (S b : Int)) * ((Y c : Int) * (S b : Int) - (Y b : Int) * (S c : Int)) - ((Y b : Int) * (S a : Int) - (Y a : Int) * (S b : Int)) * ((X c : Int) * (S b : Int) - (X b : Int) * (S c : Int)) = (S b : Int) * sdI X Y S a b c := by
    unfold sdI
    simp only [Int.natCast_mul]
    grind
  have sb := (hS b hb).1
  unfold fX8_turnAt
  simp only [vthen_q]
  rw [grd_eq _ (inb_nI hb (by decide)), grd_eq _ (inb_nI ha (by decide)), grd_eq _ (inb_nI hc (by decide)), nI_clamp (by omega), nI_clamp (by omega), nI_clamp (by omega), (h a ha).1, (h b hb).1, (h c hc).1, (h a ha).2.1, (h b hb).2.1, (h c hc).2.1, (h a ha).2.2, (h b hb).2.2, (h c hc).2.2]
  simp only [l_nat, l_mul, l_sub, l_add]
  rw [e]
  obtain ⟨q1, q2⟩ := cmp0 (n := (S b : Int) * sdI X Y S a b c) (by omega)
  unfold sg
  by_cases c1 : sdI X Y S a b c ≤ 0
  · have j1 : (S b : Int) * sdI X Y S a b c ≤ 0 := Int.mul_nonpos_of_nonneg_of_nonpos (by omega) c1
    rw [if_pos (q1.mpr j1), if_pos c1]
    by_cases c2 : 0 ≤ sdI X Y S a b c
    · have j2 : 0 ≤ (S b : Int) * sdI X Y S a b c := Int.mul_nonneg (by omega) c2
      rw [if_pos (q2.mpr j2), if_pos c2]
    · have j2 : (S b : Int) * sdI X Y S a b c < 0 := Int.mul_neg_of_pos_of_neg (by omega) (by omega)
      rw [if_neg (fun k => by have := q2.mp k; omega), if_neg c2]
  · have j1 : 0 < (S b : Int) * sdI X Y S a b c := Int.mul_pos (by omega) (by omega)
    rw [if_neg (fun k => by have := q1.mp k; omega), if_neg c1]
end SHAPE
