/-! Form kept: what a box would lie over. -/
section ABS
theorem subI {u v : Nat} (hu : u ≤ 1000) (hv : v ≤ 1000) : (nI u - nI v).toInt = (u : Int) - v := by
  rw [Int32.toInt_sub, nI_toInt (by omega), nI_toInt (by omega)]
  simp only [Int.bmod]
  split <;> omega
theorem absd {u v A : Nat} (σ : SS) (hu : u ≤ 1000) (hv : v ≤ 1000) (hA : A ≤ 1000) : (nI A ≤ fJ9_abs_0f7a4 σ (nI u - nI v)) ↔ ¬ (v < u + A ∧ u < v + A) := by
  have e := subI hu hv
  have e2 : (0 - (nI u - nI v)).toInt = (v : Int) - u := by
    have z : (0 : Int32).toInt = 0 := rfl
    rw [Int32.toInt_sub, e, z]
    simp only [Int.bmod]
    split <;> omega
  have z : (0 : Int32).toInt = 0 := rfl
  unfold fJ9_abs_0f7a4
  by_cases c : (0 : Int32) ≤ nI u - nI v
  · rw [if_pos c, le_i, nI_toInt (by omega), e]
    rw [le_i, z, e] at c
    omega
  · rw [if_neg c, le_i, nI_toInt (by omega), e2]
    rw [le_i, z, e] at c
    omega
end ABS
/-- a box at (x, y) lies over the k-th one -/
def cv (X Y : Nat → Nat) (A B x y k : Nat) : Prop := (x < X k + A ∧ X k < x + A) ∧ y < Y k + B ∧ Y k < y + B
section COVER
variable {g K A B x y : Nat} {a : SS} {X Y : Nat → Nat}
theorem cov7 (hK : K ≤ 72) (hA : A ≤ 6) (hB : B ≤ 6) (hx : x ≤ 999) (hy : y ≤ 999) (h6 : gI a g 6 = nI K) (h3 : gI a g 3 = nI A) (h4 : gI a g 4 = nI B) (hX : ∀ k, k < K → (gI a (g + 6) k = nI (X k) ∧ X k ≤ 40) ∧ gI a (g + 7) k = nI (Y k) ∧ Y k ≤ 40) : ∃ r, fX1_isCovered a g (nI x) (nI y) = some r ∧ (r = true ↔ ∃ k, k < K ∧ cv X Y A B x y k) := by
  show WP (fX1_isCovered a g (nI x) (nI y)) (fun r => r = true ↔ ∃ k, k < K ∧ cv X Y A B x y k)
  unfold fX1_isCovered X1_isCovered_L2
  refine wf_1 K (fun i v => v = nI i ∧ ∀ k, k < i → ¬ cv X Y A B x y k) ⟨rfl, fun k hk => absurd hk (by omega)⟩ (by omega) ?_ ?_
  · rintro i _ rec hi ⟨rfl, ho⟩ hr
    obtain ⟨⟨p1, p2⟩, p3, p4⟩ := hX i hi
    rw [h6, if_neg (nI_ge hi (by omega)), nI_clamp (by omega), h3, h4, p1, p3, nI_1]
    have c1 := absd (u := X i) (v := x) (A := A) a (by omega) (by omega) (by omega)
    have c2 := absd (u := Y i) (v := y) (A := B) a (by omega) (by omega) (by omega)
    have go : ¬ cv X Y A B x y i → WP (rec (nI (i + 1))) (fun r => r = true ↔ ∃ k, k < K ∧ cv X Y A B x y k) := fun hn => hr _ ⟨rfl, fun k hk => by
      by_cases e : k = i
      · rw [e]; exact hn
      · exact ho k (by omega)⟩
    refine wp_grd (inb_nI (by omega) (by decide)) (wp_if (fun d => go fun h => (c1.mp d) h.1) fun d => wp_if (fun d2 => go fun h => (c2.mp d2) h.2) fun d2 => wp_some ⟨fun _ => ⟨i, hi, Classical.byContradiction fun q => d (c1.mpr q), Classical.byContradiction fun q => d2 (c2.mpr q)⟩, fun _ => rfl⟩)
  · rintro _ rec ⟨rfl, ho⟩
    rw [h6, if_pos (nI_le (Nat.le_refl _) (by omega))]
    exact wp_some ⟨fun h => absurd h (by decide), fun ⟨k, hk, hc⟩ => absurd hc (ho k hk)⟩
theorem over8 {b : SS} {bb q : Nat} {N : Nat → Nat} (hb : bb < 2) (hq : q < 12) (hA : A ≤ 6) (hB : B ≤ 6) (hx : x ≤ 999) (hy : y ≤ 999) (h11 : gI b 73 11 = nI bb) (h2 : gI b 75 (5 * bb + 2) = nI A) (h3 : gI b 75 (5 * bb + 3) = nI B) (hN : ∀ p, p ≤ q → N p ≤ 6 ∧ gI b 77 (12 * bb + p) = nI (N p) ∧ ∀ i, i < N p → (gI b 80 (6 * (12 * bb + p) + i) = nI (X (psum N p + i)) ∧ X (psum N p + i) ≤ 40) ∧ gI b 81 (6 * (12 * bb + p) + i) = nI (Y (psum N p + i)) ∧ Y (psum N p + i) ≤ 40) : ∃ r, fX8_isOver b (nI q) (nI x) (nI y) = some r ∧ (r = true ↔ ∃ p i, p ≤ q ∧ i < N p ∧ cv X Y A B x y (psum N p + i)) := by
  show WP (fX8_isOver b (nI q) (nI x) (nI y)) (fun r => r = true ↔ ∃ p i, p ≤ q ∧ i < N p ∧ cv X Y A B x y (psum N p + i))
  have e2 : (5 : Int32) * nI bb + 2 = nI (5 * bb + 2) := by rw [show (5 : Int32) = nI 5 from rfl, nI_mul]; exact nI_add (5 * bb) 2
  have e3 : (5 : Int32) * nI bb + 3 = nI (5 * bb + 3) := by rw [show (5 : Int32) = nI 5 from rfl, nI_mul]; exact nI_add (5 * bb) 3
  unfold fX8_isOver
  rw [h11, e2, e3, nI_clamp (by omega), nI_clamp (by omega), h2, h3]
  refine wp_grd (inb_nI (by omega) (by decide)) (wp_v (wp_grd (inb_nI (by omega) (by decide)) (wp_v ?_)))
  unfold X8_isOver_L33
  refine wf_1 (q + 1) (fun p v => v = nI p ∧ ∀ p', p' < p → ∀ i, i < N p' → ¬ cv X Y A B x y (psum N p' + i)) ⟨rfl, fun p' hp => absurd hp (by omega)⟩ (by omega) ?_ ?_
  · rintro p _ rec hp ⟨rfl, ho⟩ hr
    obtain ⟨n1, n2, n3⟩ := hN p (by omega)
    have e12 : (12 : Int32) * nI bb + nI p = nI (12 * bb + p) := by rw [show (12 : Int32) = nI 12 from rfl, nI_mul, nI_add]
    rw [if_neg (fun k => by have := nI_ltN k (by omega) (by omega); omega), nI_1]
    unfold X8_isOver_L42
    refine wf_1 (N p) (fun i v => v = nI i ∧ ∀ j, j < i → ¬ cv X Y A B x y (psum N p + j)) ⟨rfl, fun j hj => absurd hj (by omega)⟩ (by omega) ?_ ?_
    · rintro i _ rec2 hi ⟨rfl, ho2⟩ hr2
      obtain ⟨⟨x1, x2⟩, y1, y2⟩ := n3 i hi
      have e6 : (6 : Int32) * nI (12 * bb + p) + nI i = nI (6 * (12 * bb + p) + i) := by rw [show (6 : Int32) = nI 6 from rfl, nI_mul, nI_add]
      rw [h11, e12, nI_clamp (by omega), n2, if_neg (nI_ge hi (by omega)), e6, nI_1]
      have go : ¬ cv X Y A B x y (psum N p + i) → WP (rec2 (nI (i + 1))) (fun r => r = true ↔ ∃ p i, p ≤ q ∧ i < N p ∧ cv X Y A B x y (psum N p + i)) := fun hn => hr2 _ ⟨rfl, fun k hk => by
        by_cases e : k = i
        · rw [e]; exact hn
        · exact ho2 k (by omega)⟩
      refine wp_grd (inb_nI (by omega) (by decide)) (wp_v (wp_grd (inb_nI (by omega) (by decide)) ?_))
      rw [nI_clamp (by omega), x1, y1, nI_add, nI_add, nI_add, nI_add]
      refine wp_if (fun d => go fun h => ?_) fun d => wp_if (fun d2 => go fun h => ?_) fun d2 => wp_if (fun d3 => go fun h => ?_) fun d3 => wp_if (fun d4 => go fun h => ?_) fun d4 => wp_some ⟨fun _ => ⟨p, i, by omega, hi, ?_⟩, fun _ => rfl⟩
      · rw [nI_leI (by omega) (by omega)] at d; unfold cv at h; omega
      · rw [nI_leI (by omega) (by omega)] at d2; unfold cv at h; omega
      · rw [nI_leI (by omega) (by omega)] at d3; unfold cv at h; omega
      · rw [nI_leI (by omega) (by omega)] at d4; unfold cv at h; omega
      · rw [nI_leI (by omega) (by omega)] at d d2 d3 d4; unfold cv; omega
    · rintro _ rec2 ⟨rfl, ho2⟩
      rw [h11, e12, nI_clamp (by omega), n2, if_pos (nI_le (Nat.le_refl _) (by omega))]
      refine wp_grd (inb_nI (by omega) (by decide)) (hr _ ⟨rfl, fun p' hp' i hi => ?_⟩)
      by_cases e : p' = p
      · subst e; exact ho2 i hi
      · exact ho p' (by omega) i hi
  · rintro _ rec ⟨rfl, ho⟩
    rw [if_pos (nI_lt (by omega) (by omega))]
    exact wp_some ⟨fun h => absurd h (by decide), fun ⟨p, i, h1, h2, h3⟩ => absurd h3 (ho p (by omega) i h2)⟩
end COVER
