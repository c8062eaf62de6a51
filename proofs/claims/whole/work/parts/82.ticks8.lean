/-! Print kept: the boxes told inked, the reference's half. -/
theorem hasT (σ : SS) (x y : Int32) : (fX8_has σ x y = true) ↔ ((x >>> (y &&& 31)) &&& (1 : Int32)) = (1 : Int32) := by
  unfold fX8_has
  by_cases c : ((x >>> (y &&& 31)) &&& (1 : Int32)) = (1 : Int32)
  · rw [if_pos c]; exact ⟨fun _ => c, fun _ => rfl⟩
  · rw [if_neg c]; exact ⟨fun h => absurd h (by decide), fun h => absurd h c⟩
theorem ticks8 {τ : SS} {w q U V A B Q b : Nat} {v : Int32} {T : Nat → Int32} {N cx cy X Y S : Nat → Nat} {G : Nat → Nat → Int32} (hw : 1 ≤ w ∧ w ≤ 40) (hq : 1 ≤ q ∧ q ≤ 40) (hU : 1 ≤ U ∧ U ≤ 40) (hV : 1 ≤ V ∧ V ≤ 40) (hQ : Q ≤ 12) (hH : Hd b U V A B Q τ) (e3 : gI τ 73 29 = nI w) (e4 : gI τ 73 30 = nI q) (hL : ∀ k, k < 4 → gL τ 103 k = lN (X k) ∧ gL τ 104 k = lN (Y k) ∧ gL τ 105 k = lN (S k)) (hS : ∀ k, k < 4 → 1 ≤ S k ∧ S k ≤ 1600) (hN : ∀ p, p < Q → N p ≤ 6 ∧ gI τ 77 (12 * b + p) = nI (N p) ∧ gI τ 82 p = T p ∧ ∀ i, i < N p → (gI τ 80 (6 * (12 * b + p) + i) = nI (cx (psum N p + i)) ∧ cx (psum N p + i) + A ≤ U) ∧ (gI τ 81 (6 * (12 * b + p) + i) = nI (cy (psum N p + i)) ∧ cy (psum N p + i) + B ≤ V)) (hG : Vis (gI τ 83) w q G fun _ _ => True) {k227 : SS → Option (Int32 × SS)} {P : Int32 × SS → Prop} (hk : ∀ t, gR t = gR τ → (∀ c k, c ≠ 83 → gI t c k = gI τ c k) → Vis (gI t 83) w q (alF w q v X Y S (2 * U) (2 * V) A B T cx cy N G Q) (fun _ _ => True) → WP (k227 t) P) : WP (X8_print_L176 v k227 fuel (0 : Int32) τ) P := by
  obtain ⟨hb, h12, h11, -⟩ := id hH
  unfold X8_print_L176
  refine wf_2 Q (fun p c t => c = nI p ∧ gR t = gR τ ∧ (∀ c k, c ≠ 83 → gI t c k = gI τ c k) ∧ (∀ c k, c ≠ 73 → gL t c k = gL τ c k) ∧ Vis (gI t 83) w q (alF w q v X Y S (2 * U) (2 * V) A B T cx cy N G p) fun _ _ => True) ⟨rfl, rfl, fun _ _ _ => rfl, fun _ _ _ => rfl, hG⟩ (by omega) ?_ ?_
  · rintro p _ s1 rec hp ⟨rfl, i1, i2, i3, i4⟩ hr
    obtain ⟨n1, n2, n4, n3⟩ := hN p hp
    rw [quest8 (hH.fr (fun k _ => i2 73 k (by omega)) fun k => i2 75 k (by omega)), bnd1_some, if_neg (nI_ge hp (by omega)), nI_1]
    unfold X8_print_L186
    refine wf_2 (N p) (fun i c t => c = nI i ∧ gR t = gR τ ∧ (∀ c k, c ≠ 83 → gI t c k = gI τ c k) ∧ (∀ c k, c ≠ 73 → gL t c k = gL τ c k) ∧ Vis (gI t 83) w q (bqF w q v X Y S (2 * U) (2 * V) A B T cx cy N p (alF w q v X Y S (2 * U) (2 * V) A B T cx cy N G p) i) fun _ _ => True) ⟨rfl, i1, i2, i3, i4⟩ (by omega) ?_ ?_
    · rintro i _ s2 rec2 hi ⟨rfl, l1, l2, l3, l4⟩ hr2
      obtain ⟨⟨x1, x2⟩, x3, x4⟩ := n3 i hi
      rw [boxesOf_eq hb (by rw [l2 _ _ (by omega)]; exact h11) (by omega) (by rw [l2 _ _ (by omega)]; exact n2), bnd1_some, if_neg (nI_ge hi (by omega)), nI_clamp (by omega), l2 82 p (by omega), n4, nI_1]
      have es : bqF w q v X Y S (2 * U) (2 * V) A B T cx cy N p (alF w q v X Y S (2 * U) (2 * V) A B T cx cy N G p) (i + 1) = if ((T p >>> (nI i &&& 31)) &&& (1 : Int32)) = (1 : Int32) then bxF w q v X Y S (2 * U) (2 * V) A (cx (psum N p + i)) (cy (psum N p + i)) (bqF w q v X Y S (2 * U) (2 * V) A B T cx cy N p (alF w q v X Y S (2 * U) (2 * V) A B T cx cy N G p) i) B else bqF w q v X Y S (2 * U) (2 * V) A B T cx cy N p (alF w q v X Y S (2 * U) (2 * V) A B T cx cy N G p) i := rfl
      refine wp_grd (inb_nI (by omega) (by decide)) (wp_if (fun ht => ?_) fun ht => ?_)
      · rw [hasT] at ht
        have hH2 : Hd b U V A B Q s2 := hH.fr (fun k _ => l2 _ _ (by omega)) (fun k => l2 _ _ (by omega))
        refine wp_bnd1 (inks8 (τ := s2) (p := p) (i := i) (bx := cx (psum N p + i)) (by' := cy (psum N p + i)) (v := v) hw hq hU hV (by omega) (by omega) hH2 (by rw [l2 _ _ (by omega)]; exact e3) (by rw [l2 _ _ (by omega)]; exact e4) (fun k hk => by rw [l3 _ _ (by omega), l3 _ _ (by omega), l3 _ _ (by omega)]; exact hL k hk) hS (by rw [l2 _ _ (by omega)]; exact x1) (by rw [l2 _ _ (by omega)]; exact x3) x2 x4 l4) ?_
        rintro t ⟨y1, y2, y3, y4⟩
        refine hr2 _ _ ⟨rfl, y1.trans l1, fun c k hc => (y2 c k hc).trans (l2 c k hc), fun c k hc => (y3 c k hc).trans (l3 c k hc), ?_⟩
        rw [es, if_pos ht]; exact y4
      · rw [hasT] at ht
        refine hr2 _ _ ⟨rfl, l1, l2, l3, ?_⟩
        rw [es, if_neg ht]; exact l4
    · rintro _ s2 rec2 ⟨rfl, l1, l2, l3, l4⟩
      rw [boxesOf_eq hb (by rw [l2 _ _ (by omega)]; exact h11) (by omega) (by rw [l2 _ _ (by omega)]; exact n2), bnd1_some, if_pos (nI_le (Nat.le_refl _) (by omega))]
      exact hr _ _ ⟨rfl, l1, l2, l3, l4⟩
  · rintro _ s1 rec ⟨rfl, i1, i2, i3, i4⟩
    rw [quest8 (hH.fr (fun k _ => i2 73 k (by omega)) fun k => i2 75 k (by omega)), bnd1_some, if_pos (nI_le (Nat.le_refl _) (by omega))]
    exact hk s1 i1 i2 i4
