/-! Print kept: the boxes told inked, the class's half. -/
def bqF (w q : Nat) (v : Int32) (X Y S : Nat → Nat) (U2 V2 A B : Nat) (T : Nat → Int32) (cx cy N : Nat → Nat) (p : Nat) (G : Nat → Nat → Int32) (n : Nat) : Nat → Nat → Int32 := itr (fun i G => if ((T p >>> (nI i &&& 31)) &&& (1 : Int32)) = (1 : Int32) then bxF w q v X Y S U2 V2 A (cx (psum N p + i)) (cy (psum N p + i)) G B else G) G n
def alF (w q : Nat) (v : Int32) (X Y S : Nat → Nat) (U2 V2 A B : Nat) (T : Nat → Int32) (cx cy N : Nat → Nat) (G : Nat → Nat → Int32) (n : Nat) : Nat → Nat → Int32 := itr (fun p G => bqF w q v X Y S U2 V2 A B T cx cy N p G (N p)) G n
theorem Pl.A {X Y S : Nat → Nat} {A B c : Nat} {τ : SS} (h : Pl X Y S A B τ) (hc : c ≠ 45) (d : Nat → Int32) : Pl X Y S A B (sA τ c d) := by
  obtain ⟨h1, h2, h3, h4⟩ := h
  exact ⟨h1, h2, by rw [gI_A_ne (by omega)]; exact h3, by rw [gI_A_ne (by omega)]; exact h4⟩
theorem ticks7 {τ : SS} {s f w q U V A B Q : Nat} {v : Int32} {T : Nat → Int32} {N cx cy X Y S : Nat → Nat} {G : Nat → Nat → Int32} (hs : s = 3 ∨ s = 6) (hf : f = 10 ∨ f = 18) (hw : w ≤ 40) (hq : q ≤ 40) (hU : 1 ≤ U ∧ U ≤ 40) (hV : 1 ≤ V ∧ V ≤ 40) (hQ : Q ≤ 12) (hT : psum N Q ≤ 72) (r2 : gR τ 1 2 = s) (r5 : gR τ 1 5 = f) (e1 : gI τ s 0 = nI w) (e2 : gI τ s 1 = nI q) (g3 : gI τ f 3 = nI A) (g4 : gI τ f 4 = nI B) (g5 : gI τ f 5 = nI Q) (hN : ∀ p, p < Q → N p ≤ 6 ∧ gI τ (f + 2) p = nI (psum N p) ∧ gI τ (f + 3) p = nI (N p) ∧ gI τ 30 p = T p) (hc : ∀ k, k < psum N Q → (gI τ (f + 6) k = nI (cx k) ∧ cx k + A ≤ U) ∧ (gI τ (f + 7) k = nI (cy k) ∧ cy k + B ≤ V)) (hS : ∀ k, k < 4 → 1 ≤ S k ∧ S k ≤ 1600) (hPl : Pl X Y S (2 * U) (2 * V) τ) (hG : Vis (gI τ (s + 1)) w q G fun _ _ => True) : WP (X7_print_L164 v fuel (0 : Int32) τ) (fun r => ∃ d, r = (itr (fun i n => if d i < 1 then n else n + 1) 0 (w * q), sA τ (s + 1) d) ∧ Vis d w q (alF w q v X Y S (2 * U) (2 * V) A B T cx cy N G Q) fun _ _ => True) := by
  have kR : ∀ d, gR (sA τ (s + 1) d) = gR τ := fun d => rfl
  have kI : ∀ d c, c ≠ s + 1 → gI (sA τ (s + 1) d) c = gI τ c := fun d c h => gI_A_ne h
  unfold X7_print_L164
  refine wf_2 Q (fun p c t => c = nI p ∧ ∃ d, t = sA τ (s + 1) d ∧ Vis d w q (alF w q v X Y S (2 * U) (2 * V) A B T cx cy N G p) fun _ _ => True) ⟨rfl, gI τ (s + 1), (sA_self τ (s + 1)).symm, hG⟩ (by omega) ?_ ?_
  · rintro p _ _ rec hp ⟨rfl, d, rfl, hd⟩ hr
    obtain ⟨n1, n2, n3, n4⟩ := hN p hp
    rw [kR, r5, kI d f (by omega), g5, if_neg (nI_ge hp (by omega)), nI_1]
    unfold X7_print_L178
    refine wf_2 (N p) (fun i c t => c = nI i ∧ ∃ d, t = sA τ (s + 1) d ∧ Vis d w q (bqF w q v X Y S (2 * U) (2 * V) A B T cx cy N p (alF w q v X Y S (2 * U) (2 * V) A B T cx cy N G p) i) fun _ _ => True) ⟨rfl, d, rfl, hd⟩ (by omega) ?_ ?_
    · rintro i _ _ rec2 hi ⟨rfl, d2, rfl, hd2⟩ hr2
      have hk := psum_lt hp hi
      have hck := hc _ hk
      rw [kR, r5, kI d2 (f + 3) (by omega), kI d2 (f + 2) (by omega), kI d2 30 (by omega), nI_clamp (by omega), n2, n3, n4, if_neg (nI_ge hi (by omega)), nI_add, nI_1]
      have es : bqF w q v X Y S (2 * U) (2 * V) A B T cx cy N p (alF w q v X Y S (2 * U) (2 * V) A B T cx cy N G p) (i + 1) = if ((T p >>> (nI i &&& 31)) &&& (1 : Int32)) = (1 : Int32) then bxF w q v X Y S (2 * U) (2 * V) A (cx (psum N p + i)) (cy (psum N p + i)) (bqF w q v X Y S (2 * U) (2 * V) A B T cx cy N p (alF w q v X Y S (2 * U) (2 * V) A B T cx cy N G p) i) B else bqF w q v X Y S (2 * U) (2 * V) A B T cx cy N p (alF w q v X Y S (2 * U) (2 * V) A B T cx cy N G p) i := rfl
      refine wp_grd (inb_nI (by omega) (by decide)) (wp_if (fun ht => ?_) fun ht => ?_)
      · refine wp_bnd1 (ink7 (τ := sA τ (s + 1) d2) (U := U) (V := V) (A := A) (B := B) (bx := cx (psum N p + i)) (by' := cy (psum N p + i)) (v := v) hs hf hw hq hU hV (by omega) r2 r5 (by rw [kI d2 s (by omega)]; exact e1) (by rw [kI d2 s (by omega)]; exact e2) (by rw [kI d2 f (by omega)]; exact g3) (by rw [kI d2 f (by omega)]; exact g4) (by rw [kI d2 (f + 6) (by omega)]; exact hck.1.1) (by rw [kI d2 (f + 7) (by omega)]; exact hck.2.1) hck.1.2 hck.2.2 hS (fun d' => by rw [sA_sA]; exact hPl.A (by omega) d') (by rw [gI_A]; exact hd2)) ?_
        rintro _ ⟨d3, rfl, hd3⟩
        rw [sA_sA]
        refine hr2 _ _ ⟨rfl, d3, rfl, ?_⟩
        rw [es, if_pos ht]; exact hd3
      · refine hr2 _ _ ⟨rfl, d2, rfl, ?_⟩
        rw [es, if_neg ht]; exact hd2
    · rintro _ _ rec2 ⟨rfl, d2, rfl, hd2⟩
      rw [kR, r5, kI d2 (f + 3) (by omega), nI_clamp (by omega), n3]
      refine wp_grd (inb_nI (by omega) (by decide)) ?_
      rw [if_pos (nI_le (Nat.le_refl _) (by omega))]
      exact hr _ _ ⟨rfl, d2, rfl, hd2⟩
  · rintro _ _ rec ⟨rfl, d, rfl, hd⟩
    rw [kR, r5, r2, kI d f (by omega), g5, if_pos (nI_le (Nat.le_refl _) (by omega)), bnd1_of _ (notBelow_eq hw hq (by rw [kI d s (by omega)]; exact e1) (by rw [kI d s (by omega)]; exact e2) 1), gI_A]
    exact wp_some ⟨d, rfl, hd⟩
