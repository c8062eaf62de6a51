/-! Print kept: a box inked, the class's loops. -/
/-- a row of a box, a box: its places put one by one -/
def rwF (w q : Nat) (v : Int32) (X Y S : Nat → Nat) (U2 V2 bx y0 : Nat) (G : Nat → Nat → Int32) (n : Nat) : Nat → Nat → Int32 := itr (fun i G => ptF w q v (rdV X S U2 V2 (2 * (bx + i) + 1) (2 * y0 + 1)) (rdV Y S U2 V2 (2 * (bx + i) + 1) (2 * y0 + 1)) G) G n
def bxF (w q : Nat) (v : Int32) (X Y S : Nat → Nat) (U2 V2 A bx by' : Nat) (G : Nat → Nat → Int32) (n : Nat) : Nat → Nat → Int32 := itr (fun j G => rwF w q v X Y S U2 V2 bx (by' + j) G A) G n
theorem ink7 {τ : SS} {s f w q U V A B bx by' k0 : Nat} {v : Int32} {X Y S : Nat → Nat} {G : Nat → Nat → Int32} (hs : s = 3 ∨ s = 6) (hf : f = 10 ∨ f = 18) (hw : w ≤ 40) (hq : q ≤ 40) (hU : 1 ≤ U ∧ U ≤ 40) (hV : 1 ≤ V ∧ V ≤ 40) (hk0 : k0 < 72) (r2 : gR τ 1 2 = s) (r5 : gR τ 1 5 = f) (e1 : gI τ s 0 = nI w) (e2 : gI τ s 1 = nI q) (g3 : gI τ f 3 = nI A) (g4 : gI τ f 4 = nI B) (gx : gI τ (f + 6) k0 = nI bx) (gy : gI τ (f + 7) k0 = nI by') (hx : bx + A ≤ U) (hy : by' + B ≤ V) (hS : ∀ k, k < 4 → 1 ≤ S k ∧ S k ≤ 1600) (hPl : ∀ d, Pl X Y S (2 * U) (2 * V) (sA τ (s + 1) d)) (hG : Vis (gI τ (s + 1)) w q G fun _ _ => True) : WP (fX7_inkBox τ (nI k0) v) (fun r => ∃ d, r = sA τ (s + 1) d ∧ Vis d w q (bxF w q v X Y S (2 * U) (2 * V) A bx by' G B) fun _ _ => True) := by
  have k1 : ∀ d, gI (sA τ (s + 1) d) s 0 = nI w := fun d => by rw [gI_A_ne (by omega)]; exact e1
  have k2 : ∀ d, gI (sA τ (s + 1) d) s 1 = nI q := fun d => by rw [gI_A_ne (by omega)]; exact e2
  have k3 : ∀ d, gI (sA τ (s + 1) d) f 3 = nI A := fun d => by rw [gI_A_ne (by omega)]; exact g3
  have k4 : ∀ d, gI (sA τ (s + 1) d) f 4 = nI B := fun d => by rw [gI_A_ne (by omega)]; exact g4
  have kR : ∀ d, gR (sA τ (s + 1) d) = gR τ := fun d => rfl
  unfold fX7_inkBox
  rw [r5, nI_clamp (by omega), gx, gy, grd_eq _ (inb_nI hk0 (by decide)), vthen_q, vthen_q]
  unfold X7_inkBox_L34
  refine wf_2 B (fun j c t => c = nI (by' + j) ∧ ∃ d, t = sA τ (s + 1) d ∧ Vis d w q (bxF w q v X Y S (2 * U) (2 * V) A bx by' G j) fun _ _ => True) ⟨rfl, gI τ (s + 1), (sA_self τ (s + 1)).symm, hG⟩ (by omega) ?_ ?_
  · rintro j _ _ rec hj ⟨rfl, d, rfl, hd⟩ hr
    rw [kR, r5, k4, nI_add, if_neg (nI_ge (by omega) (by omega))]
    unfold X7_inkBox_L53
    refine wf_2 A (fun i c t => c = nI (bx + i) ∧ ∃ d, t = sA τ (s + 1) d ∧ Vis d w q (rwF w q v X Y S (2 * U) (2 * V) bx (by' + j) (bxF w q v X Y S (2 * U) (2 * V) A bx by' G j) i) fun _ _ => True) ⟨rfl, d, rfl, hd⟩ (by omega) ?_ ?_
    · rintro i _ _ rec2 hi ⟨rfl, d2, rfl, hd2⟩ hr2
      have t1 : (2 : Int32) * nI (bx + i) + 1 = nI (2 * (bx + i) + 1) := by rw [two_t, nI_1]
      have t2 : (2 : Int32) * nI (by' + j) + 1 = nI (2 * (by' + j) + 1) := by rw [two_t, nI_1]
      obtain ⟨x1, x2, -⟩ := dots7 (i := 2 * (bx + i) + 1) (j := 2 * (by' + j) + 1) (hPl d2) hS (by omega) (by omega) (by omega) (by omega)
      rw [kR, r5, k3, nI_add, if_neg (nI_ge (by omega) (by omega)), t1, t2, bnd1_of _ x1, bnd1_of _ x2, r2, nI_1]
      obtain ⟨b, d3, z, hd3⟩ := pt7 (v := v) (xx := rdV X S (2 * U) (2 * V) (2 * (bx + i) + 1) (2 * (by' + j) + 1)) (yy := rdV Y S (2 * U) (2 * V) (2 * (bx + i) + 1) (2 * (by' + j) + 1)) hw hq (k1 d2) (k2 d2) (show Vis (gI (sA τ (s + 1) d2) (s + 1)) w q _ fun _ _ => True by rw [show gI (sA τ (s + 1) d2) (s + 1) = d2 from funext fun j => by rw [gI_A]]; exact hd2)
      rw [bnd_of _ z, sA_sA]
      exact hr2 _ _ ⟨rfl, d3, rfl, hd3⟩
    · rintro _ _ rec2 ⟨rfl, d2, rfl, hd2⟩
      rw [kR, r5, k3, nI_add, if_pos (nI_le (Nat.le_refl _) (by omega)), nI_1]
      exact hr _ _ ⟨rfl, d2, rfl, hd2⟩
  · rintro _ _ rec ⟨rfl, d, rfl, hd⟩
    rw [kR, r5, k4, nI_add, if_pos (nI_le (Nat.le_refl _) (by omega))]
    exact wp_some ⟨d, rfl, hd⟩
