/-! Print kept: a box inked, the reference's half. -/
theorem inks8 {τ : SS} {w q U V A B Q b p i bx by' : Nat} {v : Int32} {X Y S : Nat → Nat} {G : Nat → Nat → Int32} (hw : 1 ≤ w ∧ w ≤ 40) (hq : 1 ≤ q ∧ q ≤ 40) (hU : 1 ≤ U ∧ U ≤ 40) (hV : 1 ≤ V ∧ V ≤ 40) (hp : p < 12) (hi : i < 6) (hH : Hd b U V A B Q τ) (e3 : gI τ 73 29 = nI w) (e4 : gI τ 73 30 = nI q) (hL : ∀ k, k < 4 → gL τ 103 k = lN (X k) ∧ gL τ 104 k = lN (Y k) ∧ gL τ 105 k = lN (S k)) (hS : ∀ k, k < 4 → 1 ≤ S k ∧ S k ≤ 1600) (gx : gI τ 80 (6 * (12 * b + p) + i) = nI bx) (gy : gI τ 81 (6 * (12 * b + p) + i) = nI by') (hx : bx + A ≤ U) (hy : by' + B ≤ V) (hG : Vis (gI τ 83) w q G fun _ _ => True) : WP (fX8_inks τ (nI p) (nI i) v) (fun r => gR r = gR τ ∧ (∀ c k, c ≠ 83 → gI r c k = gI τ c k) ∧ (∀ c k, c ≠ 73 → gL r c k = gL τ c k) ∧ Vis (gI r 83) w q (bxF w q v X Y S (2 * U) (2 * V) A bx by' G B) fun _ _ => True) := by
  obtain ⟨hb, h12, h11, -, -, t2, t3, -⟩ := id hH
  have ha := area_le hw.2 hq.2
  have e : (6 : Int32) * ((12 : Int32) * gI τ 73 11 + nI p) + nI i = nI (6 * (12 * b + p) + i) := by rw [h11, show (12 : Int32) = nI 12 from rfl, show (6 : Int32) = nI 6 from rfl, nI_mul, nI_add, nI_mul, nI_add]
  have hd2 : ∀ s', (∀ c k, c ≠ 83 → gI s' c k = gI τ c k) → fX8_headOf s' (2 : Int32) = some (nI A) := fun s' hs => head8 (k := 2) (by rw [hs _ _ (by omega)]; exact h12) (by rw [hs _ _ (by omega)]; exact h11) hb (by omega) (by rw [hs _ _ (by omega)]; exact t2)
  have hd3 : ∀ s', (∀ c k, c ≠ 83 → gI s' c k = gI τ c k) → fX8_headOf s' (3 : Int32) = some (nI B) := fun s' hs => head8 (k := 3) (by rw [hs _ _ (by omega)]; exact h12) (by rw [hs _ _ (by omega)]; exact h11) hb (by omega) (by rw [hs _ _ (by omega)]; exact t3)
  unfold fX8_inks
  rw [e]
  refine wp_v ?_
  unfold X8_inks_L19
  refine wf_2 B (fun j c s' => c = nI j ∧ gR s' = gR τ ∧ (∀ c k, c ≠ 83 → gI s' c k = gI τ c k) ∧ (∀ c k, c ≠ 73 → gL s' c k = gL τ c k) ∧ Vis (gI s' 83) w q (bxF w q v X Y S (2 * U) (2 * V) A bx by' G j) fun _ _ => True) ⟨rfl, rfl, fun _ _ _ => rfl, fun _ _ _ => rfl, hG⟩ (by omega) ?_ ?_
  · rintro j _ s1 rec hj ⟨rfl, i1, i2, i3, i4⟩ hr
    rw [hd3 s1 i2, bnd1_some, if_neg (nI_ge hj (by omega)), nI_1]
    unfold X8_inks_L32
    refine wf_2 A (fun i c s' => c = nI i ∧ gR s' = gR τ ∧ (∀ c k, c ≠ 83 → gI s' c k = gI τ c k) ∧ (∀ c k, c ≠ 73 → gL s' c k = gL τ c k) ∧ Vis (gI s' 83) w q (rwF w q v X Y S (2 * U) (2 * V) bx (by' + j) (bxF w q v X Y S (2 * U) (2 * V) A bx by' G j) i) fun _ _ => True) ⟨rfl, i1, i2, i3, i4⟩ (by omega) ?_ ?_
    · rintro i' _ s2 rec2 hi' ⟨rfl, l1, l2, l3, l4⟩ hr2
      have ex : (2 : Int32) * (nI bx + nI i') + 1 = nI (2 * (bx + i') + 1) := by rw [nI_add, two_t, nI_1]
      have ey : (2 : Int32) * (nI by' + nI j) + 1 = nI (2 * (by' + j) + 1) := by rw [nI_add, two_t, nI_1]
      rw [hd2 s2 l2, bnd1_some, if_neg (nI_ge hi' (by omega)), nI_clamp (by omega), l2 80 _ (by omega), l2 81 _ (by omega), gx, gy, ex, ey, nI_1]
      refine wp_grd (inb_nI (by omega) (by decide)) ?_
      have hH2 : Hd b U V A B Q s2 := hH.fr (fun k _ => l2 _ _ (by omega)) (fun k => l2 _ _ (by omega))
      refine wp_bndp (mapped8 (i := 2 * (bx + i') + 1) (j := 2 * (by' + j) + 1) true hH2 (fun k hk => by rw [l3 _ _ (by omega), l3 _ _ (by omega), l3 _ _ (by omega)]; exact hL k hk) hS (by omega) (by omega) (by omega) (by omega)) ?_
      rintro v9 s3 ⟨m1, m2, m3, m4⟩
      dsimp only at m1 m2 m3 m4
      rw [m3 80, m3 81, l2 80 _ (by omega), l2 81 _ (by omega), gx, gy, ex, ey]
      have l3' : ∀ c k, c ≠ 73 → gL s3 c k = gL τ c k := fun c k hc => (m4 c k hc).trans (l3 c k hc)
      have hH3 : Hd b U V A B Q s3 := hH2.fr (fun k _ => m3 _ _) (fun k => m3 _ _)
      refine wp_bndp (mapped8 (i := 2 * (bx + i') + 1) (j := 2 * (by' + j) + 1) false hH3 (fun k hk => by rw [l3' _ _ (by omega), l3' _ _ (by omega), l3' _ _ (by omega)]; exact hL k hk) hS (by omega) (by omega) (by omega) (by omega)) ?_
      rintro v13 s4 ⟨o1, o2, o3, o4⟩
      dsimp only at o1 o2 o3 o4
      have l2'' : ∀ c k, gI s4 c k = gI s2 c k := fun c k => (o3 c k).trans (m3 c k)
      have l3'' : ∀ c k, c ≠ 73 → gL s4 c k = gL τ c k := fun c k hc => (o4 c k hc).trans (l3' c k hc)
      have m1' : v9 = rdV X S (2 * U) (2 * V) (2 * (bx + i') + 1) (2 * (by' + j) + 1) := m1
      have o1' : v13 = rdV Y S (2 * U) (2 * V) (2 * (bx + i') + 1) (2 * (by' + j) + 1) := o1
      have er : rwF w q v X Y S (2 * U) (2 * V) bx (by' + j) (bxF w q v X Y S (2 * U) (2 * V) A bx by' G j) (i' + 1) = ptF w q v v9 v13 (rwF w q v X Y S (2 * U) (2 * V) bx (by' + j) (bxF w q v X Y S (2 * U) (2 * V) A bx by' G j) i') := by rw [m1', o1']; rfl
      have h29 : gI s4 73 29 = nI w := by rw [l2'', l2 _ _ (by omega)]; exact e3
      have h30 : gI s4 73 30 = nI q := by rw [l2'', l2 _ _ (by omega)]; exact e4
      have hv : Vis (gI s4 83) w q (rwF w q v X Y S (2 * U) (2 * V) bx (by' + j) (bxF w q v X Y S (2 * U) (2 * V) A bx by' G j) i') fun _ _ => True := by rw [show gI s4 83 = gI s2 83 from funext fun k => l2'' 83 k]; exact l4
      have cd := isDot_eq (σ := s4) (w := w) (h := q) h29 h30 hw.1 hq.1 hw.2 hq.2 v9 v13
      refine wp_if (fun hc => ?_) fun hc => ?_
      · rw [cd] at hc
        obtain ⟨xx, hxx, exx⟩ := in_of (x := v9) (by omega) hc.1
        obtain ⟨yy, hyy, eyy⟩ := in_of (x := v13) (by omega) hc.2
        have hl := cell_lt hxx hyy
        rw [h29, exx, eyy, ix_m, nI_clamp (by omega)]
        refine wp_grd (inb_nI (by omega) (by omega)) (wp_v (hr2 _ _ ⟨rfl, (o2.trans m2).trans l1, fun c k hc => by rw [gI_ne hc, l2'']; exact l2 c k hc, fun c k hc => l3'' c k hc, ?_⟩))
        rw [gI_up, er, exx, eyy]
        exact ptF_in hw.2 hq.2 hxx hyy hv
      · rw [cd] at hc
        refine hr2 _ _ ⟨rfl, (o2.trans m2).trans l1, fun c k hc => by rw [l2'']; exact l2 c k hc, fun c k hc => l3'' c k hc, ?_⟩
        rw [er]
        exact ptF_out hc hv
    · rintro _ s2 rec2 ⟨rfl, l1, l2, l3, l4⟩
      rw [hd2 s2 l2, bnd1_some, if_pos (nI_le (Nat.le_refl _) (by omega))]
      exact hr _ _ ⟨rfl, l1, l2, l3, l4⟩
  · rintro _ s1 rec ⟨rfl, i1, i2, i3, i4⟩
    rw [hd3 s1 i2, bnd1_some, if_pos (nI_le (Nat.le_refl _) (by omega))]
    exact wp_some ⟨i1, i2, i3, i4⟩
