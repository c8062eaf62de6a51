/-! How dark the boxes are: the reference's half. -/
/-- what the reference judges by -/
def C8 (w q spk : Nat) (lvl mk : Int32) (pic : Nat → Int32) (b U V A B Q : Nat) (N cx cy : Nat → Nat) (σ : SS) : Prop :=
  (8 ≤ w ∧ w ≤ 40) ∧ (8 ≤ q ∧ q ≤ 40) ∧ (1 ≤ spk ∧ spk ≤ 20) ∧ gI σ 73 29 = nI w ∧ gI σ 73 30 = nI q ∧ (∀ k, k < w * q → gI σ 83 k = pic k ∧ inR (pic k) 0 9) ∧ gI σ 88 0 = lvl ∧ gI σ 88 1 = nI spk ∧ gI σ 88 2 = mk ∧
  (4 ≤ U ∧ U ≤ 40) ∧ (4 ≤ V ∧ V ≤ 40) ∧ (1 ≤ A ∧ A ≤ 6) ∧ (1 ≤ B ∧ B ≤ 6) ∧ Q ≤ 12 ∧ Hd b U V A B Q σ ∧ ∀ p, p < Q → (1 ≤ N p ∧ N p ≤ 6) ∧ gI σ 77 (12 * b + p) = nI (N p) ∧ ∀ i, i < N p → (gI σ 80 (6 * (12 * b + p) + i) = nI (cx (psum N p + i)) ∧ cx (psum N p + i) + A ≤ U) ∧ (gI σ 81 (6 * (12 * b + p) + i) = nI (cy (psum N p + i)) ∧ cy (psum N p + i) + B ≤ V)
theorem C8.fr {w q spk : Nat} {lvl mk : Int32} {pic : Nat → Int32} {b U V A B Q : Nat} {N cx cy : Nat → Nat} {σ σ' : SS} (h : C8 w q spk lvl mk pic b U V A B Q N cx cy σ) (hf : ∀ c k, (c = 73 ∧ (k = 11 ∨ k = 12 ∨ k = 29 ∨ k = 30) ∨ c = 75 ∨ c = 77 ∨ c = 80 ∨ c = 81 ∨ c = 83 ∨ c = 88) → gI σ' c k = gI σ c k) : C8 w q spk lvl mk pic b U V A B Q N cx cy σ' := by
  obtain ⟨h1, h2, h3, h4, h5, h6, h7, h8, h9, h10, h11, h12, h13, h14, h15, h16⟩ := h
  refine ⟨h1, h2, h3, by rw [hf _ _ (by omega)]; exact h4, by rw [hf _ _ (by omega)]; exact h5, fun k hk => by rw [hf _ _ (by omega)]; exact h6 k hk, by rw [hf _ _ (by omega)]; exact h7, by rw [hf _ _ (by omega)]; exact h8, by rw [hf _ _ (by omega)]; exact h9, h10, h11, h12, h13, h14, h15.fr (fun k hk => hf _ _ (by omega)) (fun k => hf _ _ (by omega)), fun p hp => ?_⟩
  obtain ⟨n1, n2, n3⟩ := h16 p hp
  refine ⟨n1, by rw [hf _ _ (by omega)]; exact n2, fun i hi => ?_⟩
  rw [hf _ _ (by omega), hf _ _ (by omega)]; exact n3 i hi
theorem quest8 {b U V A B Q : Nat} {σ : SS} (h : Hd b U V A B Q σ) : fX8_questions σ = some (nI Q) := by
  obtain ⟨hb, h12, h11, -, -, -, -, h4⟩ := h
  unfold fX8_questions
  exact (show bnd1 (fX8_headOf σ (4 : Int32)) (fun v => some v) = some (nI Q) from bnd1_of _ (head8 (k := 4) h12 h11 hb (by omega) h4))
section DARK8
variable {w q spk : Nat} {lvl mk : Int32} {pic : Nat → Int32} {b U V A B Q : Nat} {N cx cy : Nat → Nat} {σ : SS} {X Y S : Nat → Nat}
theorem dark8 {p i : Nat} (h : C8 w q spk lvl mk pic b U V A B Q N cx cy σ) (hL : ∀ k, k < 4 → gL σ 103 k = lN (X k) ∧ gL σ 104 k = lN (Y k) ∧ gL σ 105 k = lN (S k)) (hS : ∀ k, k < 4 → 1 ≤ S k ∧ S k ≤ 1600) (hp : p < Q) (hi : i < N p) : WP (fX8_darkOf σ (nI p) (nI i)) (fun r => r.1 = nI (dkV pic w q X Y S (2 * U) (2 * V) A B (cx (psum N p + i)) (cy (psum N p + i))) ∧ gR r.2 = gR σ ∧ (∀ c k, gI r.2 c k = gI σ c k) ∧ ∀ c k, c ≠ 73 → gL r.2 c k = gL σ c k) := by
  obtain ⟨hw, hq, hspk, e3, e4, hpc, -, -, -, hU, hV, hA, hB, hQ, hH, hN⟩ := id h
  obtain ⟨⟨n1, n2⟩, -, n3⟩ := hN p hp
  obtain ⟨⟨x1, x2⟩, x3, x4⟩ := n3 i hi
  obtain ⟨hb, h12, h11, -, -, t2, t3, -⟩ := id hH
  have ha := area_le hw.2 hq.2
  have e : (6 : Int32) * ((12 : Int32) * gI σ 73 11 + nI p) + nI i = nI (6 * (12 * b + p) + i) := by rw [h11, show (12 : Int32) = nI 12 from rfl, show (6 : Int32) = nI 6 from rfl, nI_mul, nI_add, nI_mul, nI_add]
  generalize hcx : cx (psum N p + i) = x0 at *
  generalize hcy : cy (psum N p + i) = y0 at *
  unfold fX8_darkOf
  rw [e]
  refine wp_v ?_
  have hd2 : ∀ s', (∀ c k, gI s' c k = gI σ c k) → fX8_headOf s' (2 : Int32) = some (nI A) := fun s' hs => head8 (k := 2) (by rw [hs]; exact h12) (by rw [hs]; exact h11) hb (by omega) (by rw [hs]; exact t2)
  have hd3 : ∀ s', (∀ c k, gI s' c k = gI σ c k) → fX8_headOf s' (3 : Int32) = some (nI B) := fun s' hs => head8 (k := 3) (by rw [hs]; exact h12) (by rw [hs]; exact h11) hb (by omega) (by rw [hs]; exact t3)
  unfold X8_darkOf_L21
  refine wf_3 B (fun j v c s' => v = nI (dkV pic w q X Y S (2 * U) (2 * V) A j x0 y0) ∧ c = nI j ∧ gR s' = gR σ ∧ (∀ c k, gI s' c k = gI σ c k) ∧ ∀ c k, c ≠ 73 → gL s' c k = gL σ c k) ⟨rfl, rfl, rfl, fun _ _ => rfl, fun _ _ _ => rfl⟩ (by omega) ?_ ?_
  · rintro j _ _ s1 rec hj ⟨rfl, rfl, i1, i2, i3⟩ hr
    rw [hd3 s1 i2, bnd1_some, if_neg (nI_ge hj (by omega)), nI_1]
    unfold X8_darkOf_L34
    refine wf_3 A (fun i v c s' => v = nI (dkR pic w q X Y S (2 * U) (2 * V) x0 y0 j (dkV pic w q X Y S (2 * U) (2 * V) A j x0 y0) i) ∧ c = nI i ∧ gR s' = gR σ ∧ (∀ c k, gI s' c k = gI σ c k) ∧ ∀ c k, c ≠ 73 → gL s' c k = gL σ c k) ⟨rfl, rfl, i1, i2, i3⟩ (by omega) ?_ ?_
    · rintro i' _ _ s2 rec2 hi' ⟨rfl, rfl, l1, l2, l3⟩ hr2
      have ex : (2 : Int32) * (nI x0 + nI i') + 1 = nI (2 * (x0 + i') + 1) := by rw [nI_add, show (2 : Int32) = nI 2 from rfl, nI_mul, nI_1]
      have ey : (2 : Int32) * (nI y0 + nI j) + 1 = nI (2 * (y0 + j) + 1) := by rw [nI_add, show (2 : Int32) = nI 2 from rfl, nI_mul, nI_1]
      rw [hd2 s2 l2, bnd1_some, if_neg (nI_ge hi' (by omega)), nI_clamp (by omega), l2 80, l2 81, x1, x3, ex, ey, nI_1]
      refine wp_grd (inb_nI (by omega) (by decide)) (wp_v (wp_v ?_))
      have hH2 : Hd b U V A B Q s2 := hH.fr (fun k _ => l2 _ _) (fun k => l2 _ _)
      refine wp_bndp (mapped8 (i := 2 * (x0 + i') + 1) (j := 2 * (y0 + j) + 1) true hH2 (fun k hk => by rw [l3 _ _ (by omega), l3 _ _ (by omega), l3 _ _ (by omega)]; exact hL k hk) hS (by omega) (by omega) (by omega) (by omega)) ?_
      rintro v11 s3 ⟨m1, m2, m3, m4⟩
      dsimp only at m1 m2 m3 m4
      have l2' : ∀ c k, gI s3 c k = gI σ c k := fun c k => (m3 c k).trans (l2 c k)
      have l3' : ∀ c k, c ≠ 73 → gL s3 c k = gL σ c k := fun c k hc => (m4 c k hc).trans (l3 c k hc)
      have hH3 : Hd b U V A B Q s3 := hH.fr (fun k _ => l2' _ _) (fun k => l2' _ _)
      refine wp_bndp (mapped8 (i := 2 * (x0 + i') + 1) (j := 2 * (y0 + j) + 1) false hH3 (fun k hk => by rw [l3' _ _ (by omega), l3' _ _ (by omega), l3' _ _ (by omega)]; exact hL k hk) hS (by omega) (by omega) (by omega) (by omega)) ?_
      rintro v15 s4 ⟨o1, o2, o3, o4⟩
      dsimp only at o1 o2 o3 o4
      have l2'' : ∀ c k, gI s4 c k = gI σ c k := fun c k => (o3 c k).trans (l2' c k)
      have l3'' : ∀ c k, c ≠ 73 → gL s4 c k = gL σ c k := fun c k hc => (o4 c k hc).trans (l3' c k hc)
      have m1' : v11 = rdV X S (2 * U) (2 * V) (2 * (x0 + i') + 1) (2 * (y0 + j) + 1) := m1
      have o1' : v15 = rdV Y S (2 * U) (2 * V) (2 * (x0 + i') + 1) (2 * (y0 + j) + 1) := o1
      have er : dkR pic w q X Y S (2 * U) (2 * V) x0 y0 j (dkV pic w q X Y S (2 * U) (2 * V) A j x0 y0) (i' + 1) = dkR pic w q X Y S (2 * U) (2 * V) x0 y0 j (dkV pic w q X Y S (2 * U) (2 * V) A j x0 y0) i' + dkU pic w q X Y S (2 * U) (2 * V) (2 * (x0 + i') + 1) (2 * (y0 + j) + 1) := rfl
      have cd := isDot_eq (σ := s4) (w := w) (h := q) (by rw [l2'']; exact e3) (by rw [l2'']; exact e4) (by omega) (by omega) hw.2 hq.2 v11 v15
      refine wp_if (fun hc => ?_) fun hc => ?_
      · rw [cd] at hc
        have eu : dkU pic w q X Y S (2 * U) (2 * V) (2 * (x0 + i') + 1) (2 * (y0 + j) + 1) = sN pic (v15.toInt.toNat * w + v11.toInt.toNat) := by
          rw [m1', o1'] at hc ⊢
          unfold dkU; rw [if_pos hc]
        obtain ⟨xx, hxx, exx⟩ := in_of (x := v11) (by omega) hc.1
        obtain ⟨yy, hyy, eyy⟩ := in_of (x := v15) (by omega) hc.2
        have hl := cell_lt hxx hyy
        rw [exx, eyy, nI_toInt (by omega), nI_toInt (by omega)] at eu
        rw [l2'' 73 29, e3, exx, eyy, ix_m, nI_clamp (by omega), l2'' 83, (hpc _ hl).1, (sN_of (hpc _ hl).2).1, nI_add]
        refine wp_grd (inb_nI (by omega) (by omega)) (wp_v (hr2 _ _ _ ⟨?_, rfl, (o2.trans m2).trans l1, l2'', l3''⟩))
        rw [er, eu]; rfl
      · rw [cd] at hc
        have eu : dkU pic w q X Y S (2 * U) (2 * V) (2 * (x0 + i') + 1) (2 * (y0 + j) + 1) = 0 := by
          rw [m1', o1'] at hc
          unfold dkU; rw [if_neg hc]
        refine wp_v (hr2 _ _ _ ⟨?_, rfl, (o2.trans m2).trans l1, l2'', l3''⟩)
        rw [er, eu]; exact Int32.add_zero _
    · rintro _ _ s2 rec2 ⟨rfl, rfl, l1, l2, l3⟩
      rw [hd2 s2 l2, bnd1_some, if_pos (nI_le (by omega) (by omega))]
      exact hr _ _ _ ⟨rfl, rfl, l1, l2, l3⟩
  · rintro _ _ s1 rec ⟨rfl, rfl, i1, i2, i3⟩
    rw [hd3 s1 i2, bnd1_some, if_pos (nI_le (by omega) (by omega))]
    exact wp_some ⟨rfl, i1, i2, i3⟩
theorem finds8 (h : C8 w q spk lvl mk pic b U V A B Q N cx cy σ) : WP (fX8_finds σ) (fun r => (r.1 = true ↔ frU (mkB w q spk mk (inkP lvl pic)) 4) ∧ gR r.2 = gR σ ∧ (∀ c k, ¬ (92 ≤ c ∧ c ≤ 106) → ¬ (c = 73 ∧ (k = 43 ∨ k = 44 ∨ k = 49 ∨ k = 54)) → gI r.2 c k = gI σ c k) ∧ (frU (mkB w q spk mk (inkP lvl pic)) 4 → (∀ p, p < Q → ∀ i, i < N p → gI r.2 106 (6 * p + i) = nI (dkD w q spk lvl mk pic U V A B cx cy (psum N p + i))) ∧ (0 < psum N Q → gI r.2 73 54 = nI (pN (dkD w q spk lvl mk pic U V A B cx cy) (psum N Q))))) := by
  obtain ⟨hw, hq, hspk, e3, e4, hpc, el, es, em, hU, hV, hA, hB, hQ, hH, hN⟩ := id h
  unfold fX8_finds
  refine wp_bnd1 (marks8 (ink := inkP lvl pic) hw hq e3 e4 (fun k hk => by rw [(hpc k hk).1, el]; exact ⟨fun h h2 => h2 h, fun h => Classical.byContradiction fun h2 => h h2⟩) es hspk em) ?_
  rintro r1 ⟨a1, a2, a3⟩
  refine wp_if (fun h0 => ?_) fun h0 => ?_
  · have hm : ¬ frU (mkB w q spk mk (inkP lvl pic)) 4 := by
      rcases a3.2.1 with ⟨_, hfl⟩ | ⟨hm, _⟩
      · rw [hfl] at h0; exact absurd h0 (by decide)
      · exact hm
    exact wp_some ⟨⟨fun h => absurd (show false = true from h) (by decide), fun h => absurd h hm⟩, a1, fun c k c1 c2 => a2 c k (by omega) (by omega), fun h => absurd h hm⟩
  have hm : frU (mkB w q spk mk (inkP lvl pic)) 4 := by
    rcases a3.2.1 with ⟨hm, _⟩ | ⟨_, hfl⟩
    · exact hm
    · exact absurd hfl h0
  have hS := mS_bd hw hq hspk.1 hm
  have hM := mk8_of hw hq a3 hm
  have dle := fun k => dkD_le (w := w) (q := q) (spk := spk) (lvl := lvl) (mk := mk) (pic := pic) (U := U) (V := V) (A := A) (B := B) (cx := cx) (cy := cy) (fun k hk => (hpc k hk).2) hA.2 hB.2 k
  refine wp_vv ?_; intro s2 g2
  have b2 : ∀ c k, ¬ (c = 73 ∧ k = 54) → gI s2 c k = gI r1 c k := fun c k hc => by rw [g2, gI_nk hc]
  have b54 : gI s2 73 54 = -1 := by rw [g2, gI_eq]
  have bL : ∀ c k, gL s2 c k = gL r1 c k := fun c k => by rw [g2]; rfl
  /- state: so many boxes done -/
  have key : ∀ s' : SS, (∀ c k, c ≠ 106 → ¬ (c = 73 ∧ k = 54) → gI s' c k = gI r1 c k) → C8 w q spk lvl mk pic b U V A B Q N cx cy s' := fun s' hs => h.fr fun c k hc => by rw [hs c k (by omega) (by omega), a2 c k (by omega) (by omega)]
  unfold X8_finds_L20
  refine wf_2 Q (fun p v s' => v = nI p ∧ gR s' = gR r1 ∧ (∀ c k, c ≠ 106 → ¬ (c = 73 ∧ k = 54) → gI s' c k = gI r1 c k) ∧ (∀ c k, c ≠ 73 → gL s' c k = gL r1 c k) ∧ (∀ p', p' < p → ∀ i, i < N p' → gI s' 106 (6 * p' + i) = nI (dkD w q spk lvl mk pic U V A B cx cy (psum N p' + i))) ∧ (gI s' 73 54 = if psum N p = 0 then -1 else nI (pN (dkD w q spk lvl mk pic U V A B cx cy) (psum N p)))) ⟨rfl, by rw [g2]; rfl, fun c k c1 c2 => b2 c k c2, fun c k _ => bL c k, fun p hp => absurd hp (by omega), b54⟩ (by omega) ?_ ?_
  · rintro p _ s' rec hp ⟨rfl, i1, i2, i3, i4, i5⟩ hr
    have h' := key s' i2
    obtain ⟨n1, n2, n3⟩ := hN p hp
    rw [quest8 h'.2.2.2.2.2.2.2.2.2.2.2.2.2.2.1, bnd1_some, if_neg (nI_ge hp (by omega)), nI_1]
    unfold X8_finds_L30
    refine wf_2 (N p) (fun i v s7 => v = nI i ∧ gR s7 = gR r1 ∧ (∀ c k, c ≠ 106 → ¬ (c = 73 ∧ k = 54) → gI s7 c k = gI r1 c k) ∧ (∀ c k, c ≠ 73 → gL s7 c k = gL r1 c k) ∧ (∀ p', p' ≤ p → ∀ j, j < (if p' = p then i else N p') → gI s7 106 (6 * p' + j) = nI (dkD w q spk lvl mk pic U V A B cx cy (psum N p' + j))) ∧ (gI s7 73 54 = if psum N p + i = 0 then -1 else nI (pN (dkD w q spk lvl mk pic U V A B cx cy) (psum N p + i)))) ⟨rfl, i1, i2, i3, fun p' hp' j hj => ?_, i5⟩ (by omega) ?_ ?_
    · by_cases e : p' = p
      · rw [if_pos e] at hj; omega
      · rw [if_neg e] at hj; exact i4 p' (by omega) j hj
    · rintro i _ s7 rec7 hi ⟨rfl, l1, l2, l3, l4, l5⟩ hr7
      have h7 := key s7 l2
      obtain ⟨-, -, -, -, -, -, -, -, -, -, -, -, -, -, hH7, hN7⟩ := id h7
      rw [boxesOf_eq hH7.1 hH7.2.2.1 (by omega) (hN7 p hp).2.1, bnd1_some, if_neg (nI_ge hi (by omega)), nI_1]
      refine wp_bndp (dark8 (p := p) (i := i) h7 (fun k hk => by rw [l3 _ _ (by omega), l3 _ _ (by omega), l3 _ _ (by omega)]; exact hM k hk) hS hp hi) ?_
      rintro v9 s8 ⟨m1, m2, m3, m4⟩
      dsimp only at m1 m2 m3 m4
      have m1' : v9 = nI (dkD w q spk lvl mk pic U V A B cx cy (psum N p + i)) := m1
      subst m1'
      have e6 : (6 : Int32) * nI p + nI i = nI (6 * p + i) := by rw [show (6 : Int32) = nI 6 from rfl, nI_mul, nI_add]
      rw [e6, nI_clamp (by omega)]
      refine wp_grd (inb_nI (by omega) (by decide)) ?_
      refine wp_vv ?_; intro s9 g9
      have e54 : gI s9 73 54 = if psum N p + i = 0 then -1 else nI (pN (dkD w q spk lvl mk pic U V A B cx cy) (psum N p + i)) := by rw [g9, gI_ne (by omega), m3]; exact l5
      have ep : pN (dkD w q spk lvl mk pic U V A B cx cy) (psum N p + i + 1) = if psum N p + i = 0 then dkD w q spk lvl mk pic U V A B cx cy 0 else min (pN (dkD w q spk lvl mk pic U V A B cx cy) (psum N p + i)) (dkD w q spk lvl mk pic U V A B cx cy (psum N p + i)) := rfl
      refine wp_vk1 (fun v => v = nI (pN (dkD w q spk lvl mk pic U V A B cx cy) (psum N p + i + 1))) ?_ fun j' hj' => ?_
      · rintro _ rfl
        refine wp_vv ?_; intro s10 g10
        refine hr7 _ _ ⟨rfl, by rw [g10, g9]; exact m2.trans l1, fun c k c1 c2 => by rw [g10, gI_nk c2, g9, gI_ne c1, m3]; exact l2 c k c1 c2, fun c k hc => by rw [g10, g9]; exact (m4 c k hc).trans (l3 c k hc), fun p' hp' j hj => ?_, by rw [g10, gI_eq, if_neg (by omega)]; rfl⟩
        rw [g10, gI_ne (by omega), g9]
        by_cases e : 6 * p' + j = 6 * p + i
        · have hj6 : j < 6 := by
            by_cases e2 : p' = p
            · rw [if_pos e2] at hj; omega
            · rw [if_neg e2] at hj; have := (hN p' (by omega)).1.2; omega
          have e3' : p' = p := by omega
          have e4' : j = i := by omega
          subst e3'; subst e4'
          rw [gI_eq]
        · rw [gI_nk (by omega), m3]
          refine l4 p' hp' j ?_
          by_cases e2 : p' = p
          · rw [if_pos e2] at hj ⊢
            have : j ≠ i := fun z => e (by rw [z, e2])
            omega
          · rw [if_neg e2] at hj ⊢; exact hj
      · refine wp_v ?_
        dsimp only
        rw [e54]
        by_cases c : psum N p + i = 0
        · rw [if_pos c, if_pos rfl]
          exact hj' _ (by rw [ep, if_pos c, c])
        · have hple := pN_le dle (psum N p + i)
          have hdle := dle (psum N p + i)
          rw [if_neg c, if_neg (nI_m1 (by omega))]
          by_cases c2 : pN (dkD w q spk lvl mk pic U V A B cx cy) (psum N p + i) ≤ dkD w q spk lvl mk pic U V A B cx cy (psum N p + i)
          · rw [if_pos (nI_le c2 (by omega))]
            exact hj' _ (by rw [ep, if_neg c, show min (pN (dkD w q spk lvl mk pic U V A B cx cy) (psum N p + i)) (dkD w q spk lvl mk pic U V A B cx cy (psum N p + i)) = pN (dkD w q spk lvl mk pic U V A B cx cy) (psum N p + i) by omega])
          · rw [if_neg (nI_ge (by omega) (by omega))]
            exact hj' _ (by rw [ep, if_neg c, show min (pN (dkD w q spk lvl mk pic U V A B cx cy) (psum N p + i)) (dkD w q spk lvl mk pic U V A B cx cy (psum N p + i)) = dkD w q spk lvl mk pic U V A B cx cy (psum N p + i) by omega])
    · rintro _ s7 rec7 ⟨rfl, l1, l2, l3, l4, l5⟩
      have h7 := key s7 l2
      obtain ⟨-, -, -, -, -, -, -, -, -, -, -, -, -, -, hH7, hN7⟩ := id h7
      rw [boxesOf_eq hH7.1 hH7.2.2.1 (by omega) (hN7 p hp).2.1, bnd1_some, if_pos (nI_le (Nat.le_refl _) (by omega))]
      refine hr _ _ ⟨rfl, l1, l2, l3, fun p' hp' j hj => l4 p' (by omega) j ?_, l5⟩
      by_cases e : p' = p
      · rw [if_pos e, ← e]; exact hj
      · rw [if_neg e]; exact hj
  · rintro _ s' rec ⟨rfl, i1, i2, i3, i4, i5⟩
    have h' := key s' i2
    rw [quest8 h'.2.2.2.2.2.2.2.2.2.2.2.2.2.2.1, bnd1_some, if_pos (nI_le (Nat.le_refl _) (by omega))]
    refine wp_some ⟨⟨fun _ => hm, fun _ => rfl⟩, i1.trans a1, fun c k c1 c2 => by rw [i2 c k (by omega) (by omega)]; exact a2 c k (by omega) (by omega), fun _ => ⟨i4, fun h => by rw [i5, if_neg (by omega)]⟩⟩
end DARK8
