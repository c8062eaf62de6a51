/-! Form kept: a place. -/
section PLACE
variable {T : Nat → Nat} {n s g bb : Nat} {a0 b0 a b : SS} {W H A B q : Nat} {N : Nat → Nat}
theorem bxadd7 {x y K : Nat} (hK : K < 72) (hq : q < 12) (h5 : gI a g 5 = nI (q + 1)) (h6 : gI a g 6 = nI K) (h3 : gI a (g + 3) q = nI (N q)) : fX1_addBox a g (nI x) (nI y) = some (sI (sI (sI (sI a (g + 6) K (nI x)) (g + 7) K (nI y)) g 6 (nI (K + 1))) (g + 3) q (nI (N q + 1))) := by
  have e1 : nI (q + 1) - 1 = nI q := nI_sub (a := q + 1) (b := 1) (by omega)
  unfold fX1_addBox
  rw [h5, h6, if_neg (by show ¬ nI (q + 1) ≤ nI 0; exact nI_ge (by omega) (by omega)), if_neg (by show ¬ nI 72 ≤ nI K; exact nI_ge (by omega) (by omega)), grd_eq _ (inb_nI (by omega) (by decide)), nI_clamp (by omega), vthen_q, gI_nk (c' := g) (by omega), h6, grd_eq _ (inb_nI (by omega) (by decide)), nI_clamp (by omega), vthen_q, gI_nk (c' := g) (by omega), gI_nk (c' := g) (by omega), h6, nI_1, vthen_q, gI_nk (c' := g) (by omega), gI_nk (c' := g) (by omega), gI_nk (c' := g) (by omega), h5, e1, grd_eq _ (inb_nI (by omega) (by decide)), nI_clamp (by omega), vthen_q, gI_nk (c' := g + 3) (by omega), gI_nk (c' := g + 3) (by omega), gI_nk (c' := g + 3) (by omega), h3, nI_1]
theorem place2 {γ δ : Type} {P : γ → δ → Prop} {k : Bool → SS → Option γ} {k' : Bool → SS → Option δ} (hT : TT T n) (hg : 27 < g ∨ g + 7 < 26) (hb : bb < 2) (hR : RG W H A B) (hq : q < 12) (h : K2 T n s a b) (hf : Fm g bb a0 b0 W H A B (q + 1) q N a b) (ht : ∀ a' b' s', N q < 6 → K2 T n s' a' b' → Fm g bb a0 b0 W H A B (q + 1) q (upN N q (N q + 1)) a' b' → W2 (k true a') (k' true b') P) (hn : ∀ a' b', FlO (Om g bb a0 b0) a' b' → W2 (k false a') (k' false b') P) : W2 (bnd (fX2_readPlace a g (nI (N q))) k) (bnd (fX8_readsPlace b (nI q)) k') P := by
  obtain ⟨rW, rH, rA, rB⟩ := hR
  obtain ⟨ho, ⟨⟨g1, g2, g3, g4⟩, t1, t2, t3, t4⟩, e5, e6, eM, hE, hM⟩ := id hf
  obtain ⟨n6, p2, p3, p77, -⟩ := hE q (by omega)
  have e11 := ho.2.2.2
  have e12 : (12 : Int32) * gI b 73 11 + nI q = nI (12 * bb + q) := by rw [e11, show (12 : Int32) = nI 12 from rfl, nI_mul, nI_add]
  have e50 : (5 : Int32) * gI b 73 11 = nI (5 * bb) := by rw [e11, show (5 : Int32) = nI 5 from rfl, nI_mul]
  unfold fX2_readPlace fX8_readsPlace
  simp only [bnd_bnd, bnd_ite, bnd_grd, bnd_vth, bnd_bnd1, bnd_sm]
  refine w2_vr ?_
  rw [e12, e50, show nI (5 * bb) + (2 : Int32) = nI (5 * bb + 2) from nI_add (5 * bb) 2, nI_clamp (by omega), nI_clamp (by omega), t1, t3, g1, g3]
  refine w2_gr (inb_nI (by omega) (by decide)) (w2_gr (inb_nI (by omega) (by decide)) ?_)
  rcases isn2 (lo := 0) (hi := nI W - nI A) h with ⟨x, x1, x2, x3, x4, x5, x6, x7⟩ | ⟨y, y1, y2, y3, y4⟩
  case inr =>
    rw [y3, y4, bnd_sm, bnd_sm, if_neg (by decide), if_neg (by decide)]
    exact hn _ _ (fl2 hT (Om.sb hg) h ho ⟨y1, y2⟩)
  rw [x6, x7, bnd_sm, bnd_sm, if_pos rfl, if_pos rfl, nI_clamp (by omega), p77]
  refine w2_gr (inb_nI (by omega) (by decide)) ?_
  by_cases c6 : N q = 6
  · have h6 : nI (N q) = (6 : Int32) := by rw [c6]; rfl
    rw [if_pos h6, if_pos h6]
    exact wr2 (y := 3) hT (Om.sb hg) h ho (by omega) hn
  have h6 : ¬ nI (N q) = (6 : Int32) := fun z => c6 ((nI_eq (by omega) (by omega)).mp (show nI (N q) = nI 6 from z))
  rw [if_neg h6, if_neg h6, x4, x5]
  refine w2_vl (w2_vr ?_)
  refine w2_bnd1 (adv2 hT (Fm.sb hg) h hf) fun a1 b1 hq1 => ?_
  obtain ⟨h1, f1, -⟩ := hq1
  obtain ⟨ho', ⟨⟨g1', g2', g3', g4'⟩, t1', t2', t3', t4'⟩, e5', e6', eM', hE', hM'⟩ := id f1
  obtain ⟨-, p2', p3', p77', -⟩ := hE' q (by omega)
  have e11' := ho'.2.2.2
  have e50' : (5 : Int32) * gI b1 73 11 = nI (5 * bb) := by rw [e11', show (5 : Int32) = nI 5 from rfl, nI_mul]
  rw [e50', show nI (5 * bb) + (1 : Int32) = nI (5 * bb + 1) from nI_add (5 * bb) 1, show nI (5 * bb) + (3 : Int32) = nI (5 * bb + 3) from nI_add (5 * bb) 3, nI_clamp (by omega), nI_clamp (by omega), t2', t4', g2', g4']
  refine w2_gr (inb_nI (by omega) (by decide)) (w2_gr (inb_nI (by omega) (by decide)) ?_)
  rcases isn2 (lo := 0) (hi := nI H - nI B) h1 with ⟨y, y1, y2, y3, y4, y5, y6, y7⟩ | ⟨y, y1, y2, y3, y4⟩
  case inr =>
    rw [y3, y4, bnd_sm, bnd_sm, if_neg (by decide), if_neg (by decide)]
    exact hn _ _ (fl2 hT (Om.sb hg) h1 ho' ⟨y1, y2⟩)
  rw [y6, y7, bnd_sm, bnd_sm, if_pos rfl, if_pos rfl, y4, y5]
  have hxr : (x : Int) ≤ (W : Int) - A := by
    rw [le_i, subI (by omega) (by omega), nI_toInt (by omega)] at x3; exact x3
  have hyr : (y : Int) ≤ (H : Int) - B := by
    rw [le_i, subI (by omega) (by omega), nI_toInt (by omega)] at y3; exact y3
  have hKe : psum N (q + 1) = psum N q + N q := rfl
  have hK6 : psum N q ≤ 6 * q := psum_le q fun p hp => (hE' p (by omega)).1
  have hXY : ∀ p, p ≤ q → ∀ i, i < N p → (gI a1 (g + 6) (psum N p + i) = nI (gI a1 (g + 6) (psum N p + i)).toNatClampNeg ∧ (gI a1 (g + 6) (psum N p + i)).toNatClampNeg ≤ 40) ∧ gI a1 (g + 7) (psum N p + i) = nI (gI a1 (g + 7) (psum N p + i)).toNatClampNeg ∧ (gI a1 (g + 7) (psum N p + i)).toNatClampNeg ≤ 40 := fun p hp i hi => by
    obtain ⟨-, -, -, -, -, -, -, n8⟩ := hE' p (by omega)
    obtain ⟨⟨u1, u2⟩, w1, w2⟩ := n8 i hi
    rw [u1, w1]
    obtain ⟨mx, hmx, ex⟩ := in_of (x := gI b1 80 (6 * (12 * bb + p) + i)) (w := 41) (by decide) (by have := u2.1; have := u2.2; omega)
    obtain ⟨my, hmy, ey⟩ := in_of (x := gI b1 81 (6 * (12 * bb + p) + i)) (w := 41) (by decide) (by have := w2.1; have := w2.2; omega)
    rw [ex, ey, nI_clamp (by omega), nI_clamp (by omega)]
    exact ⟨⟨rfl, by omega⟩, rfl, by omega⟩
  obtain ⟨r, r1, r2⟩ := cov7 (a := a1) (g := g) (K := psum N (q + 1)) (A := A) (B := B) (x := x) (y := y) (X := fun k => (gI a1 (g + 6) k).toNatClampNeg) (Y := fun k => (gI a1 (g + 7) k).toNatClampNeg) (by omega) (by omega) (by omega) x1 y1 e6' g3' g4' (fun k hk => by
    obtain ⟨p, i, hp, hi, rfl⟩ := psum_at (q + 1) k hk
    exact hXY p (by omega) i hi)
  obtain ⟨r', r1', r2'⟩ := over8 (b := b1) (bb := bb) (q := q) (N := N) (A := A) (B := B) (x := x) (y := y) (X := fun k => (gI a1 (g + 6) k).toNatClampNeg) (Y := fun k => (gI a1 (g + 7) k).toNatClampNeg) hb hq (by omega) (by omega) x1 y1 e11' t3' t4' (fun p hp => by
    obtain ⟨m1, -, -, m4, -, -, -, n8⟩ := hE' p (by omega)
    refine ⟨m1, m4, fun i hi => ?_⟩
    obtain ⟨⟨u1, -⟩, w1, -⟩ := n8 i hi
    rw [← u1, ← w1]
    exact hXY p hp i hi)
  have hrr : r = true ↔ r' = true := by
    rw [r2, r2']
    constructor
    · rintro ⟨k, hk, hc⟩
      obtain ⟨p, i, hp, hi, rfl⟩ := psum_at (q + 1) k hk
      exact ⟨p, i, by omega, hi, hc⟩
    · rintro ⟨p, i, hp, hi, hc⟩
      exact ⟨_, psum_lt (Q := q + 1) (by omega) hi, hc⟩
  clear r2 r2'
  rw [bnd1_of _ r1, bnd1_of _ r1']
  by_cases cr : r = true
  · rw [if_pos cr, if_pos (hrr.mp cr)]
    exact wr2 (y := 4) hT (Om.sb hg) h1 ho' (by omega) hn
  have hK72 : psum N (q + 1) < 72 := by omega
  rw [if_neg cr, if_neg fun h => cr (hrr.mpr h), bnd1_of _ (bxadd7 (N := N) (x := x) (y := y) hK72 hq e5' e6' p3')]
  have e6J : (6 : Int32) * nI (12 * bb + q) + nI (N q) = nI (6 * (12 * bb + q) + N q) := by rw [show (6 : Int32) = nI 6 from rfl, nI_mul, nI_add]
  rw [p77', e6J, nI_clamp (by omega)]
  refine w2_gr (inb_nI (by omega) (by decide)) (w2_vr ?_)
  rw [gI_nk (c' := 77) (by omega), p77', e6J, nI_clamp (by omega), gI_nk (c' := 73) (by omega), y5]
  refine w2_gr (inb_nI (by omega) (by decide)) (w2_vr (w2_vr ?_))
  rw [gI_nk (c' := 77) (by omega), gI_nk (c' := 77) (by omega), p77', nI_1]
  have hF := Fm.box hb hq ⟨x1, hxr⟩ ⟨y1, hyr⟩ (by omega) f1
  refine w2_bnd1 (adv2 hT (Fm.sb hg) ((((((((h1.cl (by omega)).cl (by omega)).cl (by omega)).cl (by omega)).rr (by omega)).rr (by omega)).rr (by omega))) hF) fun a2 b2 hq2 => ?_
  exact ht a2 b2 _ (by omega) hq2.1 hq2.2.1
end PLACE
