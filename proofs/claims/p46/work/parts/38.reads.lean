/-! 38: the law's reads. -/
/-- what the law's reads may change -/
def Rf (rr : Nat) (σ τ : SS) : Prop := (∀ c k, c ≠ 0 → c < 2000 + gR σ 0 0 → gR τ c k = gR σ c k) ∧ (∀ c k, c < 2000 + gR σ 0 0 → ¬ Sk c k → ¬ (3 ≤ c ∧ c ≤ 8) → ¬ (28 ≤ c ∧ c ≤ 30) → c ≠ 32 → ¬ (c = rr ∧ k = 0) → gI τ c k = gI σ c k) ∧ gR σ 0 0 ≤ gR τ 0 0
def Rq (rr ii : Nat) (σ : SS) : Prop := Sd σ ∧ Bxs σ ∧ (14 ≤ uO σ ∧ uO σ ≤ 33) ∧ (14 ≤ vO σ ∧ vO σ ≤ 33) ∧ Stg σ ∧ (lav σ rr = true ∧ gR σ rr 0 = 1) ∧ (lav σ ii = true ∧ gR σ ii 0 = 300) ∧ ii ≠ rr ∧ (1 ≤ qO σ ∧ qO σ ≤ 5) ∧ (∀ p, p < qO σ → nO σ p ≤ 5 ∧ gI σ 30 p = 0) ∧ gI σ ii 0 = nI (qO σ) ∧ gI σ ii 1 = nI (aO σ) ∧ gI σ ii 2 = nI (bO σ) ∧ ∀ p, p < qO σ → (gI σ ii (16 + 16 * p) = 1 ↔ gI σ (fO σ + 1) p = 0) ∧ gI σ ii (17 + 16 * p) = nI (nO σ p) ∧ gI σ ii (18 + 16 * p) = gI σ (fO σ + 4) p ∧ gI σ ii (19 + 16 * p) = gI σ (fO σ + 5) p
section READS
variable {rr ii : Nat} {σ : SS}
theorem Kn.tr {rr : Nat} {a b c : SS} (h : Kn rr a b) (h' : Kn rr b c) : Kn rr a c := ⟨h'.1.trans h.1, fun q k hq => (h'.2 q k hq).trans (h.2 q k hq)⟩
theorem next_w {τ : SS} (hv : lav σ rr = true) (hl : gR σ rr 0 = 1) (hk : Kn rr σ τ) : WP (fL_next τ rr) (fun r => (∃ n, n < 8388608 ∧ r.1 = nI n) ∧ Kn rr σ r.2) :=
  wp_imp (next_s (σ := τ) (c := rr) (by unfold lav at *; rw [hk.1]; exact hv) (by rw [hk.1]; exact hl)) fun r hr => ⟨hr.1, hk.tr hr.2⟩
set_option maxHeartbeats 8000000 in
theorem reads_s (h : Rq rr ii σ) : WP (fL_reads σ ii rr (nI (uO σ)) (nI (vO σ))) (fun r => r.1 = true ∧ Sd r.2 ∧ Stg r.2 ∧ Rf rr σ r.2) := by
  obtain ⟨hd, hB, hU, hV, hSt, ⟨hvr, hlr⟩, ⟨hvi, hli⟩, hir, hQ, hNt, w0, w1, w2, wq⟩ := h
  have gr : 2000 ≤ rr ∧ rr < 2000 + gR σ 0 0 := of_decide_eq_true hvr
  have gi : 2000 ≤ ii ∧ ii < 2000 + gR σ 0 0 := of_decide_eq_true hvi
  have hs := hd.s
  have hf := hd.f
  unfold fL_reads
  refine wp_bndp (next_w hvr hlr (τ := σ) ⟨rfl, fun _ _ _ => rfl⟩) fun v1 σ4 ⟨⟨n1, hn1, e1⟩, k4⟩ => ?_
  have e1 : v1 = nI n1 := e1
  rw [e1, show (9 : Int32) = nI 9 from rfl, nx_at (n := n1) (k := 9) (by omega) (by omega)]
  have d1 := Nat.mod_lt n1 (show 0 < 9 by decide)
  generalize ev : 1 + n1 % 9 = v
  refine wp_v (wp_bndp (next_w hvr hlr k4) fun v6 σ9 ⟨⟨n2, hn2, e2⟩, k9⟩ => ?_)
  have e2 : v6 = nI n2 := e2
  rw [e2, show (30 : Int32) = nI 30 from rfl, nx_at (n := n2) (k := 30) (by omega) (by omega)]
  have d2 := Nat.mod_lt n2 (show 0 < 30 by decide)
  generalize em : 1 + n2 % 30 = m
  refine wp_v (wp_bndp (next_w hvr hlr k9) fun v11 σ14 ⟨⟨n3, hn3, e3⟩, k14⟩ => ?_)
  have e3 : v11 = nI n3 := e3
  rw [e3, show (20 : Int32) = nI 20 from rfl, nx_at (n := n3) (k := 20) (by omega) (by omega)]
  have d3 := Nat.mod_lt n3 (show 0 < 20 by decide)
  generalize ecl : 1 + n3 % 20 = cl
  refine wp_v (wp_bndp (next_w hvr hlr k14) fun v16 σ19 ⟨⟨n4, hn4, e4⟩, k19⟩ => ?_)
  have e4 : v16 = nI n4 := e4
  rw [e4, nx_at (n := n4) (k := 20) (by omega) (by omega)]
  have d4 := Nat.mod_lt n4 (show 0 < 20 by decide)
  generalize erb : 1 + n4 % 20 = rb
  refine wp_v (wp_bndp (next_w hvr hlr k19) fun v21 σ24 ⟨⟨n5, hn5, e5⟩, k24⟩ => ?_)
  have e5 : v21 = nI n5 := e5
  have k24 : Kn rr σ σ24 := k24
  rw [e5, show (5 : Int32) = nI 5 from rfl, rem_nI (i := n5) (w := 5) (by omega) (by decide) (by decide)]
  have d5 := Nat.mod_lt n5 (show 0 < 5 by decide)
  generalize epe : n5 % 5 = pe
  refine wp_v ?_
  have so24 : sO σ24 = sO σ := by unfold sO; rw [k24.1]
  refine sets_s (rr := rr) (U := uO σ) (V := vO σ) (m := m) (cl := cl) (rb := rb) (pe := pe) hU hV (fun k hk => ?_) (by rw [so24]; exact hs) gr.1 (by unfold lav at *; rw [k24.1]; exact hvr) (by rw [k24.1]; exact hlr) (by omega) (by omega) (by omega) (by omega) fun τ1 l sp T1 => ?_
  · obtain ⟨n, h1, h2⟩ := hSt k hk
    exact ⟨n, h1, (k24.2 _ _ (by omega)).trans h2⟩
  obtain ⟨r1, P1, f1, ⟨hl, hsp⟩, a0, a1, a2, a3, a4, a5, a6⟩ := T1
  have r1 : gR τ1 = gR σ := r1.trans k24.1
  have f1 : ∀ c k, ¬ (c = sO σ ∨ c = sO σ + 1) → c ≠ 32 → ¬ (c = rr ∧ k = 0) → gI τ1 c k = gI σ c k := fun c k h1 h2 h3 => (f1 c k (by rw [so24]; exact h1) h2 h3).trans (k24.2 c k h3)
  refine cloop_s hU.2 hV.2 fun τ2 r2 f2 c2 => ?_
  have r2 : gR τ2 = gR σ := r2.trans r1
  have f2' : ∀ c k, ¬ (c = sO σ ∨ c = sO σ + 1) → ¬ (28 ≤ c ∧ c ≤ 29) → c ≠ 32 → ¬ (c = rr ∧ k = 0) → gI τ2 c k = gI σ c k := fun c k h1 h2 h3 h4 => (f2 c k (by omega) (by omega)).trans (f1 c k h1 h3 h4)
  refine wp_v (wp_v ?_)
  -- the told ones' array
  have g00 : gR τ2 0 0 = gR σ 0 0 := by rw [r2]
  have mR : ∀ c k, c ≠ 0 → c < 2000 + gR σ 0 0 → gR (mkL τ2 12) c k = gR σ c k := fun c k h1 h2 => by rw [gR_mkL, if_neg h1, if_neg (by omega), r2]
  have mI : ∀ c k, c < 2000 + gR σ 0 0 → gI (mkL τ2 12) c k = gI τ2 c k := fun c k h1 => by rw [gI_mkL, if_neg (by omega)]
  have m0 : gR (mkL τ2 12) 0 0 = gR σ 0 0 + 1 := by rw [gR_mkL, if_pos rfl, if_pos rfl, g00]
  have mc : lav (mkL τ2 12) (2000 + gR τ2 0 0) = true := lav_mk τ2 12
  have mcl : gR (mkL τ2 12) (2000 + gR τ2 0 0) 0 = 12 := by rw [gR_mkL, if_neg (by omega), if_pos rfl]
  rw [g00] at mc mcl ⊢
  generalize mkL τ2 12 = τ3 at mR mI m0 mc mcl ⊢
  generalize ect : 2000 + gR σ 0 0 = ct at mR mI mc mcl ⊢
  have lvr : lav τ3 rr = true := decide_eq_true ⟨gr.1, by omega⟩
  have lvi : lav τ3 ii = true := decide_eq_true ⟨gi.1, by omega⟩
  have i3 : ∀ c k, c < ct → ¬ (c = sO σ ∨ c = sO σ + 1) → ¬ (28 ≤ c ∧ c ≤ 29) → c ≠ 32 → ¬ (c = rr ∧ k = 0) → gI τ3 c k = gI σ c k := fun c k h0 h1 h2 h3 h4 => (mI c k h0).trans (f2' c k h1 h2 h3 h4)
  have F7 := hd.F (Ag.rf σ)
  refine ticks_s (rr := rr) (ii := ii) (ct := ct) (Q := qO σ) (f := fO σ) (N := nO σ) hQ.2 (fun p hp => ⟨(hd.N hp).1, (hNt p hp).1⟩) (mR 1 5 (by decide) (by omega)) hf (by rw [i3 _ _ (by omega) (by omega) (by omega) (by omega) (by omega)]; exact F7.2.1) (fun p hp => by rw [i3 _ _ (by omega) (by omega) (by omega) (by omega) (by omega)]; exact (F7.2.2.2 p hp).2.2) lvi (by rw [mR _ _ (by omega) (by omega)]; exact hli) lvr (by rw [mR _ _ (by omega) (by omega)]; exact hlr) mc mcl hir (by omega) (by omega) (by rw [i3 _ _ (by omega) (by omega) (by omega) (by omega) (by omega)]; exact w0) (fun p hp => by rw [i3 _ _ (by omega) (by omega) (by omega) (by omega) (by omega)]; exact (wq p hp).2.1) (fun p hp => by rw [i3 _ _ (by omega) (by omega) (by omega) (by omega) (by omega)]; exact (hNt p hp).2) fun Tn τ4 T4 => ?_
  obtain ⟨r4, f4, t4, -⟩ := T4
  have i4 : ∀ c k, c < ct → ¬ (c = sO σ ∨ c = sO σ + 1) → ¬ (28 ≤ c ∧ c ≤ 30) → c ≠ 32 → ¬ (c = rr ∧ k = 0) → gI τ4 c k = gI σ c k := fun c k h0 h1 h2 h3 h4 => (f4 c k (by omega) (by omega) h4).trans (i3 c k h0 h1 (by omega) h3 h4)
  have q4 : ∀ c k, c ≠ 0 → c < ct → gR τ4 c k = gR σ c k := fun c k h1 h2 => by rw [r4]; exact mR c k h1 h2
  -- under it, a sheet that is empty yet
  have low4 : ∀ c k, c < 2000 → c ≠ 30 → gI τ4 c k = gI τ2 c k := fun c k h1 h2 => (f4 c k h2 (by omega) (by omega)).trans (mI c k (by omega))
  have low1 : ∀ c k, c < 2000 → ¬ (28 ≤ c ∧ c ≤ 30) → gI τ4 c k = gI τ1 c k := fun c k h1 h2 => (low4 c k h1 (by omega)).trans (f2 c k (by omega) (by omega))
  have so1 : sO τ1 = sO σ := by unfold sO; rw [r1]
  have so4 : sO τ4 = sO τ1 := by unfold sO; rw [q4 1 2 (by decide) (by omega), r1]
  have P4 : Pc (uO σ + 7) (vO σ + 7) (fun _ _ => 0) τ4 := P1.fr so4 (fun k => low1 _ _ (by omega) (by omega)) (fun k => low1 _ _ (by omega) (by omega))
  obtain ⟨d4', ⟨ew4, eh4, -⟩, ek4, fq4⟩ := hd.anew (σ' := τ4) (sp := sp) (m := m) (fun k => q4 1 k (by decide) (by omega)) P4 (by omega) (by omega) (fun _ _ _ _ => ⟨by decide, by decide⟩) (fun c k c1 c2 => i4 c k (by omega) (by omega) (by omega) (by omega) (by omega)) ((low1 _ _ (by omega) (by omega)).trans a1) (by omega) ((low1 _ _ (by omega) (by omega)).trans a3) (by omega)
  have B4 := hB.fq fq4
  obtain ⟨g1, g2, g3, g4, g5, g6, g7, g8, g9⟩ := id fq4
  have lin4 : ∀ k, k < 300 → lin τ4 ii (nI k) = true := fun k hk => lin_of (decide_eq_true ⟨gi.1, by rw [r4, m0]; omega⟩) (by rw [q4 _ _ (by omega) (by omega)]; exact hli) hk (by decide)
  have ii4 : ∀ k, gI τ4 ii k = gI σ ii k := fun k => i4 _ _ (by omega) (by omega) (by omega) (by omega) (by omega)
  refine wp_grd (lin4 1 (by decide)) (wp_grd (lin4 2 (by decide)) ?_)
  rw [ii4, ii4, w1, w2, nI_mul, nI_mul]
  refine wp_v ?_
  refine wp_vk (fun s t => s = (1 : Int32) ∧ ∃ β, Prd β Tn l v ∧ Fq τ4 β ∧ gR β = gR τ4 ∧ (∀ c k, c ≠ sO τ4 → c ≠ sO τ4 + 1 → c ≠ 45 → gI β c k = gI τ4 c k) ∧ Ag β t) (fun s80 σ81 hs80 => ?_) (fun j432 hj => ?_)
  · obtain ⟨rfl, β, hP, fqβ, rβ, fβ, ha⟩ := hs80
    obtain ⟨x1, x2, x3, x4, x5, x6, x7, x8, x9⟩ := id fqβ
    have y : ∀ k, gI β 32 k = gI τ1 32 k := fun k => (fβ _ _ (by omega) (by omega) (by omega)).trans (low1 _ _ (by omega) (by omega))
    have eQ : qO β = qO σ := x6.trans g6
    have eN : nO β = nO σ := x7.trans g7
    have eA : aO β = aO σ := x4.trans g4
    have eBB : bO β = bO σ := x5.trans g5
    have eF : fO β = fO σ := x1.trans g1
    have h0 : (Tn 0).testBit 0 = false := (t4 0 (by omega)).2.2.2 rfl
    have fβ' : ∀ c k, c < ct → ¬ (3 ≤ c ∧ c ≤ 8) → ¬ (28 ≤ c ∧ c ≤ 30) → c ≠ 32 → c ≠ 45 → ¬ (c = rr ∧ k = 0) → gI β c k = gI σ c k := fun c k h0 h1 h2 h3 h4 h5 => (fβ c k (by omega) (by omega) h4).trans (i4 c k h0 (by omega) h2 h3 h5)
    have qβ : ∀ c k, c ≠ 0 → c < ct → gR β c k = gR σ c k := fun c k h1 h2 => by rw [rβ]; exact q4 c k h1 h2
    have L : Lw ii ct Tn β := by
      refine ⟨decide_eq_true ⟨gi.1, by rw [rβ, r4, m0]; omega⟩, by rw [qβ _ _ (by omega) (by omega)]; exact hli, by unfold lav at *; rw [rβ, r4]; exact mc, by rw [rβ, r4]; exact mcl, by rw [fβ' _ _ (by omega) (by omega) (by omega) (by omega) (by omega) (by omega), eQ]; exact w0, fun p hp => ?_⟩
      rw [eQ] at hp
      obtain ⟨z1, z2, z3, z4⟩ := wq p hp
      have wi : ∀ k, gI β ii k = gI σ ii k := fun k => fβ' _ _ (by omega) (by omega) (by omega) (by omega) (by omega) (by omega)
      have wf : ∀ j, j ≤ 7 → gI β (fO σ + j) p = gI σ (fO σ + j) p := fun j hj => fβ' _ _ (by omega) (by omega) (by omega) (by omega) (by omega) (by omega)
      rw [wi, wi, wi, wi, eF, eN, wf 1 (by decide), wf 4 (by decide), wf 5 (by decide)]
      exact ⟨z1, z2, z3, z4, (fβ _ _ (by omega) (by omega) (by omega)).trans (t4 p hp).2.1⟩
    have eT : tkC (nO σ) Tn (qO σ) = tC β Tn := by show _ = tkC (nO β) Tn (qO β); rw [eN, eQ]
    have eK : aO σ * bO σ * v = dK β v := by show _ = aO β * bO β * v; rw [eA, eBB]
    have eS : psum (nO σ) (qO σ) = psum (nO β) (qO β) := by rw [eN, eQ]
    rw [eT, eK, eS]
    refine asked_s (cl := cl) hP L (by rw [eQ]; exact hQ.1) (by rw [eQ]; exact hQ.2) h0 ((y 3).trans a3) ((y 4).trans a4) ((y 5).trans a5) ((y 6).trans a6) (by omega) (by omega) (by omega) ha fun τ5 b5 => ?_
    refine wp_imp (fin_s (cl := cl) (rb := rb) hP (by rw [eQ]; exact hQ.1) h0 ((y 3).trans a3) ((y 4).trans a4) ((y 5).trans a5) (by omega) (by omega) (by omega) b5) fun r hr => ?_
    obtain ⟨hr1, hr2⟩ := hr
    have kr := hr2.kf
    refine ⟨hr1, kr.sd hP.1, fun k hk => ?_, fun c k c1 c2 => ?_, fun c k c1 c2 c3 c4 c5 c6 => ?_, ?_⟩
    · rw [kr.m k, y k]
      rcases (show k = 0 ∨ k = 1 ∨ k = 2 ∨ k = 3 ∨ k = 4 ∨ k = 5 ∨ k = 6 by omega) with rfl | rfl | rfl | rfl | rfl | rfl | rfl
      · exact ⟨l, hl, a0⟩
      · exact ⟨sp, ⟨hsp.1, by show sp ≤ 20; omega⟩, a1⟩
      · exact ⟨9, ⟨by decide, by decide⟩, a2⟩
      · exact ⟨m, ⟨by show 1 ≤ m; omega, by show m ≤ 200; omega⟩, a3⟩
      · exact ⟨cl, ⟨by show 0 ≤ cl; omega, by show cl ≤ 200; omega⟩, a4⟩
      · exact ⟨rb, ⟨by show 0 ≤ rb; omega, by show rb ≤ 200; omega⟩, a5⟩
      · exact ⟨pe, ⟨by show 0 ≤ pe; omega, by show pe ≤ 20; omega⟩, a6⟩
    · rw [hr2.1]; exact qβ c k c1 (by omega)
    · rw [hr2.2 c k c2]
      exact fβ' c k (by omega) c3 c4 c5 (by unfold Sk at c2; omega) c6
    · rw [hr2.1, rβ, r4, m0]; omega
  · refine wp_vk1 (fun _ => False) (fun _ q => q.elim) fun j431 _ => ?_
    rw [if_neg (by decide)]
    have low28 : ∀ k, k < 4 → gI τ4 28 k = nI (cX (uO τ4) k) ∧ gI τ4 29 k = nI (cY (vO τ4) k) := fun k hk => by
      rw [g2, g3, low4 _ _ (by omega) (by omega), low4 _ _ (by omega) (by omega)]
      exact c2 k hk
    refine wp_bndp (just_s (τ := τ4) (Tn := Tn) (l := l) (v := v) (sp := sp) (m := m) d4' (by rw [g2]; omega) (by rw [g3]; omega) (by rw [ew4, g2]) (by rw [eh4, g3]) low28 (by omega) hl ((low1 _ _ (by omega) (by omega)).trans a0) ((low1 _ _ (by omega) (by omega)).trans a1) (by omega) ((low1 _ _ (by omega) (by omega)).trans a2) ((low1 _ _ (by omega) (by omega)).trans a3) (by omega) (fun p hp => by rw [g6] at hp; rw [g7]; exact ⟨(t4 p hp).1, (t4 p hp).2.2.1⟩) B4) fun v184 β ⟨hP, fqβ, eV, eC, rβ, fβ⟩ => ?_
    have hP : Prd β Tn l v := hP
    have fqβ : Fq τ4 β := fqβ
    have eV : v184 = _ := eV
    have eC : fX7_count β (10 : Int32) = _ := eC
    have rβ : gR β = gR τ4 := rβ
    have fβ : ∀ c k, c ≠ sO τ4 → c ≠ sO τ4 + 1 → c ≠ 45 → gI β c k = gI τ4 c k := fβ
    obtain ⟨x1, x2, x3, x4, x5, x6, x7, x8, x9⟩ := id fqβ
    have linβ : ∀ k, k < 300 → lin β ii (nI k) = true := fun k hk => by have := lin4 k hk; unfold lin lav at *; rw [rβ]; exact this
    have iiβ : ∀ k, gI β ii k = gI σ ii k := fun k => (fβ _ _ (by omega) (by omega) (by omega)).trans (ii4 k)
    have eT : tC β Tn = tkC (nO σ) Tn (qO σ) := by show tkC (nO β) Tn (qO β) = _; rw [x6.trans g6, x7.trans g7]
    refine wp_grd (linβ 1 (by decide)) (wp_grd (linβ 2 (by decide)) ?_)
    rw [eT, x4.trans g4, x5.trans g5] at eV eC
    rw [iiβ, iiβ, w1, w2, eV, nI_mul, nI_mul, show (36 : Int32) = nI 36 from rfl, nI_add, Nat.mul_assoc, if_pos rfl, bnd1_of _ eC, nI_mul, show (324 : Int32) = nI 324 from rfl, nI_add, if_pos]
    · refine wp_bndp (marked_s hP.1 (Ag.rf β)) fun v193 σ196 ⟨ha, ym⟩ => ?_
      have e193 : v193 = 1 := by
        rcases ym with q | q
        · exact q.2
        · exact absurd hP.mk q.1
      rw [e193, if_pos rfl]
      exact hj _ _ ⟨rfl, β, hP, fqβ, rβ, fβ, ha⟩
    · congr 2
      ac_rfl
end READS
