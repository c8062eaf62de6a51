/-! Marks: the reference's; mark, marked kept. -/
def md (v : Int32) : Int32 := if v < 0 then -2 else v
theorem md_nI {b : Nat} (h : b < 2 ^ 31) : md (nI b) = nI b := if_neg (nI_pos h)
section MARK8
variable {σ : SS} {w q n k : Nat} {s x y : Nat → Nat} {mk : Int32}
theorem near8m {cx cy : Int64} {k186 : Int32 → SS → Option SS} (hk : k < 4) (hn : n ≤ 800) (e43 : gI σ 73 43 = nI n) (emk : gI σ 88 2 = mk) (hz : ∀ b, b < n → gI σ 94 b = nI (s b) ∧ gI σ 95 b = nI (x b) ∧ gI σ 96 b = nI (y b)) (hb : ∀ b, b < n → s b < 2 ^ 31 ∧ x b < 2 ^ 31 ∧ y b < 2 ^ 31) {P : SS → Prop} (hP : ∀ σ', gR σ' = gR σ → (∀ c j, gI σ' c j = gI σ c j) → (∀ c j, j ≠ k → gL σ' c j = gL σ c j) → (∀ b, b < n → (nrR w q s x y cx cy mk n).1 = nI b → gL σ' 105 k = lN (s b)) → WP (k186 (md (nrR w q s x y cx cy mk n).1) σ') P) : WP (X8_laysMark_L46 (nI k) cx cy k186 fuel (-2 : Int32) (0 : Int64) (0 : Int32) σ) P := by
  unfold X8_laysMark_L46
  refine wf_4 n (fun i v6 w7 v9 σ' => v6 = md (nrR w q s x y cx cy mk i).1 ∧ w7 = (nrR w q s x y cx cy mk i).2.1 ∧ v9 = nI i ∧ gR σ' = gR σ ∧ (∀ c j, gI σ' c j = gI σ c j) ∧ (∀ c j, j ≠ k → gL σ' c j = gL σ c j) ∧ ∀ b, b < n → (nrR w q s x y cx cy mk i).1 = nI b → gL σ' 105 k = lN (s b)) ⟨(show (-2 : Int32) = md (-1) by decide), rfl, rfl, rfl, fun _ _ => rfl, fun _ _ _ => rfl, fun b hb h => absurd h.symm (nI_m1 (by omega))⟩ (by omega) ?_ ?_
  · rintro i _ _ _ σ' rec hi ⟨rfl, rfl, rfl, i1, i2, i3, i4⟩ hr
    obtain ⟨h1, h2, h3⟩ := hz i hi
    obtain ⟨l1, l2, l3⟩ := hb i hi
    have e : nrR w q s x y cx cy mk (i + 1) = nrS w q s x y cx cy mk i (nrR w q s x y cx cy mk i) := rfl
    have hrng := nrR_rng (w := w) (q := q) (s := s) (x := x) (y := y) (cx := cx) (cy := cy) (mk := mk) i (by omega)
    rw [e] at hr
    rw [i2 73 43, e43, if_neg (nI_ge hi (by omega)), nI_clamp (by omega), i2 88 2, emk, i2 94, i2 95, i2 96, h1, h2, h3, nI_l l1, nI_l l2, nI_l l3, nI_clamp (by omega), nI_1]
    refine wp_grd (inb_nI (by omega) (by decide)) ?_
    generalize nrR w q s x y cx cy mk i = r at hr hrng i4 ⊢
    by_cases c1 : nI (s i) < mk
    · rw [if_neg (Int32.not_le.mpr c1)]
      have er : nrS w q s x y cx cy mk i r = r := by unfold nrS; rw [if_pos c1]
      rw [er] at hr
      exact hr _ _ _ _ ⟨rfl, rfl, rfl, i1, i2, i3, i4⟩
    rw [if_pos (Int32.not_lt.mp c1)]
    simp only [vthen_q]
    rw [Int64.mul_comm cx, Int64.mul_comm cy]
    have up : nrS w q s x y cx cy mk i r = (nI i, (lN (x i) - lN (s i) * cx) * (lN (x i) - lN (s i) * cx) + (lN (y i) - lN (s i) * cy) * (lN (y i) - lN (s i) * cy), lN (s i) * lN (s i)) → WP (grd (inb (nI k) 4) (rec (nI i) ((lN (x i) - lN (s i) * cx) * (lN (x i) - lN (s i) * cx) + (lN (y i) - lN (s i) * cy) * (lN (y i) - lN (s i) * cy)) (nI (i + 1)) (sL σ' 105 k (lN (s i))))) P := fun er => by
      rw [er] at hr
      refine wp_grd (inb_nI hk (by decide)) (hr _ _ _ _ ⟨(md_nI (by omega)).symm, rfl, rfl, i1, i2, fun c j hj => by rw [gL_sL, if_neg (by omega)]; exact i3 c j hj, fun b hb he => ?_⟩)
      have : i = b := (nI_eq (by omega) (by omega)).mp he
      subst this
      rw [gL_sL, if_pos ⟨rfl, rfl⟩]
    rcases hrng with h | ⟨b, hb1, hb2, hb3⟩
    · have hneg : r.1 < 0 := by rw [h]; decide
      have hneg2 : md r.1 < 0 := by rw [h]; decide
      rw [if_pos hneg2]
      exact up (by unfold nrS; rw [if_neg c1, if_pos hneg])
    · have hpos : ¬ r.1 < 0 := by rw [hb2]; exact nI_pos (by omega)
      have em : md r.1 = r.1 := if_neg hpos
      have hL := i4 b (by omega) hb2
      rw [em, if_neg hpos, hL]
      rw [Int64.mul_assoc, ← hb3, Int64.mul_assoc]
      refine wp_grd (inb_nI hk (by decide)) ?_
      by_cases c3 : 0 ≤ lg_cmp (((lN (x i) - lN (s i) * cx) * (lN (x i) - lN (s i) * cx) + (lN (y i) - lN (s i) * cy) * (lN (y i) - lN (s i) * cy)) * r.2.2) (r.2.1 * (lN (s i) * lN (s i)))
      · rw [if_neg (Int32.not_lt.mpr c3)]
        have er : nrS w q s x y cx cy mk i r = r := by unfold nrS; rw [if_neg c1, if_neg hpos, if_pos c3]
        rw [er] at hr
        exact hr _ _ _ _ ⟨em.symm, rfl, rfl, i1, i2, i3, i4⟩
      · rw [if_pos (Int32.not_le.mp c3)]
        exact up (by unfold nrS; rw [if_neg c1, if_neg hpos, if_neg c3])
  · rintro _ _ _ σ' rec ⟨rfl, rfl, rfl, i1, i2, i3, i4⟩
    rw [i2 73 43, e43, if_pos (nI_le (Nat.le_refl _) (by omega))]
    exact hP σ' i1 i2 i3 i4
end MARK8
section MARKS8
variable {σ : SS} {w q spk k : Nat} {mk : Int32} {ink : Nat → Prop}
theorem mark8 (hk : k < 4) (hw : 8 ≤ w ∧ w ≤ 40) (hq : 8 ≤ q ∧ q ≤ 40) (hspk : 1 ≤ spk) (e3 : gI σ 73 29 = nI w) (e4 : gI σ 73 30 = nI q) (e43 : gI σ 73 43 = nI (nB w q spk ink (w * q))) (emk : gI σ 88 2 = mk) (hz : ∀ b, b < nB w q spk ink (w * q) → gI σ 94 b = nI (zS w q spk ink b) ∧ gI σ 95 b = nI (zX w q spk ink b) ∧ gI σ 96 b = nI (zY w q spk ink b)) : WP (fX8_laysMark σ (nI k)) (fun r => gR r = gR σ ∧ (∀ c j, ¬ (c = 102 ∧ j = k) → gI r c j = gI σ c j) ∧ gI r 102 k = md (mkB w q spk mk ink k) ∧ (∀ c j, j ≠ k → gL r c j = gL σ c j) ∧ ∀ b, b < nB w q spk ink (w * q) → mkB w q spk mk ink k = nI b → gL r 103 k = lN (zX w q spk ink b) ∧ gL r 104 k = lN (zY w q spk ink b) ∧ gL r 105 k = lN (zS w q spk ink b)) := by
  have hn8 := nB_le (spk := spk) (ink := ink) hw.2 hq.2
  have hl : ∀ b, b < nB w q spk ink (w * q) → zS w q spk ink b < 2 ^ 31 ∧ zX w q spk ink b < 2 ^ 31 ∧ zY w q spk ink b < 2 ^ 31 := fun b hb => by
    obtain ⟨⟨_, h1⟩, h2, h3⟩ := z_bd (spk := spk) (ink := ink) ⟨by omega, hw.2⟩ ⟨by omega, hq.2⟩ hspk hb
    exact ⟨by omega, by omega, by omega⟩
  unfold fX8_laysMark
  rw [show irm (nI k) (2 : Int32) = nI (k % 2) from rem_nI (w := 2) (by omega) (by omega) (by omega), e3, e4]
  have body : WP (X8_laysMark_L46 (nI k) (lN (crX w k)) (lN (crY q k)) (fun v11 σ12 =>
        grd (inb (nI k) 4) <|
        vthen (sI σ12 102 (Int32.toNatClampNeg (nI k)) v11) fun σ14 =>
        if 0 ≤ v11 then (
          grd (inb v11 801) <|
          vthen (sL σ14 103 (Int32.toNatClampNeg (nI k)) (Int32.toInt64 (gI σ14 95 (Int32.toNatClampNeg v11)))) fun σ16 =>
          vthen (sL σ16 104 (Int32.toNatClampNeg (nI k)) (Int32.toInt64 (gI σ16 96 (Int32.toNatClampNeg v11)))) fun σ17 =>
          some σ17
          ) else (
          some σ14
          )) fuel (-2 : Int32) (0 : Int64) (0 : Int32) σ) (fun r => gR r = gR σ ∧ (∀ c j, ¬ (c = 102 ∧ j = k) → gI r c j = gI σ c j) ∧ gI r 102 k = md (mkB w q spk mk ink k) ∧ (∀ c j, j ≠ k → gL r c j = gL σ c j) ∧ ∀ b, b < nB w q spk ink (w * q) → mkB w q spk mk ink k = nI b → gL r 103 k = lN (zX w q spk ink b) ∧ gL r 104 k = lN (zY w q spk ink b) ∧ gL r 105 k = lN (zS w q spk ink b)) := by
    refine near8m (w := w) (q := q) hk hn8 e43 emk hz hl fun σ' i1 i2 i3 i4 => ?_
    have eB : (nrR w q (zS w q spk ink) (zX w q spk ink) (zY w q spk ink) (lN (crX w k)) (lN (crY q k)) mk (nB w q spk ink (w * q))).1 = mkB w q spk mk ink k := rfl
    rw [eB] at i4 ⊢
    have hrng := nrR_rng (w := w) (q := q) (s := zS w q spk ink) (x := zX w q spk ink) (y := zY w q spk ink) (cx := lN (crX w k)) (cy := lN (crY q k)) (mk := mk) (nB w q spk ink (w * q)) (by omega)
    rw [eB] at hrng
    simp only [vthen_q]
    rw [nI_clamp (by omega)]
    refine wp_grd (inb_nI hk (by decide)) ?_
    rcases hrng with h | ⟨b, hb1, hb2, -⟩
    · rw [h, if_neg (by decide)]
      refine wp_some ⟨i1, fun c j hc => by rw [gI_nk hc]; exact i2 c j, gI_eq _ _ _ _, fun c j hj => i3 c j hj, fun b hb he => absurd he.symm (nI_m1 (by omega))⟩
    · obtain ⟨p1, p2, p3⟩ := hl b hb1
      obtain ⟨z1, z2, z3⟩ := hz b hb1
      rw [hb2, md_nI (by omega), if_pos (nI_pos' (by omega)), nI_clamp (by omega)]
      refine wp_grd (inb_nI (by omega) (by decide)) ?_
      rw [gI_sL, gI_ne (by omega), gI_ne (by omega), i2, i2, z2, z3, nI_l p2, nI_l p3]
      refine wp_some ⟨i1, fun c j hc => by rw [gI_sL, gI_sL, gI_nk hc]; exact i2 c j, by rw [gI_sL, gI_sL, gI_eq], fun c j hj => ?_, fun b' hb' he => ?_⟩
      · rw [gL_sL, if_neg (by omega), gL_sL, if_neg (by omega)]; exact i3 c j hj
      · have : b = b' := (nI_eq (by omega) (by omega)).mp he
        subst this
        refine ⟨by rw [gL_sL, if_neg (by omega), gL_sL, if_pos ⟨rfl, rfl⟩], by rw [gL_sL, if_pos ⟨rfl, rfl⟩], ?_⟩
        rw [gL_sL, if_neg (by omega), gL_sL, if_neg (by omega)]
        exact i4 b hb1 hb2
  refine wp_vk1 (fun v => v = lN (crX w k)) ?_ fun j hj => ?_
  · rintro _ rfl
    refine wp_vk1 (fun v => v = lN (crY q k)) ?_ fun j hj => ?_
    · rintro _ rfl
      exact body
    · unfold crY at hj
      by_cases c : k / 2 = 0
      · rw [if_neg (by show ¬ nI 2 ≤ nI k; exact nI_ge (by omega) (by omega))]; exact hj _ (by rw [if_pos c]; rfl)
      · rw [if_pos (by show nI 2 ≤ nI k; exact nI_le (by omega) (by omega)), show nI q - 1 = nI (q - 1) from nI_sub (a := q) (b := 1) (by omega), nI_l (by omega)]
        exact hj _ (by rw [if_neg c])
  · unfold crX at hj
    by_cases c : k % 2 = 0
    · rw [if_pos (by rw [c]; rfl)]; exact hj _ (by rw [if_pos c]; rfl)
    · rw [if_neg (nI_ne0 (by omega) (by omega)), show nI w - 1 = nI (w - 1) from nI_sub (a := w) (b := 1) (by omega), nI_l (by omega)]
      exact hj _ (by rw [if_neg c])
/-- the reference's marks -/
def K8 (w q spk : Nat) (mk : Int32) (ink : Nat → Prop) (r : SS) : Prop := (∀ k, k < 4 → gI r 102 k = md (mkB w q spk mk ink k)) ∧ (frU (mkB w q spk mk ink) 4 ∧ gI r 73 49 = 1 ∨ ¬ frU (mkB w q spk mk ink) 4 ∧ gI r 73 49 = 0) ∧ ∀ k, k < 4 → ∀ b, b < nB w q spk ink (w * q) → mkB w q spk mk ink k = nI b → gL r 103 k = lN (zX w q spk ink b) ∧ gL r 104 k = lN (zY w q spk ink b) ∧ gL r 105 k = lN (zS w q spk ink b)
theorem marks8 (hw : 8 ≤ w ∧ w ≤ 40) (hq : 8 ≤ q ∧ q ≤ 40) (e3 : gI σ 73 29 = nI w) (e4 : gI σ 73 30 = nI q) (hink : ∀ k, k < w * q → (gI σ 83 k < gI σ 88 0 ↔ ¬ ink k)) (e88 : gI σ 88 1 = nI spk) (hspk : 1 ≤ spk ∧ spk ≤ 20) (emk : gI σ 88 2 = mk) : WP (fX8_laysMarks σ) (fun r => gR r = gR σ ∧ (∀ c k, ¬ (92 ≤ c ∧ c ≤ 102) → ¬ (c = 73 ∧ (k = 43 ∨ k = 44 ∨ k = 49)) → gI r c k = gI σ c k) ∧ K8 w q spk mk ink r) := by
  obtain ⟨r1, x1, a1, a2, a3, a4, -⟩ := lays8 (σ := σ) ⟨by omega, hw.2⟩ ⟨by omega, hq.2⟩ e3 e4 hink e88 hspk
  have hn8 := nB_le (spk := spk) (ink := ink) hw.2 hq.2
  have hz : ∀ b, b < nB w q spk ink (w * q) → gI r1 94 b = nI (zS w q spk ink b) ∧ gI r1 95 b = nI (zX w q spk ink b) ∧ gI r1 96 b = nI (zY w q spk ink b) := fun b hb => by
    obtain ⟨h1, h2, h3⟩ := blS_p hb
    obtain ⟨⟨u0, u1, u2⟩, -⟩ := a4 _ h1 h2
    rw [h3] at u0 u1 u2
    exact ⟨u0, u1, u2⟩
  unfold fX8_laysMarks
  rw [bnd1_of _ x1]
  refine wp_vv ?_; intro σ2 g2
  have fl0 : gI σ2 73 49 = 1 := by rw [g2, gI_eq]
  have f2 : ∀ c k, ¬ (c = 73 ∧ k = 49) → gI σ2 c k = gI r1 c k := fun c k hc => by rw [g2, gI_nk hc]
  unfold X8_laysMarks_L11
  refine wf_2 4 (fun k v s' => v = nI k ∧ gR s' = gR r1 ∧ (∀ c j, c ≠ 102 → ¬ (c = 73 ∧ j = 49) → gI s' c j = gI r1 c j) ∧ (∀ j, j < k → gI s' 102 j = md (mkB w q spk mk ink j)) ∧ (frU (mkB w q spk mk ink) k ∧ gI s' 73 49 = 1 ∨ ¬ frU (mkB w q spk mk ink) k ∧ gI s' 73 49 = 0) ∧ ∀ j, j < k → ∀ b, b < nB w q spk ink (w * q) → mkB w q spk mk ink j = nI b → gL s' 103 j = lN (zX w q spk ink b) ∧ gL s' 104 j = lN (zY w q spk ink b) ∧ gL s' 105 j = lN (zS w q spk ink b)) ⟨rfl, by rw [g2]; rfl, fun c j _ hc => f2 c j hc, fun j hj => absurd hj (by omega), Or.inl ⟨fun j hj => absurd hj (by omega), fl0⟩, fun j hj => absurd hj (by omega)⟩ (by omega) ?_ ?_
  · rintro k _ s' rec hk ⟨rfl, i1, i2, i3, i4, i5⟩ hr
    rw [if_neg (by show ¬ nI 4 ≤ nI k; exact nI_ge hk (by decide)), nI_clamp (by omega), nI_1]
    refine wp_bnd1 (mark8 (k := k) (spk := spk) (ink := ink) (mk := mk) hk hw hq hspk.1 (by rw [i2 _ _ (by omega) (by omega), a2 _ _ (by omega) (by omega)]; exact e3) (by rw [i2 _ _ (by omega) (by omega), a2 _ _ (by omega) (by omega)]; exact e4) (by rw [i2 _ _ (by omega) (by omega)]; exact a3) (by rw [i2 _ _ (by omega) (by omega), a2 _ _ (by omega) (by omega)]; exact emk) (fun b hb => by rw [i2 _ _ (by omega) (by omega), i2 _ _ (by omega) (by omega), i2 _ _ (by omega) (by omega)]; exact hz b hb)) ?_
    rintro s3 ⟨m1, m2, m3, m4, m5⟩
    rw [m2 73 49 (by omega), m3]
    have all : ∀ j, j < k + 1 → gI s3 102 j = md (mkB w q spk mk ink j) := fun j hj => by
      by_cases e : j = k
      · subst e; exact m3
      · rw [m2 _ _ (by omega)]; exact i3 j (by omega)
    have allL : ∀ j, j < k + 1 → ∀ b, b < nB w q spk ink (w * q) → mkB w q spk mk ink j = nI b → gL s3 103 j = lN (zX w q spk ink b) ∧ gL s3 104 j = lN (zY w q spk ink b) ∧ gL s3 105 j = lN (zS w q spk ink b) := fun j hj b hb he => by
      by_cases e : j = k
      · subst e; exact m5 b hb he
      · rw [m4 _ _ e, m4 _ _ e, m4 _ _ e]; exact i5 j (by omega) b hb he
    have rest : ∀ fl : Bool, (fl = true ↔ frU (mkB w q spk mk ink) k ∧ 0 ≤ mkB w q spk mk ink k) → WP (vthen (sI s3 73 49 (b2i fl)) fun σ5 => X8_laysMarks_L48 (nI k) (fun σ10 => rec (nI (k + 1)) σ10) fuel (0 : Int32) σ5) (fun r => gR r = gR σ ∧ (∀ c k, ¬ (92 ≤ c ∧ c ≤ 102) → ¬ (c = 73 ∧ (k = 43 ∨ k = 44 ∨ k = 49)) → gI r c k = gI σ c k) ∧ K8 w q spk mk ink r) := fun fl hfl => by
      refine wp_vv ?_; intro σ5 g5
      unfold X8_laysMarks_L48
      refine wf_2 k (fun i v s7 => v = nI i ∧ gR s7 = gR s3 ∧ (∀ c j, ¬ (c = 73 ∧ j = 49) → gI s7 c j = gI s3 c j) ∧ (∀ c j, gL s7 c j = gL s3 c j) ∧ ((frU (mkB w q spk mk ink) k ∧ 0 ≤ mkB w q spk mk ink k ∧ ∀ i', i' < i → ¬ mkB w q spk mk ink i' = mkB w q spk mk ink k) ∧ gI s7 73 49 = 1 ∨ ¬ (frU (mkB w q spk mk ink) k ∧ 0 ≤ mkB w q spk mk ink k ∧ ∀ i', i' < i → ¬ mkB w q spk mk ink i' = mkB w q spk mk ink k) ∧ gI s7 73 49 = 0)) ⟨rfl, by rw [g5]; rfl, fun c j hc => by rw [g5, gI_nk hc], fun c j => by rw [g5]; rfl, ?_⟩ (by omega) ?_ ?_
      · rw [g5, gI_eq]
        cases fl with
        | true => exact Or.inl ⟨⟨(hfl.mp rfl).1, (hfl.mp rfl).2, fun i hi => absurd hi (by omega)⟩, rfl⟩
        | false => exact Or.inr ⟨fun h => absurd (hfl.mpr ⟨h.1, h.2.1⟩) (by decide), rfl⟩
      · rintro i _ s7 rec7 hi ⟨rfl, l1, l2, l3, l4⟩ hr7
        rw [if_neg (nI_ge hi (by omega)), nI_1]
        refine wp_vk1 (fun v : Bool => v = true ↔ frU (mkB w q spk mk ink) k ∧ 0 ≤ mkB w q spk mk ink k ∧ ∀ i', i' < i + 1 → ¬ mkB w q spk mk ink i' = mkB w q spk mk ink k) ?_ fun j hj => ?_
        · intro b hb
          refine wp_vv ?_; intro s8 g8
          refine hr7 _ _ ⟨rfl, by rw [g8]; exact l1, fun c j hc => by rw [g8, gI_nk hc]; exact l2 c j hc, fun c j => by rw [g8]; exact l3 c j, ?_⟩
          rw [g8, gI_eq]
          cases b with
          | true => exact Or.inl ⟨hb.mp rfl, rfl⟩
          | false => exact Or.inr ⟨fun h => absurd (hb.mpr h) (by decide), rfl⟩
        · refine wp_v ?_
          dsimp only
          rcases l4 with ⟨⟨p1, p2, p3⟩, p4⟩ | ⟨p1, p2⟩
          · rw [p4, if_neg (by decide), nI_clamp (by omega), nI_clamp (by omega), l2 _ _ (by omega), l2 _ _ (by omega), all i (by omega), all k (by omega)]
            refine wp_grd (inb_nI (by omega) (by decide)) (wp_grd (inb_nI (by omega) (by decide)) ?_)
            have e1 : md (mkB w q spk mk ink i) = mkB w q spk mk ink i := if_neg (Int32.not_lt.mpr (p1 i hi).1)
            have e2 : md (mkB w q spk mk ink k) = mkB w q spk mk ink k := if_neg (Int32.not_lt.mpr p2)
            rw [e1, e2]
            refine wp_if (fun h => hj _ ?_) fun h => hj _ ?_
            · exact ⟨fun h2 => absurd h2 (by decide), fun h2 => absurd h (h2.2.2 i (by omega))⟩
            · refine ⟨fun _ => ⟨p1, p2, fun i' hi' => ?_⟩, fun _ => rfl⟩
              by_cases e : i' = i
              · subst e; exact h
              · exact p3 i' (by omega)
          · rw [p2, if_pos rfl]
            exact hj _ ⟨fun h2 => absurd h2 (by decide), fun h2 => absurd ⟨h2.1, h2.2.1, fun i' hi' => h2.2.2 i' (by omega)⟩ p1⟩
      · rintro _ s7 rec7 ⟨rfl, l1, l2, l3, l4⟩
        rw [if_pos (nI_le (Nat.le_refl _) (by omega))]
        have hfr : frU (mkB w q spk mk ink) (k + 1) ↔ (frU (mkB w q spk mk ink) k ∧ 0 ≤ mkB w q spk mk ink k ∧ ∀ i', i' < k → ¬ mkB w q spk mk ink i' = mkB w q spk mk ink k) := by
          constructor
          · exact fun h => ⟨fun j hj => h j (by omega), h k (by omega)⟩
          · rintro ⟨h1, h2⟩ j hj
            by_cases e : j = k
            · subst e; exact h2
            · exact h1 j (by omega)
        refine hr _ _ ⟨rfl, (l1.trans m1).trans i1, fun c j c1 c2 => by rw [l2 c j c2, m2 c j (by omega)]; exact i2 c j c1 c2, fun j hj => by rw [l2 _ _ (by omega)]; exact all j hj, by rw [hfr]; exact l4, fun j hj b hb he => by rw [l3, l3, l3]; exact allL j hj b hb he⟩
    refine wp_vk1 (fun v : Bool => v = true ↔ frU (mkB w q spk mk ink) k ∧ 0 ≤ mkB w q spk mk ink k) (fun b hb => rest b hb) fun j hj => ?_
    refine wp_v ?_
    dsimp only
    rcases i4 with ⟨p1, p2⟩ | ⟨p1, p2⟩
    · rw [p2, if_neg (by decide)]
      refine wp_grd (inb_nI (by omega) (by decide)) (wp_if (fun h => hj _ ?_) fun h => hj _ ?_)
      · refine ⟨fun h2 => absurd h2 (by decide), fun h2 => ?_⟩
        unfold md at h
        rw [if_neg (Int32.not_lt.mpr h2.2)] at h
        exact absurd h2.2 (Int32.not_le.mpr h)
      · refine ⟨fun _ => ⟨p1, Classical.byContradiction fun h2 => h ?_⟩, fun _ => rfl⟩
        unfold md
        rw [if_pos (Int32.not_le.mp h2)]; decide
    · rw [p2, if_pos rfl]
      exact hj _ ⟨fun h2 => absurd h2 (by decide), fun h2 => absurd h2.1 p1⟩
  · rintro _ s' rec ⟨rfl, i1, i2, i3, i4, i5⟩
    rw [if_pos (by decide)]
    exact wp_some ⟨i1.trans a1, fun c k c1 c2 => by rw [i2 c k (by omega) (by omega)]; exact a2 c k (by omega) (by omega), i3, i4, i5⟩
end MARKS8
