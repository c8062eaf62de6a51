/-! 16: one standing compared with another; what is judged; the law's margins and boxes. -/
def Cq (β β' : SS) : Prop := (∀ k, gR β' 1 k = gR β 1 k) ∧ ∀ c k, c < 2000 → ¬ Sk c k → ¬ (c = 32 ∧ 3 ≤ k) → gI β' c k = gI β c k
theorem Cq.rf (β : SS) : Cq β β := ⟨fun _ => rfl, fun _ _ _ _ _ => rfl⟩
theorem Cq.tr {a b c : SS} (h : Cq a b) (h' : Cq b c) : Cq a c := ⟨fun k => (h'.1 k).trans (h.1 k), fun q k h1 h2 h3 => (h'.2 q k h1 h2 h3).trans (h.2 q k h1 h2 h3)⟩
theorem Ag.cq {β σ : SS} (h : Ag β σ) : Cq β σ := ⟨fun k => by rw [h.1], fun c k _ h2 _ => h.2 c k h2⟩
section CQ
variable {β β' σ : SS}
theorem Cq.s (h : Cq β β') : sO β' = sO β := h.1 2
theorem Cq.f (h : Cq β β') : fO β' = fO β := h.1 5
theorem Cq.eqs (h : Cq β β') (hd : Sd β) : wO β' = wO β ∧ hO β' = hO β ∧ pO β' = pO β ∧ kO β' = kO β ∧ uO β' = uO β ∧ vO β' = vO β ∧ aO β' = aO β ∧ bO β' = bO β ∧ qO β' = qO β ∧ nO β' = nO β ∧ xO β' = xO β ∧ yO β' = yO β ∧ gI β' 32 0 = gI β 32 0 ∧ gI β' 32 2 = gI β 32 2 := by
  have hs := hd.s
  have hf := hd.f
  have e := h.2
  unfold Sk at e
  have ew : wO β' = wO β := by unfold wO; rw [h.s, e _ _ (by omega) (by omega) (by omega)]
  have eh : hO β' = hO β := by unfold hO; rw [h.s, e _ _ (by omega) (by omega) (by omega)]
  refine ⟨ew, eh, ?_, ?_, ?_, ?_, ?_, ?_, ?_, ?_, ?_, ?_, ?_, ?_⟩
  · funext k
    unfold pO
    rw [ew, eh, h.s, e _ _ (by omega) (by omega) (by omega)]
  · unfold kO; rw [e _ _ (by omega) (by omega) (by omega)]
  · unfold uO; rw [h.f, e _ _ (by omega) (by omega) (by omega)]
  · unfold vO; rw [h.f, e _ _ (by omega) (by omega) (by omega)]
  · unfold aO; rw [h.f, e _ _ (by omega) (by omega) (by omega)]
  · unfold bO; rw [h.f, e _ _ (by omega) (by omega) (by omega)]
  · unfold qO; rw [h.f, e _ _ (by omega) (by omega) (by omega)]
  · exact funext fun p => by unfold nO; rw [h.f, e _ _ (by omega) (by omega) (by omega)]
  · exact funext fun p => by unfold xO; rw [h.f, e _ _ (by omega) (by omega) (by omega)]
  · exact funext fun p => by unfold yO; rw [h.f, e _ _ (by omega) (by omega) (by omega)]
  · exact e _ _ (by omega) (by omega) (by omega)
  · exact e _ _ (by omega) (by omega) (by omega)
theorem Cq.D (h : Cq β β') (hd : Sd β) : dO β' = dO β ∧ ppO β' = ppO β ∧ mkO β' = mkO β ∧ (Mkd β' ↔ Mkd β) ∧ iO β' = iO β := by
  obtain ⟨e1, e2, e3, e4, e5, e6, e7, e8, e9, e10, e11, e12, e13, e14⟩ := h.eqs hd
  have i : iO β' = iO β := by unfold iO; rw [e13, e3]
  have d : dO β' = dO β := funext fun k => by unfold dO; rw [e1, e2, e3, e4, e5, e6, e7, e8, e11, e12, e13, e14]
  have m : mkO β' = mkO β := funext fun k => by unfold mkO; rw [e1, e2, e4, e14, i]
  exact ⟨d, by unfold ppO; rw [d, e9, e10], m, by unfold Mkd; rw [m], i⟩
theorem Cq.sd (h : Cq β β') (hd : Sd β) (hm : ∃ m, (1 ≤ m ∧ m ≤ 200) ∧ gI β' 32 3 = nI m) : Sd β' := by
  have hs := hd.s
  have hf := hd.f
  obtain ⟨e1, e2, e3, e4, e5, e6, e7, e8, e9, e10, e11, e12, e13, e14⟩ := h.eqs hd
  have e := h.2
  unfold Sk at e
  obtain ⟨a, b, c, d, -⟩ := hd
  refine ⟨?_, ?_, ⟨by rw [h.1, h.s]; exact c.1, by rw [h.1, h.f]; exact c.2⟩, by rw [h.f, e _ _ (by omega) (by omega) (by omega)]; exact d, hm⟩
  · unfold Cd C7 at *
    rw [h.s, h.f, e1, e2, e3, e4, e5, e6, e7, e8, e9, e10, e11, e12, e13, e14]
    obtain ⟨a1, a2, a3, a4, a5, a6, a7, a8, a9, a10, a11, a12, a13, a14, a15, a16, a17, a18, a19, a20, a21, a22⟩ := a
    refine ⟨a1, a2, a3, a4, a5, (e _ _ (by omega) (by omega) (by omega)).trans a6, (e _ _ (by omega) (by omega) (by omega)).trans a7, fun k hk => ⟨(e _ _ (by omega) (by omega) (by omega)).trans (a8 k hk).1, (a8 k hk).2⟩, rfl, (e _ _ (by omega) (by omega) (by omega)).trans a10, rfl, a12, a13, a14, a15, a16, (e _ _ (by omega) (by omega) (by omega)).trans a17, (e _ _ (by omega) (by omega) (by omega)).trans a18, (e _ _ (by omega) (by omega) (by omega)).trans a19, (e _ _ (by omega) (by omega) (by omega)).trans a20, (e _ _ (by omega) (by omega) (by omega)).trans a21, fun k hk => ⟨⟨(e _ _ (by omega) (by omega) (by omega)).trans (a22 k hk).1.1, (a22 k hk).1.2⟩, (e _ _ (by omega) (by omega) (by omega)).trans (a22 k hk).2.1, (a22 k hk).2.2⟩⟩
  · rw [h.f, e9, e10]
    obtain ⟨b1, b2, b3, b4⟩ := b
    exact ⟨b1, (e _ _ (by omega) (by omega) (by omega)).trans b2, b3, fun p hp => ⟨(b4 p hp).1, (e _ _ (by omega) (by omega) (by omega)).trans (b4 p hp).2.1, (e _ _ (by omega) (by omega) (by omega)).trans (b4 p hp).2.2⟩⟩
/-- the same settings, too: the same judged -/
theorem Cq.jv (h : Cq β β') (hd : Sd β) (hs : ∀ k, 4 ≤ k → k ≤ 6 → gI β' 32 k = gI β 32 k) {p : Nat} {an se ru st gn : Int32} : JV β' p an se ru st gn ↔ JQ (fun i => dO β (psum (nO β) p + i)) (ppO β) (nO β p) (gI β (fO β + 1) p = 0) (gI β' 32 3) (gI β 32 4) (gI β 32 5) an se ru st ∧ gn = gnS (gI β (fO β + 4) p) an se (gI β (fO β + 5) p) (gI β 32 6) := by
  have hf := hd.f
  obtain ⟨e1, e2, e3, e4, e5, e6, e7, e8, e9, e10, e11, e12, e13, e14⟩ := h.eqs hd
  obtain ⟨d1, d2, -⟩ := h.D hd
  have e := h.2
  unfold Sk at e
  unfold JV
  rw [d1, d2, e10, h.f, hs 4 (by decide) (by decide), hs 5 (by decide) (by decide), hs 6 (by decide) (by decide), e (fO β + 1) p (by omega) (by omega) (by omega), e (fO β + 4) p (by omega) (by omega) (by omega), e (fO β + 5) p (by omega) (by omega) (by omega)]
end CQ
/-! what is judged: ticked and rubbed out are apart, what is ticked stands out by the margin -/
theorem and_bits : ∀ m, m < 64 → ∀ k, k < 64 → (∀ b, b < 6 → ¬ (m.testBit b = true ∧ k.testBit b = true)) → nI m &&& nI k = (0 : Int32) := by decide +kernel
theorem two_bits0 : ∀ m, m < 64 → ∀ b, b < 6 → ∀ c, c < 6 → (b = c ∨ ¬ (m.testBit b = true ∧ m.testBit c = true) ∨ ¬ pop12 (nI m) ≤ 1) := by decide +kernel
theorem two_bits (m : Nat) (hm : m < 64) (b : Nat) (hb : b < 6) (c : Nat) (hc : c < 6) (hne : b ≠ c) (h1 : m.testBit b = true) (h2 : m.testBit c = true) : ¬ pop12 (nI m) ≤ 1 := by
  rcases two_bits0 m hm b hb c hc with h | h | h
  · exact absurd h hne
  · exact absurd ⟨h1, h2⟩ h
  · exact h
theorem no_bits : ∀ m, m < 64 → (∀ b, b < 6 → ¬ m.testBit b = true) → m = 0 := by decide +kernel
section JUDGED
variable {D : Nat → Nat} {P n : Nat} {one : Prop} {m : Nat} {cl rb an se ru st : Int32} {t : Nat}
theorem stQ_at : ∀ k, ((stQ D P n k).1 = 0) ∨ ∃ j, j < k ∧ (stQ D P n k).1 = j + 1 ∧ (stQ D P n k).2 = atQ D P n j - atQ D P n (j + 1)
  | 0 => Or.inl rfl
  | k + 1 => by
    show (if atQ D P n k - atQ D P n (k + 1) ≤ (stQ D P n k).2 then stQ D P n k else (k + 1, atQ D P n k - atQ D P n (k + 1))).1 = 0 ∨ ∃ j, j < k + 1 ∧ (if atQ D P n k - atQ D P n (k + 1) ≤ (stQ D P n k).2 then stQ D P n k else (k + 1, atQ D P n k - atQ D P n (k + 1))).1 = j + 1 ∧ (if atQ D P n k - atQ D P n (k + 1) ≤ (stQ D P n k).2 then stQ D P n k else (k + 1, atQ D P n k - atQ D P n (k + 1))).2 = atQ D P n j - atQ D P n (j + 1)
    split
    · rcases stQ_at k with h | ⟨j, h1, h2, h3⟩
      · exact Or.inl h
      · exact Or.inr ⟨j, by omega, h2, h3⟩
    · exact Or.inr ⟨k, by omega, rfl, rfl⟩
theorem ord_mono (hD : ∀ k, D k ≤ 324) : ∀ d j, j + d < n → D (ordQ D n (j + d)) ≤ D (ordQ D n j)
  | 0, j, _ => Nat.le_refl _
  | d + 1, j, h => by
    have h1 := ord_mono hD d j (by omega)
    have h2 : nI (D (ordQ D n (j + d + 1))) ≤ nI (D (ordQ D n (j + d))) := srt_sorted (key := fun i => nI (D i)) n (j + d) (by omega)
    have a := hD (ordQ D n (j + d + 1))
    have b := hD (ordQ D n (j + d))
    rw [le_i, nI_toInt (by omega), nI_toInt (by omega)] at h2
    show D (ordQ D n (j + d + 1)) ≤ _
    omega
theorem at_val (hD : ∀ k, D k ≤ 324) (hP : P ≤ 324) (k : Nat) : ∃ d, d ≤ 324 ∧ atQ D P n k = nI d ∧ d = if k = n then P else D (ordQ D n k) := by
  unfold atQ
  by_cases h : k = n
  · rw [if_pos h, if_pos h]; exact ⟨_, hP, rfl, rfl⟩
  · rw [if_neg h, if_neg h]; exact ⟨_, hD _, rfl, rfl⟩
theorem JQ.apart (h : JQ D P n one (nI m) cl rb an se ru st) : an &&& ru = 0 := by
  obtain ⟨y, -, ⟨a, ha, rfl, ta⟩, ⟨b, hb, rfl, tb⟩, -⟩ := h
  refine and_bits a ha b hb fun c hc ⟨q1, q2⟩ => ?_
  obtain ⟨k, k1, k2, k3⟩ := (ta c hc).mp q1
  obtain ⟨k', l1, l2, -, l3⟩ := (tb c hc).mp q2
  have : k = k' := srt_inj n k k' k1 l1 (k3.trans l3.symm)
  subst this
  exact l2 k2
theorem JQ.doubt (ht : t ≤ 324) (hst : (stQ D P n n).2 = nI t) (hm : m ≤ 1000) (h : JQ D P n one (nI m) cl rb an se ru st) (hs : se = 1) : an = 0 := by
  by_cases c : t < m
  · obtain ⟨⟨a, ha, rfl, ta⟩, -⟩ := JQ.off ht hst hm h c
    rw [no_bits a ha fun b hb q => (ta b hb).mp q]; rfl
  · obtain ⟨y, -, -, -, hse, -⟩ := h
    rcases hse with ⟨-, e⟩ | ⟨-, e⟩
    · rw [hs] at e; exact absurd e (by decide)
    · rw [hst, if_neg (fun q => c (nI_ltN q.1 (by omega) (by omega)))] at e
      rw [hs] at e; exact absurd e (by decide)
theorem JQ.double (σ : SS) (hn : n ≤ 6) (h : JQ D P n one (nI m) cl rb an se ru st) (hs : se = 2) : one ∧ ¬ fJ6_bitCount_0f7a4 σ an ≤ 1 := by
  obtain ⟨y, hy, ⟨a, ha, rfl, ta⟩, -, hse, -⟩ := h
  rcases hse with ⟨⟨h1, h2, h3⟩, -⟩ | ⟨-, e⟩
  · refine ⟨h1, ?_⟩
    have hah : ahQ D P n (nI m) ≤ n := by unfold ahQ; split; exact Nat.zero_le _; exact stQ_le n
    have ey : y = ahQ D P n (nI m) := by
      rcases hy with ⟨⟨-, -, q⟩, -⟩ | ⟨-, q⟩
      · exact absurd h3 q
      · exact q
    have l0 := srt_lt (key := fun i => nI (D i)) n 0 (by omega)
    have l1 := srt_lt (key := fun i => nI (D i)) n 1 (by omega)
    rw [popc σ a ha]
    refine two_bits a ha (ordQ D n 0) (by show srt _ n 0 < 6; omega) (ordQ D n 1) (by show srt _ n 1 < 6; omega) (fun e => absurd (srt_inj n 0 1 (by omega) (by omega) e) (by decide)) ((ta _ (by show srt _ n 0 < 6; omega)).mpr ⟨0, by omega, by omega, rfl⟩) ((ta _ (by show srt _ n 1 < 6; omega)).mpr ⟨1, by omega, by omega, rfl⟩)
  · rw [hs] at e
    split at e <;> exact absurd e (by decide)
/-- what is ticked is darker than L, what is neither ticked nor rubbed out at most as dark as G -/
theorem JQ.stands (hn : 1 ≤ n ∧ n ≤ 6) (hD : ∀ k, D k ≤ 324) (hP : P ≤ 324) (hPD : ∀ k, k < n → P ≤ D k) (ht : t ≤ 324) (hst : (stQ D P n n).2 = nI t) (h1 : 1 ≤ (stQ D P n n).1) (hm : m ≤ 200) (h : JQ D P n one (nI m) cl rb an se ru st) :
    ∃ L G, L ≤ 1000 ∧ G ≤ 324 ∧ P ≤ G ∧ (an = 0 ∨ G + m ≤ L) ∧ ∀ b, b < n → (((an >>> (nI b &&& 31)) &&& 1 = (1 : Int32)) → L ≤ D b) ∧ (¬ ((an >>> (nI b &&& 31)) &&& 1 = (1 : Int32)) → ((ru >>> (nI b &&& 31)) &&& 1 = (0 : Int32)) → D b ≤ G) := by
  by_cases c : t < m
  · obtain ⟨⟨a, ha, rfl, ta⟩, -⟩ := JQ.off ht hst (by omega) h c
    have e0 := no_bits a ha fun b hb q => (ta b hb).mp q
    subst e0
    exact ⟨0, 324, by omega, by omega, hP, Or.inl rfl, fun b _ => ⟨fun _ => Nat.zero_le _, fun _ _ => hD b⟩⟩
  obtain ⟨y, hy, hb1, hb2, -, -⟩ := h
  have hah : ahQ D P n (nI m) = (stQ D P n n).1 := by unfold ahQ; rw [hst, if_neg (fun q => c (nI_ltN q (by omega) (by omega)))]
  rcases stQ_at (D := D) (P := P) (n := n) n with h0 | ⟨j, j1, j2, j3⟩
  · omega
  rw [j2] at hah
  obtain ⟨d1, x1, x2, x3⟩ := at_val (n := n) hD hP j
  obtain ⟨d2, y1, y2, y3⟩ := at_val (n := n) hD hP (j + 1)
  rw [if_neg (show ¬ j = n by omega)] at x3
  have hy2 : y ≤ j + 1 := by
    rcases hy with ⟨-, e⟩ | ⟨-, e⟩
    · omega
    · omega
  have hgap : (d1 : Int) - d2 = t := by
    have e : (nI d1 - nI d2).toInt = (nI t).toInt := by rw [← x2, ← y2, ← j3, hst]
    rw [sub_i x1 y1, nI_toInt (by omega)] at e
    exact e
  have hPd : P ≤ d2 := by
    rw [y3]; split
    · exact Nat.le_refl _
    · exact hPD _ (srt_lt n (j + 1) (by omega))
  refine ⟨d1, d2, by omega, y1, hPd, Or.inr (by omega), fun b hb => ⟨fun q => ?_, fun q1 q2 => ?_⟩⟩
  · obtain ⟨k, k1, k2, k3⟩ := (hb1.bit (by omega)).mp q
    rw [← k3, x3]
    have := ord_mono (n := n) hD (j - k) k (by omega)
    rw [show k + (j - k) = j by omega] at this
    exact this
  · obtain ⟨k, k1, k3⟩ := srt_sur (key := fun i => nI (D i)) hb
    have n1 : ¬ k < y := fun q => q1 ((hb1.bit (by omega)).mpr ⟨k, k1, q, k3⟩)
    have n2 : ¬ (k < ahQ D P n (nI m) ∨ ¬ nI (D b) - nI P < rb) := fun q => by
      have := (hb2.bit (b := b) (by omega)).mpr ⟨k, k1, n1, q, k3⟩
      rw [q2] at this
      exact absurd this (by decide)
    have n3 : ¬ k < j + 1 := fun q => n2 (Or.inl (by rw [hah]; exact q))
    have e : ordQ D n k = b := k3
    have := ord_mono (n := n) hD (k - (j + 1)) (j + 1) (by omega)
    rw [show j + 1 + (k - (j + 1)) = k by omega, e] at this
    rw [y3, if_neg (by omega)]
    exact this
/-- the zone of a margin -/
theorem zone_in {t m k : Nat} (hm : 1 ≤ m ∧ m ≤ 200) (hk : 1 ≤ k ∧ k ≤ 200) : zN t k = zN t m ↔ (if t < m then (if 2 * t < m then 2 * t + 1 else t + 1) else 1) ≤ k ∧ k ≤ (if t < m then (if 2 * t < m then 200 else min (2 * t) 200) else min t 200) := by
  unfold zN
  by_cases c1 : t < m
  · rw [if_pos c1, if_pos c1, if_neg (show ¬ m ≤ t by omega)]
    by_cases c2 : 2 * t < m
    · rw [if_pos c2, if_pos c2, if_neg (show ¬ m ≤ 2 * t by omega)]
      split
      · simp; omega
      · split
        · simp; omega
        · simp; omega
    · rw [if_neg c2, if_neg c2, if_pos (show m ≤ 2 * t by omega)]
      split
      · simp; omega
      · split
        · simp; omega
        · simp; omega
  · rw [if_neg c1, if_neg c1, if_pos (show m ≤ t by omega)]
    split
    · simp; omega
    · split
      · simp; omega
      · simp; omega
end JUDGED
