/-! 44: the law writes: words, numbers; what is over what. -/
/-- the text so far -/
def Tx (ct : Nat) (τ : SS) (T : Nat → Nat) (e : Nat) : Prop := ∀ j, j < e → gI τ ct j = nI (T j) ∧ T j < 128
def Ar (T T' : Nat → Nat) (e : Nat) : Prop := ∀ j, j < e → T' j = T j
/-- only the law's cell ct changes, from e on -/
def Wr (ct e : Nat) (τ τ' : SS) : Prop := gR τ' = gR τ ∧ ∀ c k, ¬ (c = ct ∧ e ≤ k) → gI τ' c k = gI τ c k
section WRITING
variable {T T' : Nat → Nat} {ct e e' i j o v n ii rr : Nat} {τ τ' σ : SS}
theorem Wr.rf (ct e : Nat) (τ : SS) : Wr ct e τ τ := ⟨rfl, fun _ _ _ => rfl⟩
theorem Wr.tr {a b c : SS} (h : Wr ct e a b) (h' : Wr ct e b c) : Wr ct e a c := ⟨h'.1.trans h.1, fun q k hq => (h'.2 q k hq).trans (h.2 q k hq)⟩
theorem Wr.le {a b : SS} (h : Wr ct e' a b) (hl : e ≤ e') : Wr ct e a b := ⟨h.1, fun q k hq => h.2 q k (by omega)⟩
theorem Nm.cg (h : Nm T i v j) (ha : Ar T T' e) (hj : j ≤ e) : Nm T' i v j := by
  obtain ⟨h0, ⟨h1, h2, h3⟩ | ⟨h1, h2, h3, h4, h5⟩⟩ := h
  · exact ⟨(ha i (by omega)).trans h0, Or.inl ⟨h1, h2, (ha _ (by omega)).trans h3⟩⟩
  · exact ⟨(ha i (by omega)).trans h0, Or.inr ⟨h1, h2, h3, (ha _ (by omega)).trans h4, (ha _ (by omega)).trans h5⟩⟩
theorem Wd.cg (h : Wd T i o) (ha : Ar T T' e) (hj : i + stL.getD o 0 ≤ e) : Wd T' i o := fun k hk => (ha _ (by omega)).trans (h k hk)
/-- a word is put -/
theorem put_s {cw L : Nat} (hvt : lav τ ct = true) (hlt : gR τ ct 0 = 600) (hvw : lav τ cw = true) (hlw : gR τ cw 0 = L) (hne : cw ≠ ct) (hL : L ≤ 6) (he : e + L ≤ 600) (hw : ∀ k, k < L → ∃ c, c < 128 ∧ gI τ cw k = nI c) (hT : Tx ct τ T e) :
    WP (fL_put τ ct (nI e) cw) (fun r => r.1 = nI (e + L) ∧ Wr ct e τ r.2 ∧ ∃ T', Ar T T' e ∧ Tx ct r.2 T' (e + L) ∧ ∀ k c, k < L → c < 128 → gI τ cw k = nI c → T' (e + k) = c) := by
  have lt' : ∀ {τ' : SS} {k : Nat}, gR τ' = gR τ → k < 600 → lin τ' ct (nI k) = true := fun {τ' k} h hk => lin_of (by unfold lav at *; rw [h]; exact hvt) (by rw [h]; exact hlt) hk (by decide)
  have lw' : ∀ {τ' : SS} {k : Nat}, gR τ' = gR τ → k < L → lin τ' cw (nI k) = true := fun {τ' k} h hk => lin_of (by unfold lav at *; rw [h]; exact hvw) (by rw [h]; exact hlw) hk (by omega)
  have vw' : ∀ {τ' : SS}, gR τ' = gR τ → lav τ' cw = true := fun {τ'} h => by unfold lav at *; rw [h]; exact hvw
  unfold fL_put L_put_L2
  refine wf_2 L (fun k a t => a = nI k ∧ Wr ct e τ t ∧ ∀ j, j < k → gI t ct (e + j) = gI τ cw j) ⟨rfl, Wr.rf _ _ _, fun j hj => absurd hj (Nat.not_lt_zero _)⟩ (by omega) (fun k a t rec hk hI ih => ?_) (fun a t rec hI => ?_)
  · obtain ⟨rfl, h1, h2⟩ := hI
    refine wp_grd (vw' h1.1) ?_
    rw [h1.1, hlw, if_neg (nI_ge hk (by omega)), nI_add, nI_clamp (by omega), nI_clamp (by omega), nI_1]
    refine wp_grd (lw' h1.1 hk) (wp_grd (lt' h1.1 (by omega)) (wp_v (ih _ _ ⟨rfl, ⟨h1.1, fun c j hc => ?_⟩, fun j hj => ?_⟩)))
    · rw [gI_nk (by omega)]; exact h1.2 c j hc
    · by_cases ej : j = k
      · subst ej
        rw [gI_eq]; exact h1.2 _ _ (by omega)
      · rw [gI_nk (by omega)]; exact h2 j (by omega)
  · obtain ⟨rfl, h1, h2⟩ := hI
    refine wp_grd (vw' h1.1) ?_
    rw [h1.1, hlw, if_pos (nI_le (Nat.le_refl _) (by omega)), nI_add]
    refine wp_grd (vw' h1.1) ⟨_, rfl, rfl, h1, fun j => if j < e then T j else tn (gI τ cw (j - e)), fun j hj => if_pos hj, fun j hj => ?_, fun k c hk hc e1 => ?_⟩
    · dsimp only
      by_cases c : j < e
      · rw [if_pos c, h1.2 _ _ (by omega)]; exact hT j c
      · obtain ⟨c0, hc0, e0⟩ := hw (j - e) (by omega)
        have := h2 (j - e) (by omega)
        rw [show e + (j - e) = j by omega] at this
        rw [if_neg c, this, e0, tn_nI (by omega)]
        exact ⟨rfl, hc0⟩
    · dsimp only
      rw [if_neg (by omega), show e + k - e = k by omega, e1, tn_nI (by omega)]
/-- one sign -/
theorem sign_s {c : Nat} (hc : c < 128) (hT : Tx ct τ T e) : Wr ct e τ (sI τ ct e (nI c)) ∧ ∃ T', Ar T T' e ∧ Tx ct (sI τ ct e (nI c)) T' (e + 1) ∧ T' e = c := by
  refine ⟨⟨rfl, fun c' k h => gI_nk (by omega)⟩, fun j => if j < e then T j else c, fun j hj => if_pos hj, fun j hj => ?_, if_neg (Nat.lt_irrefl e)⟩
  dsimp only
  by_cases q : j < e
  · rw [if_pos q, gI_nk (by omega)]; exact hT j q
  · rw [if_neg q, show j = e by omega, gI_eq]; exact ⟨rfl, hc⟩
theorem num_c {v : Nat} (h : v ≤ 99) : irm (nI v) (10 : Int32) = nI (v % 10) ∧ nI v / (10 : Int32) = nI (v / 10) := by
  rw [show (10 : Int32) = nI 10 from rfl]
  exact ⟨rem_nI (by omega) (by decide) (by decide), pk_div (by omega) (by decide) (by decide)⟩
/-- a number -/
theorem number_s (hvt : lav τ ct = true) (hlt : gR τ ct 0 = 600) (he : e + 3 ≤ 600) (hv : v ≤ 99) (hT : Tx ct τ T e) :
    WP (fL_number τ ct (nI e) (nI v)) (fun r => ∃ e', r.1 = nI e' ∧ e + 2 ≤ e' ∧ e' ≤ e + 3 ∧ Wr ct e τ r.2 ∧ ∃ T', Ar T T' e ∧ Tx ct r.2 T' e' ∧ Nm T' e v e') := by
  have lt' : ∀ {τ' : SS} {k : Nat}, gR τ' = gR τ → k < 600 → lin τ' ct (nI k) = true := fun {τ' k} h hk => lin_of (by unfold lav at *; rw [h]; exact hvt) (by rw [h]; exact hlt) hk (by decide)
  obtain ⟨n1, n2⟩ := num_c hv
  unfold fL_number
  rw [n1, n2, nI_clamp (show e < 2 ^ 31 by omega), nI_1, nI_1]
  refine wp_grd (lt' rfl (by omega)) (wp_v ?_)
  obtain ⟨a1, T1, b1, c1, d1⟩ := sign_s (c := 32) (by decide) hT
  have a1 : Wr ct e τ (sI τ ct e (32 : Int32)) := a1
  have c1 : Tx ct (sI τ ct e (32 : Int32)) T1 (e + 1) := c1
  generalize sI τ ct e (32 : Int32) = τ1 at a1 c1
  by_cases c9 : v ≤ 9
  · refine wp_v ?_
    rw [if_pos (by rw [show (9 : Int32) = nI 9 from rfl, lenN (by omega) (by omega)]; exact c9)]
    refine wp_grd (lt' a1.1 (by omega)) (wp_v ?_)
    rw [nI_clamp (show e + 1 < 2 ^ 31 by omega), show (48 : Int32) = nI 48 from rfl, nI_add, nI_1]
    obtain ⟨a2, T2, b2, c2, d2⟩ := sign_s (c := 48 + v % 10) (by omega) c1
    refine ⟨_, rfl, e + 1 + 1, rfl, by omega, by omega, a1.tr (a2.le (by omega)), T2, fun j hj => (b2 j (by omega)).trans (b1 j hj), c2, (b2 e (by omega)).trans d1, Or.inl ⟨c9, rfl, ?_⟩⟩
    rw [d2, Nat.mod_eq_of_lt (by omega)]
  · refine wp_v ?_
    rw [if_neg (by rw [show (9 : Int32) = nI 9 from rfl, lenN (by omega) (by omega)]; exact c9)]
    refine wp_grd (lt' a1.1 (by omega)) (wp_v ?_)
    rw [nI_clamp (show e + 1 < 2 ^ 31 by omega), show (48 : Int32) = nI 48 from rfl, show nI 48 + nI (v / 10) = nI (48 + v / 10) by rw [nI_add]]
    obtain ⟨a2, T2, b2, c2, d2⟩ := sign_s (c := 48 + v / 10) (by omega) c1
    generalize sI τ1 ct (e + 1) (nI (48 + v / 10)) = τ2 at a2 c2
    refine wp_grd (lt' (a2.1.trans a1.1) (by omega)) (wp_v ?_)
    rw [nI_clamp (show e + 1 + 1 < 2 ^ 31 by omega), nI_add, nI_1]
    obtain ⟨a3, T3, b3, c3, d3⟩ := sign_s (c := 48 + v % 10) (by omega) c2
    refine ⟨_, rfl, e + 1 + 1 + 1, rfl, by omega, by omega, (a1.tr (a2.le (by omega))).tr (a3.le (by omega)), T3, fun j hj => (b3 j (by omega)).trans ((b2 j (by omega)).trans (b1 j hj)), c3, (b3 e (by omega)).trans ((b2 e (by omega)).trans d1), Or.inr ⟨by omega, hv, rfl, (b3 _ (by omega)).trans d2, d3⟩⟩
/-! what lies over what -/
/-- the law's boxes: q questions whole, m boxes of the next -/
def Il (ii : Nat) (d : Nat → Nat → Nat) (q m : Nat) (τ : SS) : Prop := (gI τ ii 1 = nI (d 0 2) ∧ gI τ ii 2 = nI (d 0 3)) ∧ (∀ p, p < q → gI τ ii (16 + 16 * p) = nI (1 + d 6 p) ∧ gI τ ii (17 + 16 * p) = nI (d 1 p) ∧ gI τ ii (18 + 16 * p) = nI (d 4 p) ∧ gI τ ii (19 + 16 * p) = nI (d 5 p) ∧ ∀ b, b < d 1 p → gI τ ii (20 + 16 * p + 2 * b) = nI (d 2 (psum (d 1) p + b)) ∧ gI τ ii (21 + 16 * p + 2 * b) = nI (d 3 (psum (d 1) p + b))) ∧ gI τ ii (17 + 16 * q) = nI m ∧ ∀ b, b < m → gI τ ii (20 + 16 * q + 2 * b) = nI (d 2 (psum (d 1) q + b)) ∧ gI τ ii (21 + 16 * q + 2 * b) = nI (d 3 (psum (d 1) q + b))
theorem psum_up {N : Nat → Nat} {q m k : Nat} (hk : k < psum N q + m) : (∃ p b, p < q ∧ b < N p ∧ k = psum N p + b) ∨ ∃ b, b < m ∧ k = psum N q + b := by
  by_cases c : k < psum N q
  · obtain ⟨p, i, h1, h2, h3⟩ := psum_at q k c
    exact Or.inl ⟨p, i, h1, h2, h3⟩
  · exact Or.inr ⟨k - psum N q, by omega, by omega⟩
theorem over_s {d : Nat → Nat → Nat} {q m x y : Nat} (hvi : lav τ ii = true) (hli : gR τ ii 0 = 300) (hI : Il ii d q m τ) (hq : q ≤ 5) (hm : m ≤ 5) (hd : ∀ p, p < q → d 1 p ≤ 5) (hA : d 0 2 ≤ 6 ∧ d 0 3 ≤ 6) (hx : x ≤ 40) (hy : y ≤ 40) (hb : ∀ k, k < psum (d 1) q + m → d 2 k ≤ 40 ∧ d 3 k ≤ 40) :
    WP (fL_isOver τ ii (nI (q + 1)) (nI x) (nI y)) (fun r => r = true ∨ (r = false ∧ ∀ k, k < psum (d 1) q + m → ¬ cv (d 2) (d 3) (d 0 2) (d 0 3) x y k)) := by
  have li : ∀ {k : Nat}, k < 300 → lin τ ii (nI k) = true := fun {k} hk => lin_of hvi hli hk (by decide)
  obtain ⟨⟨w1, w2⟩, w3, w4, w5⟩ := hI
  unfold fL_isOver L_isOver_L3
  refine wf_1 (q + 1) (fun p a => a = nI p ∧ ∀ p' b, p' < p → b < (if p' = q then m else d 1 p') → ¬ cv (d 2) (d 3) (d 0 2) (d 0 3) x y (psum (d 1) p' + b)) ⟨rfl, fun p' b hp' => absurd hp' (Nat.not_lt_zero _)⟩ (by omega) (fun p a rec hp hI ih => ?_) (fun a rec hI => ?_)
  · obtain ⟨rfl, h1⟩ := hI
    have hc5 : (if p = q then m else d 1 p) ≤ 5 := by
      by_cases c : p = q
      · rw [if_pos c]; exact hm
      · rw [if_neg c]; exact hd p (by omega)
    have ec : gI τ ii (17 + 16 * p) = nI (if p = q then m else d 1 p) := by
      by_cases c : p = q
      · rw [if_pos c, c]; exact w4
      · rw [if_neg c]; exact (w3 p (by omega)).2.1
    have eb : ∀ b, b < (if p = q then m else d 1 p) → gI τ ii (20 + 16 * p + 2 * b) = nI (d 2 (psum (d 1) p + b)) ∧ gI τ ii (21 + 16 * p + 2 * b) = nI (d 3 (psum (d 1) p + b)) ∧ d 2 (psum (d 1) p + b) ≤ 40 ∧ d 3 (psum (d 1) p + b) ≤ 40 := by
      intro b hb'
      by_cases c : p = q
      · rw [if_pos c] at hb'
        subst c
        obtain ⟨z1, z2⟩ := w5 b hb'
        exact ⟨z1, z2, hb _ (by omega)⟩
      · rw [if_neg c] at hb'
        obtain ⟨z1, z2⟩ := (w3 p (by omega)).2.2.2.2 b hb'
        have := psum_lt (N := d 1) (show p < q by omega) hb'
        exact ⟨z1, z2, hb _ (by omega)⟩
    generalize ecn : (if p = q then m else d 1 p) = cn at hc5 ec eb
    rw [if_neg (nI_ge hp (by omega))]
    unfold L_isOver_L12
    refine wf_1 cn (fun b a => a = nI b ∧ ∀ b', b' < b → ¬ cv (d 2) (d 3) (d 0 2) (d 0 3) x y (psum (d 1) p + b')) ⟨rfl, fun b' hb' => absurd hb' (Nat.not_lt_zero _)⟩ (by omega) (fun b a rec2 hb2 hI2 ih2 => ?_) (fun a rec2 hI2 => ?_)
    · obtain ⟨rfl, h2⟩ := hI2
      obtain ⟨z1, z2, z3, z4⟩ := eb b hb2
      have e20 : (20 : Int32) + (16 : Int32) * nI p + (2 : Int32) * nI b = nI (20 + 16 * p + 2 * b) := by rw [show (20 : Int32) + (16 : Int32) * nI p = nI (20 + 16 * p) from ix16 20 p, show (2 : Int32) = nI 2 from rfl, nI_mul, nI_add]
      have e21 : (21 : Int32) + (16 : Int32) * nI p + (2 : Int32) * nI b = nI (21 + 16 * p + 2 * b) := by rw [show (21 : Int32) + (16 : Int32) * nI p = nI (21 + 16 * p) from ix16 21 p, show (2 : Int32) = nI 2 from rfl, nI_mul, nI_add]
      rw [show (17 : Int32) + (16 : Int32) * nI p = nI (17 + 16 * p) from ix16 17 p, nI_clamp (by omega), ec, if_neg (nI_ge hb2 (by omega)), e20, e21, nI_clamp (show 20 + 16 * p + 2 * b < 2 ^ 31 by omega), nI_clamp (show 21 + 16 * p + 2 * b < 2 ^ 31 by omega), z1, z2, w1, w2, nI_add, nI_add, nI_1]
      refine wp_grd (li (by omega)) (wp_grd (li (by omega)) (wp_v (wp_grd (li (by omega)) (wp_v (wp_grd (li (k := 1) (by decide)) ?_)))))
      rw [nI_add, nI_add]
      have nx : ¬ cv (d 2) (d 3) (d 0 2) (d 0 3) x y (psum (d 1) p + b) → ∀ b', b' < b + 1 → ¬ cv (d 2) (d 3) (d 0 2) (d 0 3) x y (psum (d 1) p + b') := fun hn b' hb' => by
        by_cases eb' : b' = b
        · rw [eb']; exact hn
        · exact h2 b' (by omega)
      refine wp_if (fun c => ih2 _ ⟨rfl, nx fun z => ?_⟩) fun c1 => ?_
      · rw [lenN (by omega) (by omega)] at c; unfold cv at z; omega
      refine wp_if (fun c => ih2 _ ⟨rfl, nx fun z => ?_⟩) fun c2 => ?_
      · rw [lenN (by omega) (by omega)] at c; unfold cv at z; omega
      refine wp_grd (li (k := 2) (by decide)) ?_
      refine wp_if (fun c => ih2 _ ⟨rfl, nx fun z => ?_⟩) fun c3 => ?_
      · rw [lenN (by omega) (by omega)] at c; unfold cv at z; omega
      refine wp_if (fun c => ih2 _ ⟨rfl, nx fun z => ?_⟩) fun c4 => ?_
      · rw [lenN (by omega) (by omega)] at c; unfold cv at z; omega
      exact ⟨true, rfl, Or.inl rfl⟩
    · obtain ⟨rfl, h2⟩ := hI2
      rw [show (17 : Int32) + (16 : Int32) * nI p = nI (17 + 16 * p) from ix16 17 p, nI_clamp (by omega), ec, if_pos (nI_le (Nat.le_refl _) (by omega)), nI_1]
      refine wp_grd (li (by omega)) (ih _ ⟨rfl, fun p' b hp' hb' => ?_⟩)
      by_cases ep : p' = p
      · rw [ep]
        rw [ep, ecn] at hb'
        exact h2 b hb'
      · exact h1 p' b (by omega) hb'
  · obtain ⟨rfl, h1⟩ := hI
    rw [if_pos (nI_le (Nat.le_refl _) (by omega))]
    refine ⟨false, rfl, Or.inr ⟨rfl, fun k hk => ?_⟩⟩
    rcases psum_up hk with ⟨p, b, hp, hb', rfl⟩ | ⟨b, hb', rfl⟩
    · exact h1 p b (by omega) (by rw [if_neg (by omega)]; exact hb')
    · exact h1 q b (by omega) (by rw [if_pos rfl]; exact hb')
end WRITING
