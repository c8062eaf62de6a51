/-! 46: the law draws the letters of a key; what is written stays when more is written. -/
section LETTERS
variable {rr ii ct q : Nat} {τ0 : SS}
theorem Kys.cg {T T' R R' : Nat → Nat} {K m e : Nat} (h : Kys T K m R) (ha : Ar T T' e) (hR : R m ≤ e) (hR' : ∀ b, b ≤ m → R' b = R b) : Kys T' K m R' := fun b hb => by
  have hl := kys_le h (m - (b + 1)) (b + 1) (by omega)
  rw [hR' b (by omega), hR' (b + 1) (by omega)]
  rcases h b hb with ⟨h1, h2, h3, h4⟩ | h1
  · exact Or.inl ⟨h1, by rw [ha _ (by omega)]; exact h2, by rw [ha _ (by omega)]; exact h3, h4⟩
  · exact Or.inr h1
theorem letters_d {K N e0 : Nat} {T0 : Nat → Nat} {k629 : Int32 → SS → Option (Bool × SS)} {Z : Bool × SS → Prop} (hvi : lav τ0 ii = true) (hli : gR τ0 ii 0 = 300) (hvt : lav τ0 ct = true) (hlt : gR τ0 ct 0 = 600) (hci : ct ≠ ii) (hq : q < 5) (hN : N ≤ 5) (hK : K < 2 ^ N) (he0 : e0 ≤ 500) (i1 : gI τ0 ii (17 + 16 * q) = nI N) (i2 : gI τ0 ii (18 + 16 * q) = nI K) (hT : Tx ct τ0 T0 e0)
    (hk : ∀ T R e τ, Wr ct e0 τ0 τ → Ar T0 T e0 → Tx ct τ T e → Kys T K N R → R 0 = e0 → R N = e → e0 ≤ e → e ≤ e0 + 10 → WP (k629 (nI e) τ) Z) :
    WP (L_draws_L575 ii ct (nI (16 + 16 * q)) k629 fuel (nI e0) (0 : Int32) τ0) Z := by
  have hK32 : K < 64 := Nat.lt_of_lt_of_le hK (Nat.le_trans (Nat.pow_le_pow_right (by decide) hN) (by decide))
  have li : ∀ {τ : SS} {k : Nat}, gR τ = gR τ0 → k < 300 → lin τ ii (nI k) = true := fun {τ k} h hk => lin_of (by unfold lav at *; rw [h]; exact hvi) (by rw [h]; exact hli) hk (by decide)
  have lt' : ∀ {τ : SS} {k : Nat}, gR τ = gR τ0 → k < 600 → lin τ ct (nI k) = true := fun {τ k} h hk => lin_of (by unfold lav at *; rw [h]; exact hvt) (by rw [h]; exact hlt) hk (by decide)
  unfold L_draws_L575
  refine wf_3 N (fun b x y τ => ∃ T R e, x = nI e ∧ y = nI b ∧ Wr ct e0 τ0 τ ∧ Ar T0 T e0 ∧ Tx ct τ T e ∧ Kys T K b R ∧ R 0 = e0 ∧ R b = e ∧ e0 ≤ e ∧ e ≤ e0 + 2 * b) ⟨T0, fun _ => e0, e0, rfl, rfl, Wr.rf _ _ _, fun _ _ => rfl, hT, fun b hb => absurd hb (Nat.not_lt_zero _), rfl, rfl, Nat.le_refl _, by omega⟩ (by omega) (fun b x y τ rec hb hI ih => ?_) (fun x y τ rec hI => ?_)
  · obtain ⟨T, R, e, rfl, rfl, W, A, X, Ky, R0, Rb, l1, l2⟩ := hI
    have e17 : gI τ ii (17 + 16 * q) = nI N := (W.2 _ _ (by omega)).trans i1
    have e18 : gI τ ii (18 + 16 * q) = nI K := (W.2 _ _ (by omega)).trans i2
    rw [show nI (16 + 16 * q) + (1 : Int32) = nI (17 + 16 * q) by rw [nI_1]; exact congrArg nI (by omega), show nI (16 + 16 * q) + (2 : Int32) = nI (18 + 16 * q) by rw [show (2 : Int32) = nI 2 from rfl, nI_add]; exact congrArg nI (by omega), nI_clamp (show 17 + 16 * q < 2 ^ 31 by omega), nI_clamp (show 18 + 16 * q < 2 ^ 31 by omega), e17, e18, if_neg (nI_ge hb (by omega))]
    refine wp_grd (li W.1 (by omega)) (wp_grd (li W.1 (by omega)) ?_)
    have hbit := bit_has K hK32 b (by omega)
    by_cases c : K.testBit b = true
    · rw [if_pos (hbit.mpr c), nI_clamp (show e < 2 ^ 31 by omega), nI_1, nI_clamp (show e + 1 < 2 ^ 31 by omega), show (97 : Int32) = nI 97 from rfl, nI_add, show (2 : Int32) = nI 2 from rfl, nI_add, nI_1]
      refine wp_grd (lt' W.1 (by omega)) (wp_v ?_)
      obtain ⟨W1, T1, A1, X1, s1⟩ := sign_s (c := 32) (by decide) X
      have W1 : Wr ct e τ (sI τ ct e (32 : Int32)) := W1
      have X1 : Tx ct (sI τ ct e (32 : Int32)) T1 (e + 1) := X1
      generalize sI τ ct e (32 : Int32) = τ1 at W1 X1
      refine wp_grd (lt' (W1.1.trans W.1) (by omega)) (wp_v ?_)
      obtain ⟨W2, T2, A2, X2, s2⟩ := sign_s (c := 97 + b) (by omega) X1
      have A12 : Ar T T2 e := fun j hj => (A2 j (by omega)).trans (A1 j hj)
      refine ih _ _ _ ⟨T2, fun b' => if b' ≤ b then R b' else e + 2, e + 2, rfl, rfl, (W.tr (W1.le l1)).tr (W2.le (by omega)), fun j hj => (A12 j (by omega)).trans (A j hj), X2, fun b' hb' => ?_, ?_, ?_, by omega, by omega⟩
      · by_cases c' : b' = b
        · subst c'
          dsimp only
          rw [if_pos (Nat.le_refl _), if_neg (by omega), Rb]
          exact Or.inl ⟨c, (A2 e (by omega)).trans s1, s2, rfl⟩
        · exact (Ky.cg (R' := fun b' => if b' ≤ b then R b' else e + 2) A12 (by rw [Rb]; exact Nat.le_refl _) fun b'' hb'' => if_pos hb'') b' (by omega)
      · dsimp only; rw [if_pos (Nat.zero_le _)]; exact R0
      · dsimp only; rw [if_neg (by omega)]
    · rw [if_neg (fun z => c (hbit.mp z)), nI_1]
      refine ih _ _ _ ⟨T, fun b' => if b' ≤ b then R b' else e, e, rfl, rfl, W, A, X, fun b' hb' => ?_, ?_, ?_, l1, by omega⟩
      · by_cases c' : b' = b
        · subst c'
          dsimp only
          rw [if_pos (Nat.le_refl _), if_neg (by omega), Rb]
          exact Or.inr ⟨c, rfl⟩
        · exact (Ky.cg (R' := fun b' => if b' ≤ b then R b' else e) (fun _ _ => rfl) (Nat.le_refl _) fun b'' hb'' => if_pos hb'') b' (by omega)
      · dsimp only; rw [if_pos (Nat.zero_le _)]; exact R0
      · dsimp only; rw [if_neg (by omega)]
  · obtain ⟨T, R, e, rfl, rfl, W, A, X, Ky, R0, Rb, l1, l2⟩ := hI
    have e17 : gI τ ii (17 + 16 * q) = nI N := (W.2 _ _ (by omega)).trans i1
    rw [show nI (16 + 16 * q) + (1 : Int32) = nI (17 + 16 * q) by rw [nI_1]; exact congrArg nI (by omega), nI_clamp (show 17 + 16 * q < 2 ^ 31 by omega), e17, if_pos (nI_le (Nat.le_refl _) (by omega))]
    refine wp_grd (li W.1 (by omega)) (hk T R e τ W A X Ky R0 Rb l1 (by omega))
end LETTERS
section STAYS
variable {T T' : Nat → Nat} {d d' : Nat → Nat → Nat} {q m e e' E : Nat}
theorem Pls.cg2 {P : Nat → Nat} (h : Pls T d q m P) (ha : Ar T T' E) (hP : ∀ i, i ≤ m → P i ≤ E) (h1 : psum (d' 1) q = psum (d 1) q) (hd : ∀ k, k < psum (d 1) q + m → d' 2 k = d 2 k ∧ d' 3 k = d 3 k) : Pls T' d' q m P := fun i hi => by
  obtain ⟨b, j, hb, m1, m2⟩ := h i hi
  have l1 := m1.lt
  have l2 := m2.lt
  have hp := hP (i + 1) (by omega)
  have hd' := hd (psum (d 1) q + i) (by omega)
  have hl := h.inc i hi
  refine ⟨b, j, ?_, ?_, ?_⟩
  · rcases hb with ⟨c1, c2⟩ | ⟨c1, c2, c3⟩
    · exact Or.inl ⟨c1, c2⟩
    · exact Or.inr ⟨c1, by rw [ha _ (by omega)]; exact c2, c3⟩
  · rw [h1, hd'.1]; exact m1.cg ha (by omega)
  · rw [h1, hd'.2]; exact m2.cg ha hp
theorem Qt.cg (h : Qt T d q e e') (ha : Ar T T' E) (he : e' ≤ E) (hs : psum (d' 1) q = psum (d 1) q) (hr : ∀ r, r = 1 ∨ r = 4 ∨ r = 5 ∨ r = 6 → d' r q = d r q) (hd : ∀ k, k < psum (d 1) q + d 1 q → d' 2 k = d 2 k ∧ d' 3 k = d 3 k) : Qt T' d' q e e' := by
  obtain ⟨P, R, e3, e4, h1, h2, h3, h4, h5, h6, h7, h8, h9⟩ := h
  have l7 := h7.lt
  have h30 := h3 0 (Nat.zero_le _)
  refine ⟨P, R, e3, e4, ?_, ?_, ?_, ?_, ?_, h6.cg ha (by rw [show stL.getD 5 0 = 5 from rfl]; omega), ?_, ?_, h9⟩
  · rw [hr 6 (by omega)]
    rcases h1 with ⟨c1, c2, c3⟩ | ⟨c1, c2, c3⟩
    · exact Or.inl ⟨c1, c2.cg ha (by rw [show stL.getD 3 0 = 3 from rfl]; omega), c3⟩
    · exact Or.inr ⟨c1, c2.cg ha (by rw [show stL.getD 2 0 = 4 from rfl]; omega), c3⟩
  · rw [hr 1 (by omega)]
    exact h2.cg2 ha (fun i hi => by have := h3 i hi; omega) hs hd
  · rw [hr 1 (by omega)]; exact h3
  · rw [hr 1 (by omega), hr 4 (by omega)]
    rcases h4 with c | ⟨c1, c2, c3, c4, c5, c6⟩
    · exact Or.inl c
    · have hl := kys_le c5 (d 1 q) 0 (by omega)
      exact Or.inr ⟨c1, by rw [ha _ (by omega)]; exact c2, c3.cg ha (by rw [show stL.getD 4 0 = 3 from rfl]; omega), c4, c5.cg ha (by omega) (fun _ _ => rfl), c6⟩
  · rw [ha _ (by omega)]; exact h5
  · rw [hr 5 (by omega)]; exact h7.cg ha (by omega)
  · rw [ha _ (by omega)]; exact h8
theorem Hd.cg (h : Hd T d e) (ha : Ar T T' E) (he : e ≤ E) (h0 : ∀ k, d' 0 k = d 0 k) : Hd T' d' e := by
  obtain ⟨j1, j2, j3, j4, w0, m1, m2, s1, w1, m3, m4, s2, rfl⟩ := h
  have l1 := m1.lt
  have l2 := m2.lt
  have l3 := m3.lt
  have l4 := m4.lt
  refine ⟨j1, j2, j3, j4, w0.cg ha (by rw [show stL.getD 0 0 = 4 from rfl]; omega), ?_, ?_, by rw [ha _ (by omega)]; exact s1, w1.cg ha (by rw [show stL.getD 1 0 = 3 from rfl]; omega), ?_, ?_, by rw [ha _ (by omega)]; exact s2, rfl⟩
  · rw [h0]; exact m1.cg ha (by omega)
  · rw [h0]; exact m2.cg ha (by omega)
  · rw [h0]; exact m3.cg ha (by omega)
  · rw [h0]; exact m4.cg ha (by omega)
end STAYS
