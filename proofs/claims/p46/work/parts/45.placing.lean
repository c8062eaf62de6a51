/-! 45: the law draws the boxes of a question. -/
def DA (d0 d : Nat → Nat → Nat) (t : Nat) : Prop := (∀ r p, r ≠ 2 → r ≠ 3 → d r p = d0 r p) ∧ ∀ k, k < t → d 2 k = d0 2 k ∧ d 3 k = d0 3 k
def Vb (d : Nat → Nat → Nat) (t : Nat) : Prop := (∀ k, k < t → (2 ≤ d 2 k ∧ d 2 k + d 0 2 + 2 ≤ d 0 0) ∧ 2 ≤ d 3 k ∧ d 3 k + d 0 3 + 2 ≤ d 0 1) ∧ ∀ k k', k' < k → k < t → ¬ cv (d 2) (d 3) (d 0 2) (d 0 3) (d 2 k) (d 3 k) k'
/-- m boxes of question q are drawn -/
def Pz (rr ii ct : Nat) (τ0 : SS) (d0 : Nat → Nat → Nat) (T0 : Nat → Nat) (q e1 : Nat) (d : Nat → Nat → Nat) (T P : Nat → Nat) (m e : Nat) (τ : SS) : Prop := (gR τ = gR τ0 ∧ ∀ c k, c ≠ ct → ¬ (c = rr ∧ k = 0) → ¬ (c = ii ∧ (k = 17 + 16 * q ∨ (20 + 16 * q ≤ k ∧ k < 30 + 16 * q))) → gI τ c k = gI τ0 c k) ∧ Il ii d q m τ ∧ Tx ct τ T e ∧ Ar T0 T e1 ∧ DA d0 d (psum (d0 1) q) ∧ Pls T d q m P ∧ (P 0 = e1 ∧ P m = e) ∧ (∀ i, i ≤ m → P i ≤ e) ∧ (e1 ≤ e ∧ e ≤ e1 + 7 * m) ∧ Vb d (psum (d0 1) q + m)
section PLACING
variable {rr ii ct q e1 : Nat} {τ0 : SS} {d0 : Nat → Nat → Nat} {T0 : Nat → Nat}
theorem DA.one {d0 d : Nat → Nat → Nat} {t : Nat} (h : DA d0 d t) : d 1 = d0 1 := funext fun p => h.1 1 p (by decide) (by decide)
theorem Il.kn {d : Nat → Nat → Nat} {m : Nat} {τ τ' : SS} (h : Il ii d q m τ) (e : ∀ k, gI τ' ii k = gI τ ii k) : Il ii d q m τ' := by
  obtain ⟨⟨h1, h2⟩, h3, h4, h5⟩ := h
  exact ⟨⟨(e _).trans h1, (e _).trans h2⟩, fun p hp => ⟨(e _).trans (h3 p hp).1, (e _).trans (h3 p hp).2.1, (e _).trans (h3 p hp).2.2.1, (e _).trans (h3 p hp).2.2.2.1, fun b hb => ⟨(e _).trans ((h3 p hp).2.2.2.2 b hb).1, (e _).trans ((h3 p hp).2.2.2.2 b hb).2⟩⟩, (e _).trans h4, fun b hb => ⟨(e _).trans (h5 b hb).1, (e _).trans (h5 b hb).2⟩⟩
theorem Tx.kn {T : Nat → Nat} {e : Nat} {τ τ' : SS} (h : Tx ct τ T e) (he : ∀ k, gI τ' ct k = gI τ ct k) : Tx ct τ' T e := fun j hj => ⟨(he j).trans (h j hj).1, (h j hj).2⟩
theorem Pz.kn {d : Nat → Nat → Nat} {T P : Nat → Nat} {m e : Nat} {τ τ' : SS} (hir : ii ≠ rr) (hcr : ct ≠ rr) (h : Pz rr ii ct τ0 d0 T0 q e1 d T P m e τ) (hk : Kn rr τ τ') : Pz rr ii ct τ0 d0 T0 q e1 d T P m e τ' := by
  obtain ⟨⟨h1, h2⟩, h3, h4, h5⟩ := h
  exact ⟨⟨hk.1.trans h1, fun c k c1 c2 c3 => (hk.2 c k c2).trans (h2 c k c1 c2 c3)⟩, h3.kn fun k => hk.2 _ _ (by omega), h4.kn fun k => hk.2 _ _ (by omega), h5⟩
/-- the data with one box more -/
def dX (d : Nat → Nat → Nat) (t x y : Nat) (r k : Nat) : Nat := if r = 2 ∧ k = t then x else if r = 3 ∧ k = t then y else d r k
theorem dX_o {d : Nat → Nat → Nat} {t x y r k : Nat} (h : k ≠ t ∨ (r ≠ 2 ∧ r ≠ 3)) : dX d t x y r k = d r k := by
  unfold dX
  rw [if_neg (by omega), if_neg (by omega)]
theorem dX_2 {d : Nat → Nat → Nat} {t x y : Nat} : dX d t x y 2 t = x := if_pos ⟨rfl, rfl⟩
theorem dX_3 {d : Nat → Nat → Nat} {t x y : Nat} : dX d t x y 3 t = y := by unfold dX; rw [if_neg (by omega), if_pos ⟨rfl, rfl⟩]
theorem Vb.add {d : Nat → Nat → Nat} {t x y : Nat} (h : Vb d t) (hx : 2 ≤ x ∧ x + d 0 2 + 2 ≤ d 0 0) (hy : 2 ≤ y ∧ y + d 0 3 + 2 ≤ d 0 1) (hn : ∀ k, k < t → ¬ cv (d 2) (d 3) (d 0 2) (d 0 3) x y k) : Vb (dX d t x y) (t + 1) := by
  obtain ⟨h1, h2⟩ := h
  have z : ∀ k, dX d t x y 0 k = d 0 k := fun k => dX_o (Or.inr ⟨by decide, by decide⟩)
  refine ⟨fun k hk => ?_, fun k k' hkk hk => ?_⟩
  · rw [z, z, z, z]
    by_cases c : k = t
    · subst c; rw [dX_2, dX_3]; exact ⟨hx, hy⟩
    · rw [dX_o (Or.inl c), dX_o (Or.inl c)]; exact h1 k (by omega)
  · unfold cv
    rw [z, z, dX_o (k := k') (Or.inl (by omega)), dX_o (k := k') (Or.inl (by omega))]
    by_cases c : k = t
    · subst c
      rw [dX_2, dX_3]
      exact hn k' hkk
    · rw [dX_o (Or.inl c), dX_o (Or.inl c)]
      exact h2 k k' hkk (by omega)
theorem Pls.cg {T T' P P' : Nat → Nat} {d d' : Nat → Nat → Nat} {q m e : Nat} (h : Pls T d q m P) (ha : Ar T T' e) (hP : ∀ i, i ≤ m → P i ≤ e) (hlt : ∀ i, i < m → P i < P (i + 1)) (hP' : ∀ i, i ≤ m → P' i = P i) (h1 : d' 1 = d 1) (hd : ∀ k, k < psum (d 1) q + m → d' 2 k = d 2 k ∧ d' 3 k = d 3 k) : Pls T' d' q m P' := fun i hi => by
  obtain ⟨b, j, hb, m1, m2⟩ := h i hi
  have l1 := m1.lt
  have l2 := m2.lt
  have hp := hP (i + 1) (by omega)
  have hd' := hd (psum (d 1) q + i) (by omega)
  have hl := hlt i hi
  refine ⟨b, j, ?_, ?_, ?_⟩
  · rcases hb with ⟨c1, c2⟩ | ⟨c1, c2, c3⟩
    · exact Or.inl ⟨c1, by rw [hP' 0 (by omega)]; exact c2⟩
    · exact Or.inr ⟨c1, by rw [hP' i (by omega), ha _ (by omega)]; exact c2, by rw [hP' i (by omega)]; exact c3⟩
  · rw [h1, hd'.1]; exact m1.cg ha (by omega)
  · rw [h1, hd'.2, hP' (i + 1) (by omega)]; exact m2.cg ha hp
theorem Pls.inc {T P : Nat → Nat} {d : Nat → Nat → Nat} {q m : Nat} (h : Pls T d q m P) : ∀ i, i < m → P i < P (i + 1) := fun i hi => by
  obtain ⟨b, j, hb, m1, m2⟩ := h i hi
  have l1 := m1.lt
  have l2 := m2.lt
  rcases hb with ⟨c1, c2⟩ | ⟨c1, c2, c3⟩
  · rw [c1] at l2 ⊢; omega
  · omega
theorem nzN {k : Nat} (h : 1 ≤ k) (h2 : k < 2 ^ 31) : nz (nI k) = true := decide_eq_true (nI_ne0 (by omega) (by omega))
set_option maxHeartbeats 4000000 in
theorem boxes_d {bx : Nat} {k517 : Int32 → SS → Option (Bool × SS)} {Z : Bool × SS → Prop} (hvr : lav τ0 rr = true) (hlr : gR τ0 rr 0 = 1) (hvi : lav τ0 ii = true) (hli : gR τ0 ii 0 = 300) (hvt : lav τ0 ct = true) (hlt : gR τ0 ct 0 = 600) (hir : ii ≠ rr) (hcr : ct ≠ rr) (hci : ct ≠ ii) (hq : q < 5) (hbx : 1 ≤ bx ∧ bx ≤ 5) (he1 : e1 ≤ 500) (hW : 14 ≤ d0 0 0 ∧ d0 0 0 ≤ 33) (hH : 14 ≤ d0 0 1 ∧ d0 0 1 ≤ 33) (hA : 1 ≤ d0 0 2 ∧ d0 0 2 ≤ 3) (hB : 1 ≤ d0 0 3 ∧ d0 0 3 ≤ 3) (hN : ∀ p, p < q → 1 ≤ d0 1 p ∧ d0 1 p ≤ 5)
    (hI : Il ii d0 q 0 τ0) (hT : Tx ct τ0 T0 e1) (hVb : Vb d0 (psum (d0 1) q))
    (hk : ∀ d T P m e τ, m ≤ 5 → Pz rr ii ct τ0 d0 T0 q e1 d T P m e τ → WP (k517 (nI e) τ) Z) :
    WP (L_draws_L358 ii rr (nI (d0 0 0)) (nI (d0 0 1)) ct (nI q) (nI (16 + 16 * q)) (nI bx) k517 fuel (nI e1) (0 : Int32) τ0) Z := by
  have li : ∀ {τ : SS} {k : Nat}, gR τ = gR τ0 → k < 300 → lin τ ii (nI k) = true := fun {τ k} h hk => lin_of (by unfold lav at *; rw [h]; exact hvi) (by rw [h]; exact hli) hk (by decide)
  have lt' : ∀ {τ : SS} {k : Nat}, gR τ = gR τ0 → k < 600 → lin τ ct (nI k) = true := fun {τ k} h hk => lin_of (by unfold lav at *; rw [h]; exact hvt) (by rw [h]; exact hlt) hk (by decide)
  have hps : psum (d0 1) q ≤ 30 := by
    have hh := psum_le (N := d0 1) q fun p hp => by have := (hN p hp).2; omega
    omega
  unfold L_draws_L358
  refine wf_3 (bx + 8) (fun i a b τ => ∃ d T P m e, m ≤ 5 ∧ a = nI e ∧ b = nI i ∧ Pz rr ii ct τ0 d0 T0 q e1 d T P m e τ) ⟨d0, T0, fun _ => e1, 0, e1, by omega, rfl, rfl, ⟨rfl, fun _ _ _ _ _ => rfl⟩, hI, hT, fun _ _ => rfl, ⟨fun _ _ _ _ => rfl, fun _ _ => ⟨rfl, rfl⟩⟩, fun i hi => absurd hi (Nat.not_lt_zero _), ⟨rfl, rfl⟩, fun _ _ => Nat.le_refl _, ⟨Nat.le_refl _, by omega⟩, hVb⟩ (by omega) (fun i a b τ rec hi hI ih => ?_) (fun a b τ rec hI => ?_)
  · obtain ⟨d, T, P, m, e, hm5, rfl, rfl, hz⟩ := hI
    obtain ⟨⟨r1, f1⟩, hIl, hTx, hAr, hDA, hPls, ⟨hP0, hPm⟩, hPe, ⟨he, he2⟩, hV⟩ := id hz
    have d1 := hDA.one
    have dz : ∀ k, d 0 k = d0 0 k := fun k => hDA.1 0 k (by decide) (by decide)
    rw [show (8 : Int32) = nI 8 from rfl, nI_add, if_neg (nI_ge hi (by omega)), show (1 : Int32) = nI 1 from rfl, nI_add, nI_clamp (show 16 + 16 * q + 1 < 2 ^ 31 by omega), show 16 + 16 * q + 1 = 17 + 16 * q by omega, hIl.2.2.1]
    refine wp_grd (li r1 (by omega)) ?_
    by_cases c : bx ≤ m
    · rw [if_pos (by rw [lenN (by omega) (by omega)]; exact c)]
      exact hk d T P m e τ hm5 hz
    rw [if_neg (by rw [lenN (by omega) (by omega)]; exact c)]
    have nv : ∀ {t : SS}, Kn rr τ0 t → True := fun _ => trivial
    refine wp_bndp (next_s (σ := τ) (c := rr) (by unfold lav at *; rw [r1]; exact hvr) (by rw [r1]; exact hlr)) fun v139 σ142 ⟨⟨n1, hn1, en1⟩, k142⟩ => ?_
    have en1 : v139 = nI n1 := en1
    have z142 := hz.kn hir hcr k142
    have r142 : gR σ142 = gR τ0 := z142.1.1
    have i142 := z142.2.1
    rw [en1, i142.1.1, show (3 : Int32) = nI 3 from rfl, nI_sub (show 3 ≤ d0 0 0 by omega), dz, nI_sub (show d0 0 2 ≤ d0 0 0 - 3 by omega), rem_nI (by omega) (by omega) (by omega), show (2 : Int32) = nI 2 from rfl, nI_add]
    have hm1 := Nat.mod_lt n1 (show 0 < d0 0 0 - 3 - d0 0 2 by omega)
    refine wp_grd (li (k := 1) r142 (by decide)) (wp_grd (nzN (by omega) (by omega)) (wp_v ?_))
    generalize ex : 2 + n1 % (d0 0 0 - 3 - d0 0 2) = x
    refine wp_bndp (next_s (σ := σ142) (c := rr) (by unfold lav at *; rw [r142]; exact hvr) (by rw [r142]; exact hlr)) fun v146 σ149 ⟨⟨n2, hn2, en2⟩, k149⟩ => ?_
    have en2 : v146 = nI n2 := en2
    have z149 := z142.kn hir hcr k149
    have r149 : gR σ149 = gR τ0 := z149.1.1
    have i149 := z149.2.1
    have e149 : gI σ149 ii 2 = nI (d0 0 3) := by rw [← dz]; exact i149.1.2
    rw [en2, e149, nI_sub (show 3 ≤ d0 0 1 by omega), nI_sub (show d0 0 3 ≤ d0 0 1 - 3 by omega), rem_nI (by omega) (by omega) (by omega), nI_add, nI_add]
    have hm2 := Nat.mod_lt n2 (show 0 < d0 0 1 - 3 - d0 0 3 by omega)
    refine wp_grd (li (k := 2) r149 (by decide)) (wp_grd (nzN (by omega) (by omega)) (wp_v ?_))
    generalize ey : 2 + n2 % (d0 0 1 - 3 - d0 0 3) = y
    refine wp_bnd1 (over_s (τ := σ149) (d := d) (q := q) (m := m) (x := x) (y := y) (by unfold lav at *; rw [r149]; exact hvi) (by rw [r149]; exact hli) i149 (by omega) hm5 (fun p hp => by rw [d1]; exact (hN p hp).2) (by rw [dz, dz]; omega) (by omega) (by omega) (fun k hk' => by have := hV.1 k (by rw [d1] at hk'; exact hk'); rw [dz, dz, dz, dz] at this; omega)) fun b154 hb => ?_
    rcases hb with hb | ⟨hb, hnc⟩
    · rw [hb, if_pos rfl]
      exact ih _ _ _ ⟨d, T, P, m, e, hm5, rfl, by rw [nI_add], z149⟩
    rw [hb, if_neg (by decide)]
    refine wp_grd (li r149 (by omega)) ?_
    refine wp_vk (fun v157 σ158 => ∃ b T1, v157 = nI b ∧ ((m = 0 ∧ b = P 0) ∨ (0 < m ∧ T1 (P m) = 44 ∧ b = P m + 1)) ∧ (e ≤ b ∧ b ≤ e + 1) ∧ Wr ct e σ149 σ158 ∧ Ar T T1 e ∧ Tx ct σ158 T1 b) (fun v157 σ158 hs => ?_) (fun j449 hj => ?_)
    · obtain ⟨b, T1, rfl, hb1, ⟨hb2, hb3⟩, W1, A1, X1⟩ := hs
      have r158 : gR σ158 = gR τ0 := W1.1.trans r149
      refine wp_bndp (number_s (τ := σ158) (by unfold lav at *; rw [r158]; exact hvt) (by rw [r158]; exact hlt) (by omega) (by omega) X1) fun v159 σ162 ⟨j, e159, hj1, hj2, W2, T2, A2, X2, N2⟩ => ?_
      have e159 : v159 = nI j := e159
      have W2 : Wr ct b σ158 σ162 := W2
      have X2 : Tx ct σ162 T2 j := X2
      have r162 : gR σ162 = gR τ0 := W2.1.trans r158
      rw [e159]
      refine wp_bndp (number_s (τ := σ162) (by unfold lav at *; rw [r162]; exact hvt) (by rw [r162]; exact hlt) (by omega) (by omega) X2) fun v163 σ166 ⟨e', e163, he1', he2', W3, T3, A3, X3, N3⟩ => ?_
      have e163 : v163 = nI e' := e163
      have W3 : Wr ct j σ162 σ166 := W3
      have X3 : Tx ct σ166 T3 e' := X3
      have r166 : gR σ166 = gR τ0 := W3.1.trans r162
      have WW : Wr ct e σ149 σ166 := (W1.tr (W2.le hb2)).tr (W3.le (by omega))
      have i166 : ∀ k, gI σ166 ii k = gI σ149 ii k := fun k => WW.2 _ _ (by omega)
      have I166 := i149.kn i166
      have ec : gI σ166 ii (17 + 16 * q) = nI m := I166.2.2.1
      rw [e163, ec, show (4 : Int32) = nI 4 from rfl, show (5 : Int32) = nI 5 from rfl, nI_add, nI_add, nI_mul, nI_add, nI_add, nI_clamp (show 16 + 16 * q + 4 + 2 * m < 2 ^ 31 by omega)]
      refine wp_grd (li r166 (by omega)) (wp_grd (li r166 (by omega)) (wp_v ?_))
      have c169 : gI (sI σ166 ii (16 + 16 * q + 4 + 2 * m) (nI x)) ii (17 + 16 * q) = nI m := by rw [gI_nk (by omega)]; exact ec
      rw [c169, nI_mul, nI_add, nI_clamp (show 16 + 16 * q + 5 + 2 * m < 2 ^ 31 by omega)]
      refine wp_grd (li (τ := sI σ166 ii (16 + 16 * q + 4 + 2 * m) (nI x)) r166 (by omega)) (wp_grd (li (τ := sI σ166 ii (16 + 16 * q + 4 + 2 * m) (nI x)) r166 (by omega)) (wp_v ?_))
      have c172 : gI (sI (sI σ166 ii (16 + 16 * q + 4 + 2 * m) (nI x)) ii (16 + 16 * q + 5 + 2 * m) (nI y)) ii (17 + 16 * q) = nI m := by rw [gI_nk (by omega)]; exact c169
      rw [c172, nI_add]
      refine wp_grd (li (τ := sI (sI σ166 ii (16 + 16 * q + 4 + 2 * m) (nI x)) ii (16 + 16 * q + 5 + 2 * m) (nI y)) r166 (by omega)) (wp_v ?_)
      have o : ∀ c k, ¬ (c = ii ∧ (k = 17 + 16 * q ∨ k = 20 + 16 * q + 2 * m ∨ k = 21 + 16 * q + 2 * m)) → gI (sI (sI (sI σ166 ii (16 + 16 * q + 4 + 2 * m) (nI x)) ii (16 + 16 * q + 5 + 2 * m) (nI y)) ii (17 + 16 * q) (nI (m + 1))) c k = gI σ166 c k := fun c k hc => by
        rw [gI_nk (by omega), gI_nk (by omega), gI_nk (by omega)]
      have o17 : gI (sI (sI (sI σ166 ii (16 + 16 * q + 4 + 2 * m) (nI x)) ii (16 + 16 * q + 5 + 2 * m) (nI y)) ii (17 + 16 * q) (nI (m + 1))) ii (17 + 16 * q) = nI (m + 1) := gI_eq _ _ _ _
      have o20 : gI (sI (sI (sI σ166 ii (16 + 16 * q + 4 + 2 * m) (nI x)) ii (16 + 16 * q + 5 + 2 * m) (nI y)) ii (17 + 16 * q) (nI (m + 1))) ii (20 + 16 * q + 2 * m) = nI x := by
        rw [gI_nk (by omega), gI_nk (by omega), show 20 + 16 * q + 2 * m = 16 + 16 * q + 4 + 2 * m by omega, gI_eq]
      have o21 : gI (sI (sI (sI σ166 ii (16 + 16 * q + 4 + 2 * m) (nI x)) ii (16 + 16 * q + 5 + 2 * m) (nI y)) ii (17 + 16 * q) (nI (m + 1))) ii (21 + 16 * q + 2 * m) = nI y := by
        rw [gI_nk (by omega), show 21 + 16 * q + 2 * m = 16 + 16 * q + 5 + 2 * m by omega, gI_eq]
      have oR : gR (sI (sI (sI σ166 ii (16 + 16 * q + 4 + 2 * m) (nI x)) ii (16 + 16 * q + 5 + 2 * m) (nI y)) ii (17 + 16 * q) (nI (m + 1))) = gR τ0 := r166
      generalize sI (sI (sI σ166 ii (16 + 16 * q + 4 + 2 * m) (nI x)) ii (16 + 16 * q + 5 + 2 * m) (nI y)) ii (17 + 16 * q) (nI (m + 1)) = σ174 at o o17 o20 o21 oR
      have hi1 : dX d (psum (d0 1) q + m) x y 1 = d 1 := funext fun k => dX_o (Or.inr ⟨by decide, by decide⟩)
      have A13 : Ar T T3 e := fun j' hj' => (A3 j' (by omega)).trans ((A2 j' (by omega)).trans (A1 j' hj'))
      refine ih _ _ _ ⟨dX d (psum (d0 1) q + m) x y, T3, fun i => if i ≤ m then P i else e', m + 1, e', by omega, rfl, rfl, ⟨oR, fun c k c1 c2 c3 => ?_⟩, ⟨⟨?_, ?_⟩, fun p hp => ?_, o17, fun b' hb' => ?_⟩, ?_, fun j' hj' => (A13 j' (by omega)).trans (hAr j' hj'), ⟨fun r p h1 h2 => ?_, fun k hk' => ?_⟩, fun i' hi' => ?_, ⟨?_, ?_⟩, fun i' hi' => ?_, ⟨by omega, by omega⟩, ?_⟩
      · rw [o c k (by omega), WW.2 c k (by omega)]; exact z149.1.2 c k c1 c2 c3
      · rw [o _ _ (by omega), dX_o (Or.inr ⟨by decide, by decide⟩)]; exact I166.1.1
      · rw [o _ _ (by omega), dX_o (Or.inr ⟨by decide, by decide⟩)]; exact I166.1.2
      · obtain ⟨y1, y2, y3, y4, y5⟩ := I166.2.1 p hp
        have hNp := hN p hp
        rw [hi1, o _ _ (by omega), o _ _ (by omega), o _ _ (by omega), o _ _ (by omega), dX_o (Or.inr ⟨by decide, by decide⟩), dX_o (Or.inr ⟨by decide, by decide⟩), dX_o (Or.inr ⟨by decide, by decide⟩)]
        refine ⟨y1, y2, y3, y4, fun b' hb' => ?_⟩
        have hb5 : b' < d0 1 p := by rw [← d1]; exact hb'
        have hlt' := psum_lt (N := d0 1) hp hb5
        rw [o _ _ (by omega), o _ _ (by omega), dX_o (Or.inl (by rw [d1]; omega)), dX_o (Or.inl (by rw [d1]; omega))]
        exact y5 b' hb'
      · rw [hi1, d1]
        by_cases c : b' = m
        · subst c; rw [dX_2, dX_3]; exact ⟨o20, o21⟩
        · rw [dX_o (Or.inl (by omega)), dX_o (Or.inl (by omega)), o _ _ (by omega), o _ _ (by omega), ← d1]
          exact I166.2.2.2 b' (by omega)
      · exact X3.kn fun k => o _ _ (by omega)
      · rw [dX_o (Or.inr ⟨h1, h2⟩)]; exact hDA.1 r p h1 h2
      · rw [dX_o (Or.inl (by omega)), dX_o (Or.inl (by omega))]; exact hDA.2 k hk'
      · by_cases c : i' = m
        · subst c
          refine ⟨b, j, ?_, ?_, ?_⟩
          · dsimp only
            rw [if_pos (Nat.zero_le _), if_pos (Nat.le_refl _)]
            rcases hb1 with ⟨q1, q2⟩ | ⟨q1, q2, q3⟩
            · exact Or.inl ⟨q1, q2⟩
            · exact Or.inr ⟨q1, by rw [A3 _ (by omega), A2 _ (by omega)]; exact q2, q3⟩
          · rw [hi1, d1, dX_2]; exact N2.cg A3 (Nat.le_refl _)
          · rw [hi1, d1, dX_3]
            dsimp only
            rw [if_neg (by omega)]; exact N3
        · exact (hPls.cg (T' := T3) (P' := fun i => if i ≤ m then P i else e') (d' := dX d (psum (d0 1) q + m) x y) A13 hPe hPls.inc (fun i hi' => if_pos hi') hi1 (fun k hk' => by rw [d1] at hk'; exact ⟨dX_o (Or.inl (by omega)), dX_o (Or.inl (by omega))⟩)) i' (by omega)
      · dsimp only; rw [if_pos (Nat.zero_le _)]; exact hP0
      · dsimp only; rw [if_neg (by omega)]
      · dsimp only
        by_cases c : i' ≤ m
        · rw [if_pos c]; have := hPe i' c; omega
        · rw [if_neg c]; exact Nat.le_refl _
      · refine hV.add (by rw [dz, dz]; omega) (by rw [dz, dz]; omega) fun k hk' => hnc k (by rw [d1]; exact hk')
    · have ec : gI σ149 ii (17 + 16 * q) = nI m := i149.2.2.1
      rw [ec]
      by_cases c : m = 0
      · rw [if_pos (by rw [show (0 : Int32) = nI 0 from rfl, lenN (by omega) (by omega)]; omega)]
        exact hj _ _ ⟨e, T, rfl, Or.inl ⟨c, by rw [← hPm, c]⟩, ⟨Nat.le_refl _, by omega⟩, Wr.rf _ _ _, fun _ _ => rfl, z149.2.2.1⟩
      · rw [if_neg (by rw [show (0 : Int32) = nI 0 from rfl, lenN (by omega) (by omega)]; omega), nI_clamp (by omega), nI_add]
        refine wp_grd (lt' r149 (by omega)) (wp_v ?_)
        obtain ⟨W1, T1, A1, X1, s1⟩ := sign_s (c := 44) (by decide) z149.2.2.1
        exact hj _ _ ⟨e + 1, T1, rfl, Or.inr ⟨by omega, by rw [hPm]; exact s1, by omega⟩, ⟨by omega, by omega⟩, W1, A1, X1⟩
  · obtain ⟨d, T, P, m, e, hm5, rfl, rfl, hz⟩ := hI
    rw [show (8 : Int32) = nI 8 from rfl, nI_add, if_pos (nI_le (Nat.le_refl _) (by omega))]
    exact hk d T P m e τ hm5 hz
end PLACING
