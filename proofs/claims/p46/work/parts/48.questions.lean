/-! 48: the law draws the questions: one begun; all. -/
section QUESTIONS
variable {rr ii ct q e : Nat} {τ0 τ : SS} {d : Nat → Nat → Nat} {T : Nat → Nat}
/-- a question begun, its boxes drawn -/
def Op (rr ii ct q e : Nat) (d : Nat → Nat → Nat) (T : Nat → Nat) (τ : SS) (kd w o : Nat) (d1 : Nat → Nat → Nat) (T2 P : Nat → Nat) (m e2 : Nat) (σ : SS) : Prop := (gR σ = gR τ ∧ ∀ c k, c ≠ ct → c ≠ ii → ¬ (c = rr ∧ k = 0) → gI σ c k = gI τ c k) ∧ Il ii d1 q m σ ∧ gI σ ii (16 + 16 * q) = nI (1 + kd) ∧ gI σ ii (19 + 16 * q) = nI w ∧ Tx ct σ T2 e2 ∧ Ar T T2 e ∧ Wd T2 e o ∧ ((kd = 0 ∧ o = 3) ∨ (kd = 1 ∧ o = 2)) ∧ DA d d1 (psum (d 1) q) ∧ Pls T2 d1 q m P ∧ P 0 = e + (wL o).length ∧ P m = e2 ∧ (∀ i, i ≤ m → P i ≤ e2) ∧ (e ≤ e2 ∧ e2 ≤ e + 39) ∧ Vb d1 (psum (d 1) q + m) ∧ m ≤ 5 ∧ kd ≤ 1 ∧ w ≤ 9
set_option maxHeartbeats 4000000 in
theorem open_d {c7 c8 : Nat} {kc : Int32 → SS → Option (Bool × SS)} {Z : Bool × SS → Prop} (hvr : lav τ rr = true) (hlr : gR τ rr 0 = 1) (hvi : lav τ ii = true) (hli : gR τ ii 0 = 300) (hvt : lav τ ct = true) (hlt : gR τ ct 0 = 600) (hir : ii ≠ rr) (hcr : ct ≠ rr) (hci : ct ≠ ii) (hq : q < 5) (he : e ≤ 400)
    (h7 : Wc7 c7 (wL 3) τ) (h8 : Wc7 c8 (wL 2) τ) (n7 : c7 ≠ ct ∧ c7 ≠ ii ∧ c7 ≠ rr) (n8 : c8 ≠ ct ∧ c8 ≠ ii ∧ c8 ≠ rr) (hW : 14 ≤ d 0 0 ∧ d 0 0 ≤ 33) (hH : 14 ≤ d 0 1 ∧ d 0 1 ≤ 33) (hA : 1 ≤ d 0 2 ∧ d 0 2 ≤ 3) (hB : 1 ≤ d 0 3 ∧ d 0 3 ≤ 3) (hIl : IlQ ii d q τ) (hTx : Tx ct τ T e) (hN : ∀ p, p < q → 1 ≤ d 1 p ∧ d 1 p ≤ 5) (hVb : Vb d (psum (d 1) q))
    (hk : ∀ kd w o d1 T2 P m e2 σ, Op rr ii ct q e d T τ kd w o d1 T2 P m e2 σ → WP (kc (nI e2) σ) Z) :
    WP (bnd (fL_next τ rr) fun v111 σ114 =>
      grd (lin σ114 ii (nI (16 + 16 * q))) <|
      vthen (sI σ114 ii (16 + 16 * q) ((1 : Int32) + (irm v111 (2 : Int32)))) fun σ116 =>
      grd (lin σ116 ii (nI (17 + 16 * q))) <|
      vthen (sI σ116 ii (17 + 16 * q) (0 : Int32)) fun σ118 =>
      grd (lin σ118 ii (nI (18 + 16 * q))) <|
      vthen (sI σ118 ii (18 + 16 * q) (0 : Int32)) fun σ120 =>
      bnd (fL_next σ120 rr) fun v121 σ124 =>
      grd (lin σ124 ii (nI (19 + 16 * q))) <|
      vthen (sI σ124 ii (19 + 16 * q) (irm v121 (10 : Int32))) fun σ126 =>
      grd (lin σ126 ii (nI (16 + 16 * q))) <|
      vthen (fun (s128 : Nat) =>
        bnd (fL_put σ126 ct (nI e) s128) fun v129 σ132 =>
        bnd (fL_next σ132 rr) fun v133 σ136 =>
        vthen ((1 : Int32) + (irm v133 (5 : Int32))) fun v137 =>
        L_draws_L358 ii rr (nI (d 0 0)) (nI (d 0 1)) ct (nI q) (nI (16 + 16 * q)) v137 kc fuel v129 (0 : Int32) σ136) fun j340 =>
      if (gI σ126 ii (16 + 16 * q)) = (1 : Int32) then j340 c7 else j340 c8) Z := by
  have li : ∀ {t : SS} {k : Nat}, gR t = gR τ → k < 300 → lin t ii (nI k) = true := fun {t k} h hk => lin_of (by unfold lav at *; rw [h]; exact hvi) (by rw [h]; exact hli) hk (by decide)
  have vt : ∀ {t : SS}, gR t = gR τ → lav t ct = true := fun {t} h => by unfold lav at *; rw [h]; exact hvt
  have lct : ∀ {t : SS}, gR t = gR τ → gR t ct 0 = 600 := fun {t} h => by rw [h]; exact hlt
  have vr : ∀ {t : SS}, gR t = gR τ → lav t rr = true := fun {t} h => by unfold lav at *; rw [h]; exact hvr
  have lr : ∀ {t : SS}, gR t = gR τ → gR t rr 0 = 1 := fun {t} h => by rw [h]; exact hlr
  refine wp_bndp (next_s (σ := τ) (c := rr) hvr hlr) fun v111 σ114 ⟨⟨n1, hn1, en1⟩, k114⟩ => ?_
  have en1 : v111 = nI n1 := en1
  have k114 : Kn rr τ σ114 := k114
  have r114 : gR σ114 = gR τ := k114.1
  rw [en1, show (2 : Int32) = nI 2 from rfl, nx_at (n := n1) (k := 2) (by omega) (by omega)]
  have hkd := Nat.mod_lt n1 (show 0 < 2 by decide)
  generalize n1 % 2 = kd at hkd
  refine wp_grd (li r114 (by omega)) (wp_v (wp_grd (li (t := sI σ114 ii (16 + 16 * q) (nI (1 + kd))) r114 (by omega)) (wp_v (wp_grd (li (t := sI (sI σ114 ii (16 + 16 * q) (nI (1 + kd))) ii (17 + 16 * q) 0) r114 (by omega)) (wp_v ?_)))))
  have g120 : ∀ c k, ¬ (c = ii ∧ (k = 16 + 16 * q ∨ k = 17 + 16 * q ∨ k = 18 + 16 * q)) → gI (sI (sI (sI σ114 ii (16 + 16 * q) (nI (1 + kd))) ii (17 + 16 * q) 0) ii (18 + 16 * q) 0) c k = gI σ114 c k := fun c k hc => by rw [gI_nk (by omega), gI_nk (by omega), gI_nk (by omega)]
  have g16 : gI (sI (sI (sI σ114 ii (16 + 16 * q) (nI (1 + kd))) ii (17 + 16 * q) 0) ii (18 + 16 * q) 0) ii (16 + 16 * q) = nI (1 + kd) := by rw [gI_nk (by omega), gI_nk (by omega), gI_eq]
  have g17 : gI (sI (sI (sI σ114 ii (16 + 16 * q) (nI (1 + kd))) ii (17 + 16 * q) 0) ii (18 + 16 * q) 0) ii (17 + 16 * q) = nI 0 := by rw [gI_nk (by omega), gI_eq]; rfl
  have r120 : gR (sI (sI (sI σ114 ii (16 + 16 * q) (nI (1 + kd))) ii (17 + 16 * q) 0) ii (18 + 16 * q) 0) = gR τ := r114
  generalize sI (sI (sI σ114 ii (16 + 16 * q) (nI (1 + kd))) ii (17 + 16 * q) 0) ii (18 + 16 * q) 0 = σ120 at g120 g16 g17 r120
  refine wp_bndp (next_s (σ := σ120) (c := rr) (vr r120) (lr r120)) fun v121 σ124 ⟨⟨n2, hn2, en2⟩, k124⟩ => ?_
  have en2 : v121 = nI n2 := en2
  have k124 : Kn rr σ120 σ124 := k124
  have r124 : gR σ124 = gR τ := k124.1.trans r120
  rw [en2, show (10 : Int32) = nI 10 from rfl, rem_nI (i := n2) (w := 10) (by omega) (by decide) (by decide)]
  have hw := Nat.mod_lt n2 (show 0 < 10 by decide)
  generalize n2 % 10 = w at hw
  refine wp_grd (li r124 (by omega)) (wp_v ?_)
  have f126 : ∀ c k, ¬ (c = rr ∧ k = 0) → ¬ (c = ii ∧ (16 + 16 * q ≤ k ∧ k ≤ 19 + 16 * q)) → gI (sI σ124 ii (19 + 16 * q) (nI w)) c k = gI τ c k := fun c k h1 h2 => by rw [gI_nk (by omega), k124.2 _ _ h1, g120 _ _ (by omega), k114.2 _ _ h1]
  have i16 : gI (sI σ124 ii (19 + 16 * q) (nI w)) ii (16 + 16 * q) = nI (1 + kd) := by rw [gI_nk (by omega), k124.2 _ _ (by omega)]; exact g16
  have i17 : gI (sI σ124 ii (19 + 16 * q) (nI w)) ii (17 + 16 * q) = nI 0 := by rw [gI_nk (by omega), k124.2 _ _ (by omega)]; exact g17
  have i19 : gI (sI σ124 ii (19 + 16 * q) (nI w)) ii (19 + 16 * q) = nI w := gI_eq _ _ _ _
  have r126 : gR (sI σ124 ii (19 + 16 * q) (nI w)) = gR τ := r124
  generalize sI σ124 ii (19 + 16 * q) (nI w) = σ126 at f126 i16 i17 i19 r126
  clear g120 g16 g17 k124 k114
  refine wp_grd (li r126 (by omega)) ?_
  have x126 : Tx ct σ126 T e := hTx.kn fun k => f126 _ _ (by omega) (by omega)
  refine wp_vk1 (fun s => ∃ o, Wc7 s (wL o) σ126 ∧ s ≠ ct ∧ ((kd = 0 ∧ o = 3) ∨ (kd = 1 ∧ o = 2))) (fun s128 hs => ?_) (fun j340 hj => ?_)
  rotate_left
  · rw [i16]
    by_cases c : kd = 0
    · rw [if_pos (c := nI (1 + kd) = (1 : Int32)) (by rw [c]; rfl)]
      exact hj _ ⟨3, h7.fr r126 fun k => f126 _ _ (by omega) (by omega), n7.1, Or.inl ⟨c, rfl⟩⟩
    · rw [if_neg (fun z => by have := nI_injN (a := 1 + kd) (b := 1) (by omega) (by omega) z; omega)]
      exact hj _ ⟨2, h8.fr r126 fun k => f126 _ _ (by omega) (by omega), n8.1, Or.inr ⟨by omega, rfl⟩⟩
  obtain ⟨o, hwc, hsc, ho⟩ := hs
  have hlen : (wL o).length = stL.getD o 0 ∧ 3 ≤ (wL o).length ∧ (wL o).length ≤ 4 := by rcases ho with ⟨-, rfl⟩ | ⟨-, rfl⟩ <;> decide
  refine wp_bndp (putw_s (vt r126) (lct r126) hwc hsc (by omega) x126) fun v129 σ132 ⟨e129, W132, T1, A1, X1, s1⟩ => ?_
  have e129 : v129 = nI (e + (wL o).length) := e129
  have W132 : Wr ct e σ126 σ132 := W132
  have X1 : Tx ct σ132 T1 (e + (wL o).length) := X1
  have wd1 : Wd T1 e o := fun k hk => s1 k (by rw [hlen.1]; exact hk)
  have r132 : gR σ132 = gR τ := W132.1.trans r126
  rw [e129]
  refine wp_bndp (next_s (σ := σ132) (c := rr) (vr r132) (lr r132)) fun v133 σ136 ⟨⟨n3, hn3, en3⟩, k136⟩ => ?_
  have en3 : v133 = nI n3 := en3
  have k136 : Kn rr σ132 σ136 := k136
  have r136 : gR σ136 = gR τ := k136.1.trans r132
  rw [en3, show (5 : Int32) = nI 5 from rfl, nx_at (n := n3) (k := 5) (by omega) (by omega)]
  have hbx := Nat.mod_lt n3 (show 0 < 5 by decide)
  generalize n3 % 5 = bx' at hbx
  refine wp_v ?_
  have f136 : ∀ c k, c ≠ ct → ¬ (c = rr ∧ k = 0) → gI σ136 c k = gI σ126 c k := fun c k h1 h2 => (k136.2 c k h2).trans (W132.2 c k (by omega))
  have x136 : Tx ct σ136 T1 (e + (wL o).length) := X1.kn fun k => k136.2 _ _ (by omega)
  have il136 : ∀ k, (k < 16 + 16 * q) → gI σ136 ii k = gI τ ii k := fun k hk' => by rw [f136 _ _ (by omega) (by omega), f126 _ _ (by omega) (by omega)]
  have I136 : Il ii d q 0 σ136 := by
    refine ⟨⟨by rw [il136 _ (by omega)]; exact hIl.1.1, by rw [il136 _ (by omega)]; exact hIl.1.2⟩, fun p hp => ?_, by rw [f136 _ _ (by omega) (by omega)]; exact i17, fun b hb => absurd hb (Nat.not_lt_zero _)⟩
    obtain ⟨z1, z2, z3, z4, z5⟩ := hIl.2 p hp
    have hN5 := (hN p hp).2
    rw [il136 _ (by omega), il136 _ (by omega), il136 _ (by omega), il136 _ (by omega)]
    refine ⟨z1, z2, z3, z4, fun b hb => ?_⟩
    rw [il136 _ (by omega), il136 _ (by omega)]
    exact z5 b hb
  refine boxes_d (τ0 := σ136) (d0 := d) (T0 := T1) (q := q) (e1 := e + (wL o).length) (vr r136) (lr r136) (by unfold lav at *; rw [r136]; exact hvi) (by rw [r136]; exact hli) (vt r136) (lct r136) hir hcr hci hq (by omega) (by omega) hW hH hA hB hN I136 x136 hVb fun d1 T2 P m e2 σ178 hm5 hz => ?_
  obtain ⟨⟨r178', f178⟩, I178, X2, A2, hDA, hPls, ⟨hP0, hPm⟩, hPe, ⟨l1, l2⟩, hV2⟩ := hz
  refine hk kd w o d1 T2 P m e2 σ178 ⟨⟨r178'.trans r136, fun c k h1 h2 h3 => ?_⟩, I178, ?_, ?_, X2, fun j hj' => (A2 j (by omega)).trans (A1 j hj'), wd1.cg A2 (by omega), ho, hDA, hPls, hP0, hPm, hPe, ⟨by omega, by omega⟩, hV2, hm5, by omega, by omega⟩
  · rw [f178 c k h1 h3 (by omega), f136 c k h1 h3, f126 c k h3 (by omega)]
  · rw [f178 _ _ (by omega) (by omega) (by omega), f136 _ _ (by omega) (by omega)]; exact i16
  · rw [f178 _ _ (by omega) (by omega) (by omega), f136 _ _ (by omega) (by omega)]; exact i19
/-- q questions are drawn -/
def Iq (rr ii ct : Nat) (τ0 : SS) (d0 : Nat → Nat → Nat) (d : Nat → Nat → Nat) (T E : Nat → Nat) (q e : Nat) (τ : SS) : Prop := (gR τ = gR τ0 ∧ ∀ c k, c ≠ ct → c ≠ ii → ¬ (c = rr ∧ k = 0) → gI τ c k = gI τ0 c k) ∧ IlQ ii d q τ ∧ Tx ct τ T e ∧ Tq d T E q e ∧ e ≤ 21 + 63 * q ∧ (∀ k, d 0 k = d0 0 k) ∧ Vq d q ∧ Vb d (psum (d 1) q)
theorem IlQ.da {d1 : Nat → Nat → Nat} {m : Nat} (h : Il ii d1 q m τ) (hDA : DA d d1 (psum (d 1) q)) : IlQ ii d q τ := by
  have d1e := hDA.one
  have d1z : ∀ k, d1 0 k = d 0 k := fun k => hDA.1 0 k (by decide) (by decide)
  obtain ⟨⟨h1, h2⟩, h3, -, -⟩ := h
  refine ⟨⟨by rw [← d1z]; exact h1, by rw [← d1z]; exact h2⟩, fun p hp => ?_⟩
  obtain ⟨z1, z2, z3, z4, z5⟩ := h3 p hp
  rw [hDA.1 6 p (by decide) (by decide)] at z1
  rw [d1e] at z2 z5
  rw [hDA.1 4 p (by decide) (by decide)] at z3
  rw [hDA.1 5 p (by decide) (by decide)] at z4
  refine ⟨z1, z2, z3, z4, fun b hb => ?_⟩
  obtain ⟨y1, y2⟩ := z5 b hb
  have hl := psum_lt (N := d 1) hp hb
  rw [(hDA.2 _ hl).1] at y1
  rw [(hDA.2 _ hl).2] at y2
  exact ⟨y1, y2⟩
set_option maxHeartbeats 4000000 in
theorem quests_d {c7 c8 c9 c10 nq e0 : Nat} {d0 : Nat → Nat → Nat} {T0 E0 : Nat → Nat} {k670 : Int32 → Int32 → SS → Option (Bool × SS)} {Z : Bool × SS → Prop} (hvr : lav τ0 rr = true) (hlr : gR τ0 rr 0 = 1) (hvi : lav τ0 ii = true) (hli : gR τ0 ii 0 = 300) (hvt : lav τ0 ct = true) (hlt : gR τ0 ct 0 = 600) (hir : ii ≠ rr) (hcr : ct ≠ rr) (hci : ct ≠ ii) (hnq : nq ≤ 5)
    (h7 : Wc7 c7 (wL 3) τ0) (h8 : Wc7 c8 (wL 2) τ0) (h9 : Wc7 c9 (32 :: wL 4) τ0) (h10 : Wc7 c10 (32 :: wL 5) τ0) (n7 : c7 ≠ ct ∧ c7 ≠ ii ∧ c7 ≠ rr) (n8 : c8 ≠ ct ∧ c8 ≠ ii ∧ c8 ≠ rr) (n9 : c9 ≠ ct ∧ c9 ≠ ii ∧ c9 ≠ rr) (n10 : c10 ≠ ct ∧ c10 ≠ ii ∧ c10 ≠ rr)
    (hW : 14 ≤ d0 0 0 ∧ d0 0 0 ≤ 33) (hH : 14 ≤ d0 0 1 ∧ d0 0 1 ≤ 33) (hA : 1 ≤ d0 0 2 ∧ d0 0 2 ≤ 3) (hB : 1 ≤ d0 0 3 ∧ d0 0 3 ≤ 3) (h0 : Iq rr ii ct τ0 d0 d0 T0 E0 0 e0 τ0)
    (hk : ∀ d T E q e τ, q ≤ 5 → Iq rr ii ct τ0 d0 d T E q e τ → WP (k670 (nI e) (nI q) τ) Z) :
    WP (L_draws_L261 ii rr (nI (d0 0 0)) (nI (d0 0 1)) c7 c8 c9 c10 ct (nI nq) k670 fuel (nI e0) (0 : Int32) (0 : Int32) τ0) Z := by
  unfold L_draws_L261
  refine wf_4 nq (fun i a b c τ => ∃ d T E q e, q ≤ i ∧ a = nI e ∧ b = nI q ∧ c = nI i ∧ Iq rr ii ct τ0 d0 d T E q e τ) ⟨d0, T0, E0, 0, e0, Nat.le_refl _, rfl, rfl, rfl, h0⟩ (by omega) (fun i a b c τ rec hi hI ih => ?_) (fun a b c τ rec hI => ?_)
  · obtain ⟨d, T, E, q, e, hqi, rfl, rfl, rfl, ⟨⟨r0, f0⟩, hIl, hTx, hTq, he, hd0, hVq, hVb⟩⟩ := hI
    have at0 : (16 : Int32) + (16 : Int32) * nI q = nI (16 + 16 * q) := ix16 16 q
    have at1 : nI (16 + 16 * q) + (1 : Int32) = nI (17 + 16 * q) := by rw [nI_1]; exact congrArg nI (by omega)
    have at2 : nI (16 + 16 * q) + (2 : Int32) = nI (18 + 16 * q) := by rw [show (2 : Int32) = nI 2 from rfl, nI_add]; exact congrArg nI (by omega)
    have at3 : nI (16 + 16 * q) + (3 : Int32) = nI (19 + 16 * q) := by rw [show (3 : Int32) = nI 3 from rfl, nI_add]; exact congrArg nI (by omega)
    have cl0 : Int32.toNatClampNeg (nI (16 + 16 * q)) = 16 + 16 * q := nI_clamp (by omega)
    have cl1 : Int32.toNatClampNeg (nI (17 + 16 * q)) = 17 + 16 * q := nI_clamp (by omega)
    have cl2 : Int32.toNatClampNeg (nI (18 + 16 * q)) = 18 + 16 * q := nI_clamp (by omega)
    have cl3 : Int32.toNatClampNeg (nI (19 + 16 * q)) = 19 + 16 * q := nI_clamp (by omega)
    rw [if_neg (nI_ge hi (by omega)), at0]
    refine wp_v ?_
    rw [at1, at2, at3, cl0, cl1, cl2, cl3, ← hd0, ← hd0]
    have wcf : ∀ {c : Nat} {L : List Nat}, Wc7 c L τ0 → (c ≠ ct ∧ c ≠ ii ∧ c ≠ rr) → Wc7 c L τ := fun {c L} h hn => h.fr r0 fun k => f0 c k hn.1 hn.2.1 (by omega)
    refine open_d (d := d) (T := T) (by unfold lav at *; rw [r0]; exact hvr) (by rw [r0]; exact hlr) (by unfold lav at *; rw [r0]; exact hvi) (by rw [r0]; exact hli) (by unfold lav at *; rw [r0]; exact hvt) (by rw [r0]; exact hlt) hir hcr hci (by omega) (by omega) (wcf h7 n7) (wcf h8 n8) n7 n8 (by rw [hd0]; exact hW) (by rw [hd0]; exact hH) (by rw [hd0]; exact hA) (by rw [hd0]; exact hB) hIl hTx (fun p hp => (hVq p hp).1) hVb fun kd w o d1 T2 P m e2 σ hop => ?_
    obtain ⟨⟨rσ', fσ'⟩, I2, g16, g19, X2, A2, wd, ho, hDA, hPls, hP0, hPm, hPe, ⟨l1, l2⟩, hV2, hm5, hkd, hw⟩ := hop
    have rσ : gR σ = gR τ0 := rσ'.trans r0
    have fσ : ∀ c k, c ≠ ct → c ≠ ii → ¬ (c = rr ∧ k = 0) → gI σ c k = gI τ0 c k := fun c k h1 h2 h3 => (fσ' c k h1 h2 h3).trans (f0 c k h1 h2 h3)
    clear fσ' wcf
    refine wp_grd (lin_of (n := 300) (by unfold lav at *; rw [rσ]; exact hvi) (by rw [rσ]; exact hli) (by omega) (by decide)) ?_
    rw [I2.2.2.1]
    by_cases cm : m = 0
    · rw [if_pos (c := nI m = (0 : Int32)) (by rw [cm]; rfl), nI_1]
      refine ih _ _ _ _ ⟨d, T, E, q, e, by omega, rfl, rfl, rfl, ⟨rσ, fσ⟩, IlQ.da I2 hDA, fun j hj => ?_, hTq, he, hd0, hVq, hVb⟩
      have h1 := X2 j (by omega)
      rw [A2 j hj] at h1
      exact h1
    rw [if_neg (c := nI m = (0 : Int32)) (nI_ne0 (by omega) (by omega))]
    refine wp_bndp (next_s (σ := σ) (c := rr) (by unfold lav at *; rw [rσ]; exact hvr) (by rw [rσ]; exact hlr)) fun v180 σ183 ⟨⟨n4, hn4, en4⟩, k183⟩ => ?_
    have en4 : v180 = nI n4 := en4
    have k183 : Kn rr σ σ183 := k183
    have r183 : gR σ183 = gR τ0 := k183.1.trans rσ
    have I183 : Il ii d1 q m σ183 := I2.kn fun k => k183.2 _ _ (by omega)
    have hp2 : 2 ^ m ≤ 2 ^ 5 := Nat.pow_le_pow_right (by decide) hm5
    have e32 : (2 : Nat) ^ 5 = 32 := rfl
    have hp1 : 1 ≤ 2 ^ m := Nat.pos_of_ne_zero (by simp)
    rw [I183.2.2.1, en4, sh_at m (by omega), rem_nI (by omega) (by omega) (by omega)]
    have hK := Nat.mod_lt n4 (show 0 < 2 ^ m by omega)
    generalize n4 % 2 ^ m = K at hK
    have l183 : ∀ {k : Nat}, k < 300 → lin σ183 ii (nI k) = true := fun {k} hk' => lin_of (by unfold lav at *; rw [r183]; exact hvi) (by rw [r183]; exact hli) hk' (by decide)
    refine wp_grd (l183 (by omega)) (wp_grd (nzN (by omega) (by omega)) (wp_grd (l183 (by omega)) (wp_v ?_)))
    have g187 : ∀ c k, ¬ (c = ii ∧ k = 18 + 16 * q) → gI (sI σ183 ii (18 + 16 * q) (nI K)) c k = gI σ183 c k := fun c k h => gI_nk h
    have K187 : gI (sI σ183 ii (18 + 16 * q) (nI K)) ii (18 + 16 * q) = nI K := gI_eq _ _ _ _
    have r187 : gR (sI σ183 ii (18 + 16 * q) (nI K)) = gR τ0 := r183
    generalize sI σ183 ii (18 + 16 * q) (nI K) = σ187 at g187 K187 r187
    have f187 : ∀ c k, ¬ (c = rr ∧ k = 0) → ¬ (c = ii ∧ k = 18 + 16 * q) → gI σ187 c k = gI σ c k := fun c k h1 h2 => (g187 c k h2).trans (k183.2 c k h1)
    have x187 : Tx ct σ187 T2 e2 := X2.kn fun k => f187 _ _ (by omega) (by omega)
    have v187i : lav σ187 ii = true := by unfold lav at *; rw [r187]; exact hvi
    have v187t : lav σ187 ct = true := by unfold lav at *; rw [r187]; exact hvt
    have l187i : gR σ187 ii 0 = 300 := by rw [r187]; exact hli
    have l187t : gR σ187 ct 0 = 600 := by rw [r187]; exact hlt
    have w9 : Wc7 c9 (32 :: wL 4) σ187 := h9.fr r187 fun k => by rw [f187 _ _ (by omega) (by omega)]; exact fσ _ _ n9.1 n9.2.1 (by omega)
    have w10 : Wc7 c10 (32 :: wL 5) σ187 := h10.fr r187 fun k => by rw [f187 _ _ (by omega) (by omega)]; exact fσ _ _ n10.1 n10.2.1 (by omega)
    have g17' : gI σ187 ii (17 + 16 * q) = nI m := by rw [f187 _ _ (by omega) (by omega)]; exact I2.2.2.1
    have g19' : gI σ187 ii (19 + 16 * q) = nI w := by rw [f187 _ _ (by omega) (by omega)]; exact g19
    have fAll : ∀ c k, c ≠ ct → c ≠ ii → ¬ (c = rr ∧ k = 0) → gI σ187 c k = gI τ0 c k := fun c k h1 h2 h3 => by rw [f187 c k h3 (by omega)]; exact fσ c k h1 h2 h3
    have hii : ∀ k, k ≠ 18 + 16 * q → gI σ187 ii k = gI σ ii k := fun k hk' => f187 _ _ (by omega) (by omega)
    have hq5 : q < 5 := by omega
    have he2' : e2 ≤ 490 := by omega
    have hq1 : q + 1 ≤ i + 1 := by omega
    have hm1 : 1 ≤ m := by omega
    have l3' : e2 ≤ 21 + 63 * q + 39 := by omega
    clear f187 g187 k183 hp2 hp1 e32 fσ
    refine wp_grd (lin_of v187i l187i (by omega) (by decide)) ?_
    refine wp_v ?_
    refine key_d (K := K) (m := m) (T2 := T2) v187i l187i v187t l187t hci hq5 hm5 hK he2' w9 n9.1 g17' K187 x187 fun e3 T3 R σ190 W190 A3 X3 l3 l4 hR => ?_
    refine close_d (w := w) (T3 := T3) (rec := fun v s => rec v (nI q + (1 : Int32)) (nI i + (1 : Int32)) s) (by unfold lav at *; rw [W190.1]; exact v187i) (by rw [W190.1]; exact l187i) (by unfold lav at *; rw [W190.1]; exact v187t) (by rw [W190.1]; exact l187t) hci hq5 hw (by omega) (w10.fr W190.1 fun k => W190.2 _ _ (by omega)) n10.1 (by rw [W190.2 _ _ (by omega)]; exact g19') X3 fun T6 e4 σ201 B3 h32 h5 hNm h59 X6 W201 => ?_
    have hl4 := hNm.lt
    have WW : ∀ c k, c ≠ ct → gI σ201 c k = gI σ187 c k := fun c k h => (W201.2 c k (by omega)).trans (W190.2 c k (by omega))
    have B2 : Ar T2 T6 e2 := fun j hj => (B3 j (by omega)).trans (A3 j hj)
    have B0 : Ar T T6 e := fun j hj => (B2 j (by omega)).trans (A2 j hj)
    have hlen : stL.getD o 0 = (wL o).length := by rcases ho with ⟨-, rfl⟩ | ⟨-, rfl⟩ <;> rfl
    have hP0e := hPe 0 (Nat.zero_le _)
    rw [nI_1, nI_1]
    refine ih _ _ _ _ ⟨dQ d1 q m K w kd, T6, fun p => if p ≤ q then E p else e4 + 1, q + 1, e4 + 1, hq1, rfl, rfl, rfl, ⟨W201.1.trans (W190.1.trans r187), fun c k h1 h2 h3 => (WW c k h1).trans (fAll c k h1 h2 h3)⟩, ?_, X6, ?_, by omega, fun k => ((dQ_0 k).trans (hDA.1 0 k (by decide) (by decide))).trans (hd0 k), Vq.close hVq hDA ⟨hm1, hm5⟩ hK hw hkd, Vb.close hDA hV2⟩
    · refine IlQ.close (fun p hp => by rw [hDA.one]; exact (hVq p hp).1.2) I2 hm5 (fun k hk' => (WW _ _ (by omega)).trans (hii k hk')) g16 ((WW _ _ (by omega)).trans K187) g19
    · refine Tq.close (o := o) (P := P) (R := R) (e2 := e2) (e3 := e3) hTq hVq hDA B0 ho (wd.cg B2 (by omega)) (hPls.cg2 B2 hPe rfl fun _ _ => ⟨rfl, rfl⟩) hP0 hPm hPe l3 l1 ?_ h32 h5 hNm h59
      rcases hR with c | ⟨c1, c2, c3, c4, c5, c6⟩
      · exact Or.inl c
      · have hl := kys_le c5 m 0 (by omega)
        exact Or.inr ⟨c1, by rw [B3 _ (by omega)]; exact c2, c3.cg B3 (by rw [show stL.getD 4 0 = 3 from rfl]; omega), c4, c5.cg B3 (by omega) (fun _ _ => rfl), c6⟩
  · obtain ⟨d, T, E, q, e, hqi, rfl, rfl, rfl, hz⟩ := hI
    rw [if_pos (nI_le (Nat.le_refl _) (by omega))]
    exact hk d T E q e τ (by omega) hz
end QUESTIONS
