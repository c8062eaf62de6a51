/-! 52: the law draws a form: its head. -/
section HEADING
variable {rr ii ct : Nat} {τ : SS}
def dH (U V A B : Nat) (r k : Nat) : Nat := if r = 0 then (if k = 0 then U else if k = 1 then V else if k = 2 then A else B) else 0
set_option maxHeartbeats 4000000 in
theorem heading_d {c2 c12 c7 c8 c9 c10 U V : Nat} {k670 : Int32 → Int32 → SS → Option (Bool × SS)} {Z : Bool × SS → Prop} (hvr : lav τ rr = true) (hlr : gR τ rr 0 = 1) (hvi : lav τ ii = true) (hli : gR τ ii 0 = 300) (hvt : lav τ ct = true) (hlt : gR τ ct 0 = 600) (hir : ii ≠ rr) (hcr : ct ≠ rr) (hci : ct ≠ ii)
    (h2 : Wc7 c2 (wL 0) τ) (h12 : Wc7 c12 (59 :: wL 1) τ) (h7 : Wc7 c7 (wL 3) τ) (h8 : Wc7 c8 (wL 2) τ) (h9 : Wc7 c9 (32 :: wL 4) τ) (h10 : Wc7 c10 (32 :: wL 5) τ) (n2 : c2 ≠ ct ∧ c2 ≠ ii ∧ c2 ≠ rr) (n12 : c12 ≠ ct ∧ c12 ≠ ii ∧ c12 ≠ rr) (n7 : c7 ≠ ct ∧ c7 ≠ ii ∧ c7 ≠ rr) (n8 : c8 ≠ ct ∧ c8 ≠ ii ∧ c8 ≠ rr) (n9 : c9 ≠ ct ∧ c9 ≠ ii ∧ c9 ≠ rr) (n10 : c10 ≠ ct ∧ c10 ≠ ii ∧ c10 ≠ rr)
    (hU : 14 ≤ U ∧ U ≤ 33) (hV : 14 ≤ V ∧ V ≤ 33)
    (hk : ∀ d T E q e σ, q ≤ 5 → (gR σ = gR τ ∧ ∀ c k, c ≠ ct → c ≠ ii → ¬ (c = rr ∧ k = 0) → gI σ c k = gI τ c k) → IlQ ii d q σ → Tx ct σ T e → Tq d T E q e → e ≤ 21 + 63 * q → d 0 0 = U → d 0 1 = V → (1 ≤ d 0 2 ∧ d 0 2 ≤ 3) → (1 ≤ d 0 3 ∧ d 0 3 ≤ 3) → Vq d q → Vb d (psum (d 1) q) → WP (k670 (nI e) (nI q) σ) Z) :
    WP (bnd (fL_next τ rr) fun v65 σ68 =>
      grd (lin σ68 ii (1 : Int32)) <|
      vthen (sI σ68 ii 1 ((1 : Int32) + (irm v65 (3 : Int32)))) fun σ70 =>
      bnd (fL_next σ70 rr) fun v71 σ74 =>
      grd (lin σ74 ii (2 : Int32)) <|
      vthen (sI σ74 ii 2 ((1 : Int32) + (irm v71 (3 : Int32)))) fun σ76 =>
      bnd (fL_put σ76 ct (0 : Int32) c2) fun v77 σ80 =>
      bnd (fL_number σ80 ct v77 (nI U)) fun v81 σ84 =>
      bnd (fL_number σ84 ct v81 (nI V)) fun v85 σ88 =>
      bnd (fL_put σ88 ct v85 c12) fun v89 σ92 =>
      grd (lin σ92 ii (1 : Int32)) <|
      bnd (fL_number σ92 ct v89 (gI σ92 ii 1)) fun v94 σ97 =>
      grd (lin σ97 ii (2 : Int32)) <|
      bnd (fL_number σ97 ct v94 (gI σ97 ii 2)) fun v99 σ102 =>
      grd (lin σ102 ct v99) <|
      vthen (sI σ102 ct (Int32.toNatClampNeg v99) (59 : Int32)) fun σ104 =>
      bnd (fL_next σ104 rr) fun v105 σ108 =>
      vthen ((1 : Int32) + (irm v105 (5 : Int32))) fun v109 =>
      L_draws_L261 ii rr (nI U) (nI V) c7 c8 c9 c10 ct v109 k670 fuel (v99 + (1 : Int32)) (0 : Int32) (0 : Int32) σ108) Z := by
  have li : ∀ {t : SS} {k : Nat}, gR t = gR τ → k < 300 → lin t ii (nI k) = true := fun {t k} h hk => lin_of (n := 300) (by unfold lav at *; rw [h]; exact hvi) (by rw [h]; exact hli) hk (by decide)
  have vt : ∀ {t : SS}, gR t = gR τ → lav t ct = true := fun {t} h => by unfold lav at *; rw [h]; exact hvt
  have lct : ∀ {t : SS}, gR t = gR τ → gR t ct 0 = 600 := fun {t} h => by rw [h]; exact hlt
  have vr : ∀ {t : SS}, gR t = gR τ → lav t rr = true := fun {t} h => by unfold lav at *; rw [h]; exact hvr
  have lr : ∀ {t : SS}, gR t = gR τ → gR t rr 0 = 1 := fun {t} h => by rw [h]; exact hlr
  refine wp_bndp (next_s (σ := τ) (c := rr) hvr hlr) fun v65 σ68 ⟨⟨n1, hn1, en1⟩, k68⟩ => ?_
  have en1 : v65 = nI n1 := en1
  have k68 : Kn rr τ σ68 := k68
  have r68 : gR σ68 = gR τ := k68.1
  rw [en1, show (3 : Int32) = nI 3 from rfl, nx_at (n := n1) (k := 3) (by omega) (by omega)]
  have hA := Nat.mod_lt n1 (show 0 < 3 by decide)
  generalize eA : 1 + n1 % 3 = A
  refine wp_grd (li (k := 1) r68 (by decide)) (wp_v ?_)
  have r70 : gR (sI σ68 ii 1 (nI A)) = gR τ := r68
  have a70 : gI (sI σ68 ii 1 (nI A)) ii 1 = nI A := gI_eq _ _ _ _
  have o70 : ∀ c k, c ≠ ii → gI (sI σ68 ii 1 (nI A)) c k = gI σ68 c k := fun c k h => by rw [gI_ne h]
  generalize sI σ68 ii 1 (nI A) = σ70 at r70 a70 o70
  refine wp_bndp (next_s (σ := σ70) (c := rr) (vr r70) (lr r70)) fun v71 σ74 ⟨⟨n2', hn2, en2⟩, k74⟩ => ?_
  have en2 : v71 = nI n2' := en2
  have k74 : Kn rr σ70 σ74 := k74
  have r74 : gR σ74 = gR τ := k74.1.trans r70
  rw [en2, nx_at (n := n2') (k := 3) (by omega) (by omega)]
  have hB := Nat.mod_lt n2' (show 0 < 3 by decide)
  generalize eB : 1 + n2' % 3 = B
  refine wp_grd (li (k := 2) r74 (by decide)) (wp_v ?_)
  have r76 : gR (sI σ74 ii 2 (nI B)) = gR τ := r74
  have a76 : gI (sI σ74 ii 2 (nI B)) ii 1 = nI A := by rw [gI_nk (by omega), k74.2 _ _ (by omega)]; exact a70
  have b76 : gI (sI σ74 ii 2 (nI B)) ii 2 = nI B := gI_eq _ _ _ _
  have o76 : ∀ c k, c ≠ ii → ¬ (c = rr ∧ k = 0) → gI (sI σ74 ii 2 (nI B)) c k = gI τ c k := fun c k h h' => by rw [gI_ne h, k74.2 _ _ h', o70 _ _ h, k68.2 _ _ h']
  generalize sI σ74 ii 2 (nI B) = σ76 at r76 a76 b76 o76
  have wf : ∀ {c : Nat} {L : List Nat} {t : SS}, Wc7 c L τ → (c ≠ ct ∧ c ≠ ii ∧ c ≠ rr) → Wr ct 0 σ76 t → Wc7 c L t := fun {c L t} h hn hw => h.fr (hw.1.trans r76) fun k => by rw [hw.2 _ _ (by omega)]; exact o76 _ _ hn.2.1 (by omega)
  refine wp_bndp (putw_s (L := wL 0) (T := fun _ => 0) (e := 0) (vt r76) (lct r76) (wf h2 n2 (Wr.rf _ _ _)) n2.1 (by decide) (fun j hj => absurd hj (Nat.not_lt_zero _))) fun v77 σ80 ⟨e77, W1, T1, _, X1, s1⟩ => ?_
  have e77 : v77 = nI 4 := e77
  have W1 : Wr ct 0 σ76 σ80 := W1
  have X1 : Tx ct σ80 T1 4 := X1
  have w1 : Wd T1 0 0 := fun k hk' => s1 k hk'
  rw [e77]
  refine wp_bndp (number_s (vt (W1.1.trans r76)) (lct (W1.1.trans r76)) (by decide) (by omega) X1) fun v81 σ84 ⟨j1, e81, l1, l1', W2, T2, A2, X2, N2⟩ => ?_
  have e81 : v81 = nI j1 := e81
  have W2 : Wr ct 0 σ76 σ84 := W1.tr (Wr.le W2 (by omega))
  have X2 : Tx ct σ84 T2 j1 := X2
  rw [e81]
  refine wp_bndp (number_s (vt (W2.1.trans r76)) (lct (W2.1.trans r76)) (by omega) (by omega) X2) fun v85 σ88 ⟨j2, e85, l2, l2', W3, T3, A3, X3, N3⟩ => ?_
  have e85 : v85 = nI j2 := e85
  have W3 : Wr ct 0 σ76 σ88 := W2.tr (Wr.le W3 (by omega))
  have X3 : Tx ct σ88 T3 j2 := X3
  rw [e85]
  refine wp_bndp (putw_s (L := 59 :: wL 1) (vt (W3.1.trans r76)) (lct (W3.1.trans r76)) (wf h12 n12 W3) n12.1 (by omega) X3) fun v89 σ92 ⟨e89, W4, T4, A4, X4, s4⟩ => ?_
  have e89 : v89 = nI (j2 + 4) := e89
  have W4 : Wr ct 0 σ76 σ92 := W3.tr (Wr.le W4 (by omega))
  have X4 : Tx ct σ92 T4 (j2 + 4) := X4
  have s4 : ∀ k, k < 4 → T4 (j2 + k) = (59 :: wL 1).getD k 0 := s4
  rw [e89, W4.2 _ _ (by omega), a76]
  refine wp_grd (li (k := 1) (W4.1.trans r76) (by decide)) ?_
  refine wp_bndp (number_s (vt (W4.1.trans r76)) (lct (W4.1.trans r76)) (by omega) (by omega) X4) fun v94 σ97 ⟨j3, e94, l3, l3', W5, T5, A5, X5, N5⟩ => ?_
  have e94 : v94 = nI j3 := e94
  have W5 : Wr ct 0 σ76 σ97 := W4.tr (Wr.le W5 (by omega))
  have X5 : Tx ct σ97 T5 j3 := X5
  rw [e94, W5.2 _ _ (by omega), b76]
  refine wp_grd (li (k := 2) (W5.1.trans r76) (by decide)) ?_
  refine wp_bndp (number_s (vt (W5.1.trans r76)) (lct (W5.1.trans r76)) (by omega) (by omega) X5) fun v99 σ102 ⟨j4, e99, l4, l4', W6, T6, A6, X6, N6⟩ => ?_
  have e99 : v99 = nI j4 := e99
  have W6 : Wr ct 0 σ76 σ102 := W5.tr (Wr.le W6 (by omega))
  have X6 : Tx ct σ102 T6 j4 := X6
  rw [e99, nI_clamp (show j4 < 2 ^ 31 by omega), nI_1]
  refine wp_grd (lin_of (n := 600) (vt (W6.1.trans r76)) (lct (W6.1.trans r76)) (by omega) (by decide)) (wp_v ?_)
  obtain ⟨W7, T7, A7, X7, s7⟩ := sign_s (c := 59) (by decide) X6
  have W7 : Wr ct 0 σ76 (sI σ102 ct j4 (59 : Int32)) := W6.tr (Wr.le W7 (by omega))
  have X7 : Tx ct (sI σ102 ct j4 (59 : Int32)) T7 (j4 + 1) := X7
  generalize sI σ102 ct j4 (59 : Int32) = σ104 at W7 X7
  have r104 : gR σ104 = gR τ := W7.1.trans r76
  refine wp_bndp (next_s (σ := σ104) (c := rr) (vr r104) (lr r104)) fun v105 σ108 ⟨⟨n3, hn3, en3⟩, k108⟩ => ?_
  have en3 : v105 = nI n3 := en3
  have k108 : Kn rr σ104 σ108 := k108
  have r108 : gR σ108 = gR τ := k108.1.trans r104
  rw [en3, show (5 : Int32) = nI 5 from rfl, nx_at (n := n3) (k := 5) (by omega) (by omega)]
  have hnq := Nat.mod_lt n3 (show 0 < 5 by decide)
  generalize n3 % 5 = nq' at hnq
  refine wp_v ?_
  have o108 : ∀ c k, c ≠ ct → c ≠ ii → ¬ (c = rr ∧ k = 0) → gI σ108 c k = gI τ c k := fun c k h1 h2 h3 => by rw [k108.2 _ _ h3, W7.2 _ _ (by omega)]; exact o76 _ _ h2 h3
  have w108 : ∀ {c : Nat} {L : List Nat}, Wc7 c L τ → (c ≠ ct ∧ c ≠ ii ∧ c ≠ rr) → Wc7 c L σ108 := fun {c L} h hn => h.fr r108 fun k => o108 _ _ hn.1 hn.2.1 (by omega)
  have C67 : Ar T6 T7 j4 := A7
  have C57 : Ar T5 T7 j3 := fun j hj => (A7 j (by omega)).trans (A6 j hj)
  have C47 : Ar T4 T7 (j2 + 4) := fun j hj => (C57 j (by omega)).trans (A5 j hj)
  have C37 : Ar T3 T7 j2 := fun j hj => (C47 j (by omega)).trans (A4 j hj)
  have C27 : Ar T2 T7 j1 := fun j hj => (C37 j (by omega)).trans (A3 j hj)
  have C17 : Ar T1 T7 4 := fun j hj => (C27 j (by omega)).trans (A2 j hj)
  have hHd : Hd T7 (dH U V A B) (j4 + 1) := by
    refine ⟨j1, j2, j3, j4, w1.cg C17 (by decide), N2.cg C27 (Nat.le_refl _), N3.cg C37 (Nat.le_refl _), by rw [C47 _ (by omega)]; exact s4 0 (by decide), fun k hk' => ?_, N5.cg C57 (Nat.le_refl _), N6.cg C67 (Nat.le_refl _), s7, rfl⟩
    have hk3 : k < 3 := hk'
    rw [C47 _ (by omega), show j2 + 1 + k = j2 + (k + 1) by omega, s4 (k + 1) (by omega)]
    rfl
  refine quests_d (τ0 := σ108) (d0 := dH U V A B) (T0 := T7) (E0 := fun _ => j4 + 1) (nq := 1 + nq') (vr r108) (lr r108) (by unfold lav at *; rw [r108]; exact hvi) (by rw [r108]; exact hli) (vt r108) (lct r108) hir hcr hci (by omega) (w108 h7 n7) (w108 h8 n8) (w108 h9 n9) (w108 h10 n10) n7 n8 n9 n10 hU hV (by show 1 ≤ A ∧ A ≤ 3; omega) (by show 1 ≤ B ∧ B ≤ 3; omega) ⟨⟨rfl, fun _ _ _ _ _ => rfl⟩, ⟨⟨?_, ?_⟩, fun p hp => absurd hp (Nat.not_lt_zero _)⟩, X7.kn fun k => k108.2 _ _ (by omega), ⟨hHd, fun p hp => absurd hp (Nat.not_lt_zero _), rfl, fun p hp => Nat.le_refl _⟩, by omega, fun _ => rfl, fun p hp => absurd hp (Nat.not_lt_zero _), ⟨fun k hk' => absurd hk' (Nat.not_lt_zero _), fun k k' _ hk' => absurd hk' (Nat.not_lt_zero _)⟩⟩ fun d T E q e σ hq hI => ?_
  · rw [k108.2 _ _ (by omega), W7.2 _ _ (by omega)]; exact a76
  · rw [k108.2 _ _ (by omega), W7.2 _ _ (by omega)]; exact b76
  · obtain ⟨⟨i1, i2⟩, i3, i4, i5, i6, i7, i8, i9⟩ := hI
    exact hk d T E q e σ hq ⟨i1.trans r108, fun c k h1 h2 h3 => (i2 c k h1 h2 h3).trans (o108 c k h1 h2 h3)⟩ i3 i4 i5 i6 (i7 0) (i7 1) (by rw [i7 2]; show 1 ≤ A ∧ A ≤ 3; omega) (by rw [i7 3]; show 1 ≤ B ∧ B ≤ 3; omega) i8 i9
end HEADING
