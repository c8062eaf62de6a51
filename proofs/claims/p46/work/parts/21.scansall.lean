/-! 21: the law's scans, whole. -/
theorem wp_vk3 {A B C R : Type} {P : R → Prop} {j : A → B → C → Option R} {f : (A → B → C → Option R) → Option R} (K : A → B → C → Prop) (hj : ∀ a b c, K a b c → WP (j a b c) P) (hf : ∀ j' : A → B → C → Option R, (∀ a b c, K a b c → WP (j' a b c) P) → WP (f j') P) : WP (vthen j f) P := hf j hj
def Sgg (rr : Nat) (σ τ : SS) (s W H : Nat) (F : Nat → Nat → Int32) : Prop := Sf rr σ τ ∧ (sO τ = s ∧ gR τ 1 3 = 9 - s) ∧ Pc W H F τ ∧ Dw (wO σ) (hO σ) (fP σ) τ
section SCANS
variable {rr : Nat} {σ τ τ' : SS} {s W H : Nat} {F : Nat → Nat → Int32}
theorem Sgg.ag (h : Sgg rr σ τ s W H F) (hs : s = 3 ∨ s = 6) (ha : Ag τ τ') : Sgg rr σ τ' s W H F := by
  obtain ⟨h1, ⟨h2, h3⟩, h4, h5⟩ := h
  have e : sO τ' = sO τ := by unfold sO; rw [ha.1]
  exact ⟨h1.tr ha.kf.sf, ⟨e.trans h2, by rw [ha.1]; exact h3⟩, h4.fr e (fun k => ha.2 _ _ (by unfold Sk; omega)) (fun k => ha.2 _ _ (by unfold Sk; omega)), h5.fr (fun k => ha.2 _ _ (by unfold Sk; omega)) (fun k => ha.2 _ _ (by unfold Sk; omega))⟩
theorem Sgg.kn (h : Sgg rr σ τ s W H F) (hs : s = 3 ∨ s = 6) (hr : 2000 ≤ rr) (ha : Kn rr τ τ') : Sgg rr σ τ' s W H F := by
  obtain ⟨h1, ⟨h2, h3⟩, h4, h5⟩ := h
  have e : sO τ' = sO τ := by unfold sO; rw [ha.1]
  exact ⟨h1.tr ha.sf, ⟨e.trans h2, by rw [ha.1]; exact h3⟩, h4.fr e (fun k => ha.2 _ _ (by omega)) (fun k => ha.2 _ _ (by omega)), h5.fr (fun k => ha.2 _ _ (by omega)) (fun k => ha.2 _ _ (by omega))⟩
theorem Sgg.ku (h : Sgg rr σ τ s W H F) (hs : s = 3 ∨ s = 6) (h1' : gR τ' = gR τ) (ha : Ku s (9 - s) τ τ') : Sgg rr σ τ' s W H F := by
  obtain ⟨h1, ⟨h2, h3⟩, h4, h5⟩ := h
  have e : sO τ' = sO τ := by unfold sO; rw [h1']
  unfold Ku at ha
  refine ⟨h1.tr ⟨fun c k _ _ _ => by rw [h1'], fun c k h1 h2 h3 _ _ _ => ha c k (by unfold Sk at h2; omega), by rw [h1']; exact Nat.le_refl _⟩, ⟨e.trans h2, by rw [h1']; exact h3⟩, h4.fr e (fun k => ha _ _ (by omega)) (fun k => ha _ _ (by omega)), h5.fr (fun k => ha _ _ (by omega)) (fun k => ha _ _ (by omega))⟩
theorem Sgg.turn (h : Sgg rr σ τ s W H F) (hs : s = 3 ∨ s = 6) (hW : 8 ≤ W ∧ W ≤ 40) (hH : 8 ≤ H ∧ H ≤ 40) {k : Nat} (hk : k < 4) : WP (fX7_turn τ (nI k)) (fun r => r.1 = nI (tW W H k) ∧ Sgg rr σ r.2 (9 - s) (tW W H k) (tW H W k) (tG F W H k) ∧ (∀ c k, ¬ (c = 1 ∧ (k = 2 ∨ k = 3)) → gR r.2 c k = gR τ c k) ∧ ∀ c k, ¬ (3 ≤ c ∧ c ≤ 8) → gI r.2 c k = gI τ c k) := by
  obtain ⟨h1, ⟨h2, h3⟩, h4, h5⟩ := h
  refine wp_imp (turn_s (by rw [h2]; exact hs) (by rw [h2]; exact h3) h4 hW hH hk) ?_
  rintro ⟨v, r⟩ ⟨a1, a2, a3, a4, a5, a6⟩
  refine ⟨a1, ⟨h1.tr ⟨fun c k h1 h2 h3 => a5 c k h3, fun c k _ _ h3 _ _ _ => a6 c k h3, ?_⟩, ⟨a3.trans (by rw [h2]), a4.trans (by rw [h2]; omega)⟩, a2, h5.fr (fun k => a6 _ _ (by omega)) (fun k => a6 _ _ (by omega))⟩, a5, a6⟩
  dsimp only
  rw [a5 0 0 (by omega)]; exact Nat.le_refl _
theorem was_s {c17 : Nat} {k70 : SS → Option (Bool × SS)} {Q : Bool × SS → Prop} (hs : sO τ = 3 ∨ sO τ = 6) (hP : Pc W H F τ) (hW : 8 ≤ W ∧ W ≤ 40) (hH : 8 ≤ H ∧ H ≤ 40) (hv : lav τ c17 = true) (hl : gR τ c17 0 = W * H)
    (hk : ∀ τ', gR τ' = gR τ → (∀ c k, c ≠ c17 → gI τ' c k = gI τ c k) → (∀ j, j < W * H → gI τ' c17 j = F (j % W) (j / W)) → WP (k70 τ') Q) : WP (L_scans_L38 (nI W) (nI H) c17 k70 fuel (0 : Int32) τ) Q := by
  have ha := area_le hW.2 hH.2
  have hc : 2000 ≤ c17 := (of_decide_eq_true hv).1
  unfold L_scans_L38
  refine wf_2 (W * H) (fun i v t => v = nI i ∧ gR t = gR τ ∧ (∀ c k, c ≠ c17 → gI t c k = gI τ c k) ∧ ∀ j, j < i → gI t c17 j = F (j % W) (j / W)) ⟨rfl, rfl, fun _ _ _ => rfl, fun j hj => absurd hj (Nat.not_lt_zero _)⟩ (by omega) (fun i v t rec hi hI ih => ?_) (fun v t rec hI => ?_)
  · obtain ⟨rfl, h1, h2, h3⟩ := hI
    have e : sO t = sO τ := by unfold sO; rw [h1]
    have hPt : Pc W H F t := hP.fr e (fun k => h2 _ _ (by omega)) (fun k => h2 _ _ (by omega))
    have hlt : lav t c17 = true := by unfold lav at *; rw [h1]; exact hv
    rw [nI_mul, if_neg (nI_ge hi (by omega))]
    refine wp_grd (nz_nI (by omega) (by omega)) ?_
    rw [rem_nI (by omega) (by omega) (by omega), pk_div (by omega) (by omega) (by omega), bnd1_of _ (dot_s hPt hW.2 hH.2 (Nat.mod_lt _ (by omega)) (Nat.div_lt_of_lt_mul hi))]
    refine wp_grd (lin_of hlt (by rw [h1]; exact hl) hi (by omega)) ?_
    rw [nI_clamp (by omega)]
    refine wp_v (ih _ _ ⟨nI_1 i, h1, fun c k hc => by rw [gI_ne hc]; exact h2 c k hc, fun j hj => ?_⟩)
    by_cases q : j = i
    · subst q; rw [gI_eq]
    · rw [gI_nk (by omega)]; exact h3 j (by omega)
  · obtain ⟨rfl, h1, h2, h3⟩ := hI
    rw [nI_mul, if_pos (nI_le (Nat.le_refl _) (by omega))]
    exact hk t h1 h2 h3
theorem same_s {c17 : Nat} {k170 : Int32 → Option (Bool × SS)} {Q : Bool × SS → Prop} (hP : Pc W H F τ) (hW : 8 ≤ W ∧ W ≤ 40) (hH : 8 ≤ H ∧ H ≤ 40) (hv : lav τ c17 = true) (hl : gR τ c17 0 = W * H)
    (hw : ∀ j, j < W * H → gI τ c17 j = F (j % W) (j / W)) (hk : WP (k170 (1 : Int32)) Q) : WP (L_scans_L125 τ (nI W) (nI H) c17 k170 fuel (1 : Int32) (0 : Int32)) Q := by
  have ha := area_le hW.2 hH.2
  unfold L_scans_L125
  refine wf_2 (W * H) (fun i a v => a = (1 : Int32) ∧ v = nI i) ⟨rfl, rfl⟩ (by omega) (fun i a v rec hi hI ih => ?_) (fun a v rec hI => ?_)
  · obtain ⟨rfl, rfl⟩ := hI
    rw [nI_mul, if_neg (nI_ge hi (by omega))]
    refine wp_vk1 (fun _ => False) (fun a q => q.elim) (fun j162 hj => ?_)
    rw [if_neg (by decide)]
    refine wp_grd (nz_nI (by omega) (by omega)) ?_
    rw [rem_nI (by omega) (by omega) (by omega), pk_div (by omega) (by omega) (by omega), bnd1_of _ (dot_s hP hW.2 hH.2 (Nat.mod_lt _ (by omega)) (Nat.div_lt_of_lt_mul hi))]
    refine wp_grd (lin_of hv hl hi (by omega)) ?_
    rw [nI_clamp (by omega), if_pos (hw i hi).symm]
    exact ih _ _ ⟨rfl, nI_1 i⟩
  · obtain ⟨rfl, rfl⟩ := hI
    rw [nI_mul, if_pos (nI_le (Nat.le_refl _) (by omega))]
    exact hk
/-- at a stage the scan stands as another one under the same form -/
theorem Sgg.sd (h : Sgg rr σ τ s W H F) (hd : Sd σ) (hr : 2000 ≤ rr) (hs : s = 3 ∨ s = 6) (hW : 8 ≤ W ∧ W ≤ 40) (hH : 8 ≤ H ∧ H ≤ 40) (hF : ∀ x y, x < W → y < H → inR (F x y) 0 9) :
    Sd τ ∧ (Mkd τ ↔ mG σ W H F) ∧ qO τ = qO σ ∧ ∀ p an se ru st gn, JV τ p an se ru st gn ↔ jG σ W H F p an se ru st gn := by
  obtain ⟨h1, ⟨h2, h3⟩, h4, h5⟩ := h
  exact hd.turned (by rw [h2]; exact hs) (by rw [h2]; exact h3) (h1.1 _ _ (by decide) (by omega) (by omega)) (h1.1 _ _ (by decide) (by omega) (by omega)) h4 hW hH hF (fun c k hc => h1.2.1 c k (by omega) (by unfold Sk; omega) (by omega) (by omega) (by omega) (by omega))
theorem sheet0 (hd : Sd τ) {τ1 : SS} (h1 : Ag τ τ1) (hm : Mkd τ) (hq : qO τ = qO σ) (hJ : ∀ p an se ru st gn, JV τ p an se ru st gn ↔ jG σ W H F p an se ru st gn) : WP (fX7_sheet τ1 (0 : Int32)) (fun r => Ag τ1 r.2 ∧ gG σ W H F r.1) := by
  obtain ⟨r, er, r1, r2, r3⟩ := sheet_s hd h1 (what := 0) (by decide)
  obtain ⟨an, se, ru, st, gn, j, e⟩ := r3 hm
  refine ⟨r, er, ⟨by rw [r1.1, h1.1], fun c k hk => (r1.2 c k hk).trans (h1.2 c k hk).symm⟩, an, se, ru, st, gn, fun p hp => (hJ _ _ _ _ _ _).mp (j p (by rw [hq]; exact hp)), by rw [e, hq]⟩
theorem par_s {s i : Nat} (hs : s = 3 ∨ s = 6) : 9 - (if i % 2 = 0 then s else 9 - s) = if (i + 1) % 2 = 0 then s else 9 - s := by
  split <;> split <;> omega
theorem tW_next (a b i : Nat) : tW (tW a b i) (tW b a i) 1 = tW a b (i + 1) := by
  unfold tW
  rw [if_neg (show ¬ 1 % 2 = 0 by decide)]
  split <;> split <;> omega
theorem Sgg.next {i : Nat} (h : Sgg rr σ τ (9 - (if i % 2 = 0 then sO σ else 9 - sO σ)) (tW (tW (wO σ) (hO σ) i) (tW (hO σ) (wO σ) i) 1) (tW (tW (hO σ) (wO σ) i) (tW (wO σ) (hO σ) i) 1) (tG (tG (fP σ) (wO σ) (hO σ) i) (tW (wO σ) (hO σ) i) (tW (hO σ) (wO σ) i) 1)) (hs : sO σ = 3 ∨ sO σ = 6) (hi : i < 4) :
    Sgg rr σ τ (if (i + 1) % 2 = 0 then sO σ else 9 - sO σ) (tW (wO σ) (hO σ) (i + 1)) (tW (hO σ) (wO σ) (i + 1)) (tG (fP σ) (wO σ) (hO σ) (i + 1)) := by
  rw [par_s hs, tW_next, tW_next] at h
  obtain ⟨b1, b2, b3, b4⟩ := h
  exact ⟨b1, b2, b3.congr fun x y hx hy => tG_s hi hx hy, b4⟩
theorem first_s {k232 : Int32 → SS → Option (Bool × SS)} {Q : Bool × SS → Prop} (hd : Sd σ) (hr : 2000 ≤ rr) (hg : Sgg rr σ τ (sO σ) (wO σ) (hO σ) (fP σ))
    (hk : ∀ v8 v9 τ', UV (mK7 σ) (GG7 σ) 4 v8 v9 → Sgg rr σ τ' (sO σ) (wO σ) (hO σ) (fP σ) → WP (k232 v8 τ') Q) : WP (L_scans_L180 k232 fuel (-2 : Int32) (0 : Int32) (0 : Int32) τ) Q := by
  have hs := hd.s
  have hw := hd.w
  have g0 : tG (fP σ) (wO σ) (hO σ) 0 = fP σ := by funext x y; rfl
  have g4 : tG (fP σ) (wO σ) (hO σ) 4 = fP σ := by funext x y; rfl
  have w0 : ∀ a b, tW a b 0 = a := fun a b => if_pos rfl
  have w4 : ∀ a b, tW a b 4 = a := fun a b => if_pos rfl
  unfold L_scans_L180
  refine wf_4 4 (fun i v8 v9 v10 t => v10 = nI i ∧ UV (mK7 σ) (GG7 σ) i v8 v9 ∧ Sgg rr σ t (if i % 2 = 0 then sO σ else 9 - sO σ) (tW (wO σ) (hO σ) i) (tW (hO σ) (wO σ) i) (tG (fP σ) (wO σ) (hO σ) i)) ⟨rfl, ⟨rfl, rfl⟩, by rw [g0, w0, w0, if_pos (by decide)]; exact hg⟩ (by decide) (fun i v8 v9 v10 t rec hi hI ih => ?_) (fun v8 v9 v10 t rec hI => ?_)
  · obtain ⟨rfl, hu, ht⟩ := hI
    have a1 := tW_le (k := i) hw.1 hw.2
    have a2 := tW_le (k := i) hw.2 hw.1
    have hsi : (if i % 2 = 0 then sO σ else 9 - sO σ) = 3 ∨ (if i % 2 = 0 then sO σ else 9 - sO σ) = 6 := by split <;> omega
    have hrg : ∀ x y, x < tW (wO σ) (hO σ) i → y < tW (hO σ) (wO σ) i → inR (tG (fP σ) (wO σ) (hO σ) i x y) 0 9 := fun x y hx hy => tG_rng hd.pr hi hx hy
    obtain ⟨dt, mt, qt, jt⟩ := ht.sd hd hr hsi a1 a2 hrg
    rw [if_neg (c := (4 : Int32) ≤ nI i) (nI_ge hi (by decide))]
    refine wp_bndp (marked_s dt (Ag.rf t)) fun v38 σ41 ⟨h41, y38⟩ => ?_
    have s41 := ht.ag hsi h41
    refine wp_vk3 (fun a b t' => UV (mK7 σ) (GG7 σ) (i + 1) a b ∧ Sgg rr σ t' (if i % 2 = 0 then sO σ else 9 - sO σ) (tW (wO σ) (hO σ) i) (tW (hO σ) (wO σ) i) (tG (fP σ) (wO σ) (hO σ) i)) (fun a b t' q => ?_) (fun j220 hj2 => ?_)
    · rw [show (1 : Int32) = nI 1 from rfl]
      refine wp_bndp (q.2.turn hsi a1 a2 (k := 1) (by decide)) fun v45 σ48 ⟨_, h48, _, _⟩ => ?_
      refine ih _ _ _ _ ⟨nI_add i 1, q.1, ?_⟩
      exact h48.next hs hi
    · rcases y38 with ⟨hm, e38⟩ | ⟨hm, e38⟩
      · dsimp only at e38
        rw [e38, if_pos rfl]
        have hM : mK7 σ i := mt.mp hm
        refine wp_vk1 (fun t' => Ag t t' ∧ ∀ g, GG7 σ i g → ¬ (¬ v8 < 0 ∧ g ≤ v9)) (fun t' q => ?_) (fun j209 hj9 => ?_)
        · refine wp_bndp (sheet0 dt q.1 hm qt jt) fun v50 σ53 ⟨h53, g50⟩ => ?_
          exact hj2 _ _ _ ⟨⟨v8, v9, hu, Or.inl ⟨hM, v50, g50, Or.inr ⟨q.2 v50 g50, rfl, rfl⟩⟩⟩, ht.ag hsi (q.1.tr h53)⟩
        · by_cases c1 : v8 < 0
          · rw [if_pos c1]
            exact hj9 _ ⟨h41, fun g _ q => q.1 c1⟩
          · rw [if_neg c1]
            refine wp_bndp (sheet0 dt h41 hm qt jt) fun v54 σ57 ⟨h57, g54⟩ => ?_
            by_cases c2 : v54 ≤ v9
            · rw [if_pos c2]
              exact hj2 _ _ _ ⟨⟨v8, v9, hu, Or.inl ⟨hM, v54, g54, Or.inl ⟨c1, c2, rfl, rfl⟩⟩⟩, ht.ag hsi (h41.tr h57)⟩
            · rw [if_neg c2]
              exact hj9 _ ⟨h41.tr h57, fun g hg q => c2 (by rw [show v54 = g from gG_one g54 hg]; exact q.2)⟩
      · dsimp only at e38
        rw [e38, if_neg (by decide)]
        have hM : ¬ mK7 σ i := fun q => hm (mt.mpr q)
        exact hj2 _ _ _ ⟨⟨v8, v9, hu, Or.inr ⟨hM, rfl, rfl⟩⟩, s41⟩
  · obtain ⟨rfl, hu, ht⟩ := hI
    rw [g4, w4, w4, if_pos (by decide)] at ht
    rw [if_pos (c := (4 : Int32) ≤ nI 4) (nI_le (Nat.le_refl _) (by decide))]
    exact hk _ _ _ hu ht
end SCANS
