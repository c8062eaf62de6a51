/-! Apart kept. -/
theorem srt_down {D : Nat → Nat} {T : Nat} (hD : ∀ k, D k ≤ 324) : ∀ d j, j + d < T → D (srt (fun l => nI (D l)) T (j + d)) ≤ D (srt (fun l => nI (D l)) T j)
  | 0, j, _ => Nat.le_refl _
  | d + 1, j, h => by
    have ih := srt_down (T := T) hD d j (by omega)
    have s1 : nI (D (srt (fun l => nI (D l)) T (j + d + 1))) ≤ nI (D (srt (fun l => nI (D l)) T (j + d))) := srt_sorted (key := fun l => nI (D l)) T (j + d) (by omega)
    have h1 := hD (srt (fun l => nI (D l)) T (j + d + 1))
    have h2 := hD (srt (fun l => nI (D l)) T (j + d))
    rw [le_i, nI_toInt (by omega), nI_toInt (by omega)] at s1
    rw [show j + (d + 1) = j + d + 1 from rfl]
    omega
theorem ls_sum {HB AH : Nat → Prop} {O : Nat → Nat} {u : Nat} : ∀ T, (∀ k, k < T → (AH (O k) ↔ k < u)) → gs (fun _ => True) (dfW (fun k => HB (O k)) fun k => k < u) T = ls O (dfW HB AH) T
  | 0, _ => rfl
  | T + 1, h => by
    have ih := ls_sum (HB := HB) T fun k hk => h k (by omega)
    rw [gs_t trivial, ih]
    show _ = ls O (dfW HB AH) T + dfW HB AH (O T)
    have hT := h T (by omega)
    by_cases c : HB (O T) ↔ T < u
    · rw [dfW_y (HB := fun k => HB (O k)) c, dfW_y (c.trans hT.symm)]
    · rw [dfW_n (HB := fun k => HB (O k)) c, dfW_n fun q => c (q.trans hT)]
theorem op28 : ∀ a σ, Rel σ → st28 Rel a σ := by
  intro a σ ⟨s, f, h⟩
  obtain ⟨hs, hf, hR1, -, hR5, -⟩ := id h.1
  have z2 : (2 : Int32).toInt = 2 := rfl
  have z0 : (0 : Int32).toInt = 0 := rfl
  rcases h.2.2.2.2.2.2.2.1.told with ⟨t1, t2, t3, t4⟩ | ⟨t1, t2⟩
  · refine ⟨-1, σ, σ, ?_, ?_, s, f, h⟩
    · unfold fX7_apart; rw [hR5, t1, if_pos rfl]
    · unfold fX8_apart; rw [t2, if_pos rfl]
  obtain ⟨w, q, spk, b, U, V, A, B, Q, N, cx, cy, D, P, m, h8, e5, -, hF, hT, hDP, ⟨mb, r1, x1, m1, m2, hK1, m3, m4⟩, hfin⟩ := h.readQ t1
  obtain ⟨-, -, -, -, -, -, -, -, -, -, -, -, -, hQ, hHd, hN⟩ := id h8
  have e6 : gI σ f 6 = nI (psum N Q) := by
    obtain ⟨w', q', spk', b', U', V', A', B', Q', N', cx', cy', h7', h8', e5', -, hF'⟩ := h.ctx t1
    obtain ⟨-, -, -, -, -, -, -, -, -, -, -, -, -, hQ', -, hN'⟩ := id h8'
    have e : gI σ f 6 = nI (psum N' Q') := h7'.2.2.2.2.2.2.2.2.2.2.2.2.2.2.2.2.2.2.2.2.1
    have eQ : Q' = Q := nI_injN (by omega) (by omega) (e5'.symm.trans e5)
    subst eQ
    have eN : ∀ p, p < Q' → N' p = N p := fun p hp => nI_injN (by have := (hN' p hp).1.2; omega) (by have := (hN p hp).1.2; omega) ((hF' p hp).2.1.symm.trans (hF p hp).2)
    have ep : ∀ n, n ≤ Q' → psum N' n = psum N n := by
      intro n
      induction n with
      | zero => intro _; rfl
      | succ n ih => intro hn; show psum N' n + N' n = psum N n + N n; rw [ih (by omega), eN n (by omega)]
    rw [e, ep Q' (Nat.le_refl _)]
  by_cases hc : 0 ≤ (a 1).toInt ∧ (a 1).toInt ≤ 2
  · have c7 : fX7_apart σ (a 1) = if mb = true then (bnd (fX3_partedBy r1 f (a 1)) fun v5 σ8 => some (v5, σ8)) else some ((-2 : Int32), r1) := by
      unfold fX7_apart
      rw [hR5, hR1, t1, if_neg (by decide)]
      simp only [lt_i, le_i]
      rw [if_neg (by omega), if_pos (by omega), bnd_of _ x1, show gR r1 1 5 = f by rw [m2]; exact hR5]
    unfold st28
    rw [c7]
    by_cases hm : m
    · rw [if_pos (m1.mpr hm)]
      obtain ⟨d1, jq⟩ := m4 hm
      obtain ⟨O, hOd⟩ : ∃ O, O = srt (fun l => nI (D l)) (psum N Q) := ⟨_, rfl⟩
      have hO : ∀ k, k < psum N Q → O k < psum N Q := fun k hk => by rw [hOd]; exact srt_lt _ _ hk
      obtain ⟨d, s1, s2⟩ := sortd (σ := r1) (first := 0) (n := psum N Q) (by omega)
      have s52 : ∀ k, k < psum N Q → gI (sA r1 52 d) 52 k = nI (O k) := fun k hk => by
        rw [gI_A, s2 k hk, hOd]
        simp only [Nat.zero_add]
        exact congrArg nI (srt_congr _ (fun l hl => d1 l hl) k hk)
      have s51 : ∀ k, k < psum N Q → gI (sA r1 52 d) 51 k = nI (D k) := fun k hk => by rw [gI_A_ne (by omega)]; exact d1 k hk
      have frA : ∀ c k, c ≠ 52 → gI (sA r1 52 d) c k = gI r1 c k := fun c k hc => by rw [gI_A_ne hc]
      have hKs : Kj σ (sA r1 52 d) := fun c k hc => by rw [frA c k (by omega)]; exact hK1 c k hc
      have hRs : gR (sA r1 52 d) = gR r1 := rfl
      have e6r : gI r1 f 6 = nI (psum N Q) := by rw [hK1 f 6 (by omega)]; exact e6
      have e6s : gI (sA r1 52 d) f 6 = nI (psum N Q) := by rw [frA f 6 (by omega)]; exact e6r
      have e5s : gI (sA r1 52 d) f 5 = nI Q := by rw [frA f 5 (by omega), hK1 f 5 (by omega)]; exact e5
      have g7 : ∀ kk, X3_partedBy_L17 (sA r1 52 d) f kk fuel (0 : Int32) (0 : Int32) (0 : Int32) = kk (nI (gpW D O (psum N Q - 1)).1) (gpW D O (psum N Q - 1)).2 := fun kk => gap7 hT e6s s52 hO s51
      have hJs : Jd b Q N D P σ (sA r1 52 d) := fun p hp => by
        rw [frA 53 p (by omega), frA 54 p (by omega), frA 55 p (by omega), frA 56 p (by omega), frA 57 p (by omega)]; exact jq p hp
      have hgp := gpW_p (D := D) (O := O) hDP (psum N Q - 1)
      obtain ⟨u, hu⟩ : ∃ u, u = (gpW D O (psum N Q - 1)).1 := ⟨_, rfl⟩
      obtain ⟨g, hg⟩ : ∃ g, g = (gpW D O (psum N Q - 1)).2 := ⟨_, rfl⟩
      rw [← hu] at hgp
      rw [← hg] at hgp
      rw [← hu, ← hg] at g7
      have el7 := else7 (s := sA r1 52 d) (f := f) (u := u) hQ e5s hT (fun p hp => ⟨(hN p hp).1.2, by rw [frA (f + 2) p (by omega), hK1 (f + 2) p (by omega)]; exact (hF p hp).1, by rw [frA (f + 3) p (by omega), hK1 (f + 3) p (by omega)]; exact (hF p hp).2⟩) (by omega) s52 hO s51
      have hAh : ∀ k, k < psum N Q → (AhW D O u (O k) ↔ k < u) := fun k hk => by
        have dn : ∀ i j, i ≤ j → j < psum N Q → D (O j) ≤ D (O i) := fun i j hij hj => by
          have := srt_down (T := psum N Q) hDP (j - i) i (by omega)
          rw [show i + (j - i) = j by omega, ← hOd] at this
          exact this
        have k1 := hDP (O k)
        have k2 := hDP (O (u - 1))
        constructor
        · rintro ⟨u0, un⟩
          rcases hgp.2.2 with h0 | h0
          · omega
          · apply Classical.byContradiction
            intro hku
            have := dn u k (by omega) hk
            exact un (nI_lt (by omega) (by omega))
        · intro hku
          refine ⟨by omega, fun q => ?_⟩
          have := dn k (u - 1) (by omega) (by omega)
          have := nI_ltN q (by omega) (by omega)
          omega
      generalize hσ1 : sA r1 52 d = σ1 at *
      obtain ⟨⟨fb, r2⟩, x2, k1, k2, hK2, k3, k4⟩ := hfin σ1 hKs
      dsimp only at k1 k2 hK2 k3 k4
      have hG := k4 hm
      have hH2 : Hd b U V A B Q r2 := hHd.fr (fun k hk => hK2 73 k (by omega)) fun k => hK2 75 k (by omega)
      have t2' : gI σ1 73 12 = 1 := by rw [hKs 73 12 (by omega)]; exact t2
      have key : ∀ k, k < psum N Q → gI r2 106 (Ef N Q k) = nI (D k) ∧ Ef N Q k < 72 := fun k hk => by
        obtain ⟨p, i, h1, h2, rfl⟩ := psum_at Q k hk
        rw [Ef_at Q p i h1 h2]
        have := (hN p h1).1
        exact ⟨hG.2.1 p h1 i h2, by omega⟩
      have ref : ∃ v r3, fX8_apart σ1 (a 1) = some (v, r3) ∧ Rel r3 ∧ v = (if a 1 = 0 then g else if a 1 = 1 then nI u else nI (gs (fun _ => True) (dfW (HbW σ1 (Ef N Q)) (AhW D O u)) (psum N Q))) := by
        have hw : WP (X8_apart_L32 (fun v24 σ25 =>
          X8_apart_L153 σ25 v24
          (fun v32 v33 =>
            if (2 : Int32) ≤ a 1 then (
              X8_apart_L236 v24 v33
              fuel (0 : Int32) (0 : Int32) σ25
              ) else (
              if a 1 = 0 then (
                some (v32, σ25)
                ) else (
                some (v33, σ25)
                )
              )
            )
          fuel (0 : Int32) (0 : Int32) (0 : Int32)) fuel (0 : Int32) (0 : Int32) r2) (fun r => Rel r.2 ∧ r.1 = (if a 1 = 0 then g else if a 1 = 1 then nI u else nI (gs (fun _ => True) (dfW (HbW σ1 (Ef N Q)) (AhW D O u)) (psum N Q)))) := by
          refine sortE8 hH2 hQ hT (fun p hp => ⟨(hN p hp).1.2, by rw [hK2 77 _ (by omega)]; exact (hN p hp).2.1⟩) fun d8 hd8 => ?_
          have hd8' : ∀ k, k < psum N Q → gI (sA r2 108 d8) 108 k = nI (Ef N Q (O k)) := fun k hk => by
            rw [gI_A, hd8 k hk, hOd, srt_congr (psum N Q) (fun l hl => (key l hl).1) k hk]
          rw [gap8 (s := sA r2 108 d8) (D := D) (O := O) (E := Ef N Q) hT hd8' hO (fun k hk => (key k hk).2) (fun k hk => by rw [gI_A_ne (by omega)]; exact (key k hk).1), ← hu, ← hg]
          have hG' : G8 Q N D P σ (sA r2 108 d8) := ⟨fun c k hc => by rw [gI_A_ne (by omega)]; exact hG.1 c k hc, fun p hp i hi => by rw [gI_A_ne (by omega)]; exact hG.2.1 p hp i hi, fun h => by rw [gI_A_ne (by omega)]; exact hG.2.2 h⟩
          have hRel : Rel (sA r2 108 d8) := Rel.kj h (show gR r2 = gR σ from k2.trans (hRs.trans m2)) hG'.1
          by_cases c2 : a 1 = 2
          · rw [c2, if_pos (by decide), if_neg (by decide), if_neg (by decide)]
            refine wp_imp (else8 h8 hJs hG' hT (by omega) hO hd8') ?_
            rintro ⟨v, r⟩ ⟨y1, y2, y3⟩
            dsimp only at y1 y2 y3 ⊢
            refine ⟨Rel.kj h (y2.trans (show gR r2 = gR σ from k2.trans (hRs.trans m2))) y3, y1.trans (congrArg nI ?_)⟩
            rw [ls_sum (AH := AhW D O u) (HB := HbW σ1 (Ef N Q)) (psum N Q) hAh]
            rw [ls_gs (N := psum N Q) (psum N Q) (fun i j hi hj e => srt_inj (key := fun l => nI (D l)) (psum N Q) i j hi hj (by rw [← hOd]; exact e)) hO]
            exact gs_congr _ fun k hk => ⟨fun _ => trivial, fun _ => by obtain ⟨j, j1, j2⟩ := srt_sur (key := fun l => nI (D l)) hk; exact ⟨j, j1, by rw [hOd]; exact j2⟩⟩
          · have c2' : ¬ (2 : Int32) ≤ a 1 := fun q => c2 (Int32.toInt_inj.mp (by rw [le_i] at q; omega))
            rw [if_neg c2']
            by_cases c0 : a 1 = 0
            · rw [if_pos c0, if_pos c0]; exact wp_some ⟨hRel, rfl⟩
            · have c1 : a 1 = 1 := Int32.toInt_inj.mp (by
                have n0 : (a 1).toInt ≠ 0 := fun q => c0 (Int32.toInt_inj.mp q)
                have n2 : (a 1).toInt ≠ 2 := fun q => c2 (Int32.toInt_inj.mp q)
                show (a 1).toInt = 1
                omega)
              rw [if_neg c0, if_neg c0, if_pos c1]; exact wp_some ⟨hRel, rfl⟩
        obtain ⟨⟨v, r3⟩, q1, q2, q3⟩ := hw
        refine ⟨v, r3, ?_, q2, q3⟩
        unfold fX8_apart
        rw [t2', if_neg (by decide), if_pos (by rw [in_eq, le_i, le_i]; omega), bnd_of _ x2, if_pos (k1.mpr hm)]
        exact q1
      obtain ⟨v, r3, q1, q2, rfl⟩ := ref
      refine ⟨_, σ1, r3, ?_, q1, q2⟩
      unfold fX3_partedBy
      rw [e6r, show (0 : Int32) = nI 0 from rfl, bnd1_of _ s1]
      have g7' := g7
      rw [show (0 : Int32) = nI 0 from rfl] at g7'
      rw [g7']
      by_cases c0 : a 1 = nI 0
      · rw [if_pos c0, if_pos c0]; rfl
      · rw [if_neg c0, if_neg c0]
        by_cases c1 : a 1 = 1
        · rw [if_pos c1, if_pos c1]; rfl
        · rw [if_neg c1, if_neg c1, bnd1_of _ el7]; rfl
    · rw [if_neg fun e => hm (m1.mp e)]
      obtain ⟨⟨fb, r2⟩, x2, k1, k2, hK2, k3, k4⟩ := hfin r1 hK1
      dsimp only at k1 k2 hK2 k3 k4
      refine ⟨_, r1, r2, rfl, ?_, Rel.kj h (k2.trans m2) hK2⟩
      unfold fX8_apart
      rw [m3 73 12 (by omega), t2, if_neg (by decide), if_pos (by rw [in_eq, le_i, le_i]; omega), bnd_of _ x2, if_neg fun e => hm (k1.mp e)]
  · refine ⟨-1, σ, σ, ?_, ?_, s, f, h⟩
    · unfold fX7_apart
      rw [hR5, t1, if_neg (by decide)]
      simp only [lt_i, le_i]
      by_cases c2 : (a 1).toInt < (0 : Int32).toInt
      · rw [if_pos c2]
      · rw [if_neg c2, if_neg (by omega)]
    · unfold fX8_apart
      rw [t2, if_neg (by decide), if_neg (by rw [in_eq, le_i, le_i]; omega)]
