/-! Form kept: one question on both sides. -/
theorem places2' {T : Nat → Nat} {n g bb s : Nat} {a0 b0 a b : SS} {W H A B q : Nat} {N : Nat → Nat} {v : Int32} {γ : Type} {P : γ → Bool × SS → Prop} {k : Bool → SS → Option γ} {k149 : SS → Option (Bool × SS)} (hT : TT T n) (hg : 27 < g ∨ g + 7 < 26) (hb : bb < 2) (hR : RG W H A B) (hq : q < 12) (hv : v = nI (N q)) (h6 : N q = 0) (h : K2 T n s a b) (hF : Fm g bb a0 b0 W H A B (q + 1) q N a b) (ht : ∀ N a b s, K2 T n s a b → Fm g bb a0 b0 W H A B (q + 1) q N a b → 1 ≤ N q → W2 (k true a) (k149 b) P) (hn : ∀ a b, FlO (Om g bb a0 b0) a b → W2 (k false a) (some (false, b)) P) : W2 (bnd (X2_readPlaces_L2 g fuel v a) k) (bnd (fX8_readsPlace b (nI q)) fun b13 σ15 => if b13 = true then X8_readsQuestion_L118 (nI q) k149 fuel σ15 else some (false, σ15)) P := by
  subst hv
  exact places2 hT hg hb hR hq ht hn 6 N a b s fuel fuel (by omega) (fuel_gt (by omega)) (fuel_gt (by omega)) h hF
theorem qbody {T : Nat → Nat} {n g bb s : Nat} {a0 b0 a b : SS} {W H A B q : Nat} {N : Nat → Nat} {bb2 : Bool} {s5 : Int32} {γ : Type} {P : γ → Bool × SS → Prop} {kt kf : SS → Option γ} (hT : TT T n) (hg : 27 < g ∨ g + 7 < 26) (hb : bb < 2) (hR : RG W H A B) (hs : (bb2 = false ∧ s5 = 1) ∨ (bb2 = true ∧ s5 = 2)) (hq : q < 12) (h : K2 T n s a b) (hF : Fm g bb a0 b0 W H A B q q N a b) (ht : ∀ N a b s, K2 T n s a b → Fm g bb a0 b0 W H A B (q + 1) (q + 1) N a b → W2 (kt a) (some (true, b)) P) (hn : ∀ a b, FlO (Om g bb a0 b0) a b → W2 (kf a) (some (false, b)) P) : W2 (bnd1 (fX2_advance a) fun σ5 =>
        bnd1 (fX1_addQuestion σ5 g bb2) fun σ6 =>
        bnd (fX2_readPlaces σ6 g) fun b8 σ10 =>
        if b8 = true then (
          bnd (fX2_readKey σ10 g (nI q)) fun b12 σ14 =>
          if b12 = true then (
            bnd (fX2_readWorth σ14 g (nI q)) fun b16 σ18 =>
            if b16 = true then (
              bnd (fX2_takeSign σ18 (4 : Int32)) fun b20 σ22 =>
              if b20 = true then kt σ22 else kf σ22
              ) else kf σ18
            ) else kf σ14
          ) else kf σ10)
      (grd (inb (nI (12 * bb + q)) 24) <|
        vthen (sI b 76 (Int32.toNatClampNeg (nI (12 * bb + q))) s5) fun σ7 =>
        vthen (sI σ7 77 (Int32.toNatClampNeg (nI (12 * bb + q))) (0 : Int32)) fun σ8 =>
        vthen (sI σ8 78 (Int32.toNatClampNeg (nI (12 * bb + q))) (0 : Int32)) fun σ9 =>
        vthen (sI σ9 79 (Int32.toNatClampNeg (nI (12 * bb + q))) (1 : Int32)) fun σ10 =>
        bnd1 (fX8_next σ10) fun σ11 =>
        bnd (fX8_readsPlace σ11 (nI q)) fun b13 σ15 =>
        if b13 = true then (
          X8_readsQuestion_L118 (nI q)
          (fun σ21 =>
            vthen (fun  (σ22 : SS) =>
              vthen (fun  (σ23 : SS) =>
                grd (inb (((5 : Int32) * (gI σ23 73 11)) + (4 : Int32)) 10) <|
                vthen (sI σ23 75 (Int32.toNatClampNeg (((5 : Int32) * (gI σ23 73 11)) + (4 : Int32))) (nI q + (1 : Int32))) fun σ25 =>
                bnd (fX8_takesSign σ25 (59 : Int32)) fun b27 σ29 =>
                some (b27, σ29)
                ) fun j209 =>
              if (fX8_isWord σ22 (24627848 : Int64)) = true then (
                bnd1 (fX8_next σ22) fun σ30 =>
                bnd (fX8_isNumber σ30 (0 : Int32) (99 : Int32)) fun b32 σ34 =>
                if b32 = true then (
                  vthen (sI σ34 79 (Int32.toNatClampNeg (nI (12 * bb + q))) (gI σ34 73 7)) fun σ35 =>
                  bnd1 (fX8_next σ35) fun σ36 =>
                  j209 σ36
                  ) else (
                  some (false, σ34)
                  )
                ) else (
                j209 σ22
                )
              ) fun j169 =>
            if (fX8_isWord σ21 (11449 : Int64)) = true then (
              bnd (fX8_readsKey σ21 (nI (12 * bb + q))) fun b38 σ40 =>
              if b38 = true then (
                j169 σ40
                ) else (
                some (false, σ40)
                )
              ) else (
              j169 σ21
              )
            )
          fuel σ15
          ) else (
          some (false, σ15)
          )) P := by
  have hup : upN N q 0 q = 0 := if_pos rfl
  rw [nI_clamp (show 12 * bb + q < 2 ^ 31 by omega), nI_1]
  refine w2_gr (inb_nI (by omega) (by decide)) (w2_vr (w2_vr (w2_vr (w2_vr ?_))))
  have hS : Sb (fun x y => Fm g bb a0 b0 W H A B (q + 1) q (upN N q 0) (sI (sI (sI (sI (sI (sI x (g + 1) q (b2i bb2)) (g + 2) q (nI (psum N q))) (g + 3) q 0) (g + 4) q 0) (g + 5) q 1) g 5 (nI (q + 1))) y ∧ gI x g 5 = nI q ∧ gI x g 6 = nI (psum N q)) := fun x y x' y' z1 z2 z3 z4 z5 => ⟨Fm.sb hg _ y _ y' z1.1 z2 (fun c k hc => by rw [gI_sI, gI_sI, gI_sI, gI_sI, gI_sI, gI_sI, gI_sI, gI_sI, gI_sI, gI_sI, gI_sI, gI_sI, z3 c k hc]) z4 z5, by rw [z3 _ _ (by omega)]; exact z1.2.1, by rw [z3 _ _ (by omega)]; exact z1.2.2⟩
  refine w2_bnd1 (adv2 hT hS ((((h.rr (by omega)).rr (by omega)).rr (by omega)).rr (by omega)) ⟨hF.new hs hq, hF.2.2.1, hF.2.2.2.1⟩) fun a1 b1 hq1 => ?_
  obtain ⟨h1, ⟨f1, e5, e6⟩, -⟩ := hq1
  rw [bnd1_of _ (new7 (bb2 := bb2) hq e5 e6)]
  have h2 := ((((((h1.cl (c := g + 1) (k := q) (v := b2i bb2) (by omega)).cl (c := g + 2) (k := q) (v := nI (psum N q)) (by omega)).cl (c := g + 3) (k := q) (v := 0) (by omega)).cl (c := g + 4) (k := q) (v := 0) (by omega)).cl (c := g + 5) (k := q) (v := 1) (by omega)).cl (c := g) (k := 5) (v := nI (q + 1)) (by omega))
  unfold fX2_readPlaces
  refine places2' hT hg hb hR hq (by rw [hup]; rfl) hup h2 f1 (fun N2 a2 b2 s2 h2 f2 hN2 => ?_) (fun a2 b2 hFl => ?_)
  case refine_2 =>
    rw [if_neg (by decide)]
    exact hn a2 b2 hFl
  rw [if_pos rfl]
  try dsimp only
  refine w2_vr ?_
  refine key2 hT hg hb hq h2 f2 (fun a3 b3 s3 h3 f3 => ?_) (fun a3 b3 hFl => ?_)
  case refine_2 =>
    rw [if_neg (by decide)]
    exact hn a3 b3 hFl
  rw [if_pos rfl]
  refine w2_vr ?_
  refine worth2 hT hg hb hq h3 f3 (fun a4 b4 s4 h4 f4 => ?_) (fun a4 b4 hFl => ?_)
  case refine_2 =>
    rw [if_neg (by decide)]
    exact hn a4 b4 hFl
  rw [if_pos rfl]
  have e11 := f4.1.2.2.2
  have e54 : (5 : Int32) * gI b4 73 11 + 4 = nI (5 * bb + 4) := by rw [e11, show (5 : Int32) = nI 5 from rfl, nI_mul]; exact nI_add (5 * bb) 4
  rw [e54, nI_clamp (by omega)]
  refine w2_gr (inb_nI (by omega) (by decide)) (w2_vr ?_)
  refine tks hT (Fm.sb hg) (Om.sb hg) (fun a b h => h.1) (h4.rr (by omega)) (f4.close hq hN2) (fun a5 b5 s5 h5 f5 => ?_) (fun a5 b5 hFl => ?_)
  · rw [if_pos rfl]
    exact ht N2 a5 b5 s5 h5 f5
  · rw [if_neg (by decide)]
    exact hn a5 b5 hFl
