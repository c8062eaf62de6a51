/-! Form kept: the key of a question. -/
def isL (T : Nat → Nat) (n s : Nat) : Prop := kc T n s = 1 ∧ en T n s - s = 1 ∧ T s ≤ 102
theorem rk_s {g N : Nat} {u v : Int32} {σ : SS} : X2_readKey_L17 g u (N + 1) v σ =
    if (6 : Int32) < v then (
      some (true, σ)
      ) else (
      bnd1 (fX2_isLetter σ) fun b6 =>
      if b6 = true then (
        grd (inb (gI σ 26 2) 400) <|
        vthen ((gI σ 27 (Int32.toNatClampNeg (gI σ 26 2))) - (97 : Int32)) fun v9 =>
        grd (inb u 12) <|
        vthen (fun (_u : Unit) =>
          bnd (fX2_refuse σ (5 : Int32)) fun b12 σ14 =>
          some (b12, σ14)
          ) fun j88 =>
        if (gI σ (g + 3) (Int32.toNatClampNeg u)) ≤ v9 then (
          j88 ()
          ) else (
          if (((gI σ (g + 4) (Int32.toNatClampNeg u)) >>> (v9 &&& 31)) &&& (1 : Int32)) = (1 : Int32) then (
            j88 ()
            ) else (
            vthen (sI σ (g + 4) (Int32.toNatClampNeg u) ((gI σ (g + 4) (Int32.toNatClampNeg u)) ||| ((1 : Int32) <<< (v9 &&& 31)))) fun σ15 =>
            bnd1 (fX2_advance σ15) fun σ16 =>
            X2_readKey_L17 g u N (v + (1 : Int32)) σ16
            )
          )
        ) else (
        vthen (fun  (σ17 : SS) =>
          some (true, σ17)
          ) fun j42 =>
        if 0 < v then (
          j42 σ
          ) else (
          bnd (fX2_refuse σ (1 : Int32)) fun b19 σ21 =>
          if b19 = true then (
            j42 σ21
            ) else (
            some (false, σ21)
            )
          )
        )
      ) := by
  unfold X2_readKey_L17
  rw [lp_succ]
theorem rk8_s {u : Int32} {N : Nat} {σ : SS} : X8_readsKey_L17 u (N + 1) σ =
    if (fX8_isLetter σ) = true then (
      vthen ((Int64.toInt32 (gL σ 73 10)) - (1 : Int32)) fun v2 =>
      grd (inb u 24) <|
      vthen (fun (_u : Unit) =>
        bnd (fX8_wrong σ (5 : Int32)) fun b5 σ7 =>
        some (b5, σ7)
        ) fun j55 =>
      if (gI σ 77 (Int32.toNatClampNeg u)) ≤ v2 then (
        j55 ()
        ) else (
        if (fX8_has σ (gI σ 78 (Int32.toNatClampNeg u)) v2) = true then (
          j55 ()
          ) else (
          vthen (sI σ 78 (Int32.toNatClampNeg u) ((gI σ 78 (Int32.toNatClampNeg u)) ||| ((1 : Int32) <<< (v2 &&& 31)))) fun σ8 =>
          bnd1 (fX8_next σ8) fun σ9 =>
          X8_readsKey_L17 u N σ9
          )
        )
      ) else (
      some (true, σ)
      ) := by
  unfold X8_readsKey_L17
  rw [lp_succ]
section KEY
variable {T : Nat → Nat} {n g bb s : Nat} {a0 b0 a b : SS} {W H A B q : Nat} {N : Nat → Nat}
theorem let7 (hT : TT T n) (h : K2 T n s a b) : ∃ r, fX2_isLetter a = some r ∧ (r = true ↔ isL T n s) := by
  obtain ⟨k1, ⟨c1, c2, c3, c4, c5, c6⟩, -, k4⟩ := h
  have hn := hT.1
  have hen := en_le (T := T) k1
  have hTs := hT.2 s
  unfold fX2_isLetter isL
  rw [c5, c4, c3, nI_sub hen.1, vthen_q]
  by_cases e1 : kc T n s = 1
  · have hall := en_all (T := T) (n := n) (s := s) (Or.inl e1)
    rw [if_pos (c := nI (kc T n s) = (1 : Int32)) (show nI (kc T n s) = nI 1 by rw [e1])]
    by_cases e2 : en T n s - s = 1
    · rw [if_pos (c := nI (en T n s - s) = (1 : Int32)) (show nI (en T n s - s) = nI 1 by rw [e2]), nI_clamp (by omega), c2 s hall.1, grd_eq _ (inb_nI (by omega) (by decide))]
      by_cases e3 : T s ≤ 102
      · rw [if_neg (c := (102 : Int32) < nI (T s)) (by intro z; have := nI_ltN (a := 102) (b := T s) z (by omega) (by omega); omega)]
        exact ⟨true, rfl, fun _ => ⟨e1, e2, e3⟩, fun _ => rfl⟩
      · rw [if_pos (c := (102 : Int32) < nI (T s)) (by show nI 102 < nI (T s); exact nI_lt (by omega) (by omega))]
        exact ⟨false, rfl, fun z => absurd z (by decide), fun z => absurd z.2.2 e3⟩
    · rw [if_neg (c := nI (en T n s - s) = (1 : Int32)) fun z => e2 (nI_injN (a := en T n s - s) (b := 1) (by omega) (by omega) z)]
      exact ⟨false, rfl, fun z => absurd z (by decide), fun z => absurd z.2.1 e2⟩
  · rw [if_neg (c := nI (kc T n s) = (1 : Int32)) fun z => e1 ((kcI (k := 1) (by omega)).mp z)]
    exact ⟨false, rfl, fun z => absurd z (by decide), fun z => absurd z.1 e1⟩
theorem let8 (hT : TT T n) (h : K2 T n s a b) : (fX8_isLetter b = true) ↔ isL T n s := by
  obtain ⟨k1, -, ⟨r1, r2, r3, r4, r5, r6, r7, r8⟩, -⟩ := h
  have hn := hT.1
  have hen := en_le (T := T) k1
  have hTs := hT.2 s
  unfold fX8_isLetter isL
  simp only [vthen_q]
  rw [r5]
  by_cases e1 : kc T n s = 1
  · have hall := en_all (T := T) (n := n) (s := s) (Or.inl e1)
    have hd := hall.2 s (Nat.le_refl _) (by omega)
    have hdc := kd_cases (T s)
    rw [if_pos (c := nI (kr (kc T n s)) = (1 : Int32)) ((krI (k := 1) (by omega)).mpr e1), (r8 e1).1, (r8 e1).2]
    by_cases e2 : en T n s - s = 1
    · rw [if_pos (c := nI (en T n s - s) = (1 : Int32)) (show nI (en T n s - s) = nI 1 by rw [e2]), e2]
      have ew : wl T s 1 = lN (T s - 96) := by
        unfold wl
        rw [if_pos (by omega)]
        refine congrArg lN ?_
        show 32 * 0 + (T (s + 0) - 96) = T s - 96
        rw [Nat.add_zero]; omega
      have hc : (0 ≤ lg_cmp (wl T s 1) (7 : Int64)) ↔ ¬ T s ≤ 102 := by
        rw [lg_cmp_ge, ew, show (7 : Int64) = lN 7 from rfl, pk_lLE (by omega) (by omega)]; omega
      by_cases e3 : T s ≤ 102
      · rw [if_neg fun z => hc.mp z e3]
        exact ⟨fun _ => ⟨e1, rfl, e3⟩, fun _ => rfl⟩
      · rw [if_pos (hc.mpr e3)]
        exact ⟨fun z => absurd z (by decide), fun z => absurd z.2.2 e3⟩
    · rw [if_neg (c := nI (en T n s - s) = (1 : Int32)) fun z => e2 (nI_injN (a := en T n s - s) (b := 1) (by omega) (by omega) z)]
      exact ⟨fun z => absurd z (by decide), fun z => absurd z.2.1 e2⟩
  · rw [if_neg (c := nI (kr (kc T n s)) = (1 : Int32)) fun z => e1 ((krI (k := 1) (by omega)).mp z)]
    exact ⟨fun z => absurd z (by decide), fun z => absurd z.1 e1⟩
/-- the letter's box, on both sides -/
theorem let_box (hT : TT T n) (h : K2 T n s a b) (hl : isL T n s) : s < 400 ∧ 97 ≤ T s ∧ T s ≤ 102 ∧ gI a 26 2 = nI s ∧ gI a 27 s - 97 = nI (T s - 97) ∧ Int64.toInt32 (gL b 73 10) - 1 = nI (T s - 97) := by
  obtain ⟨k1, ⟨c1, c2, c3, c4, c5, c6⟩, ⟨r1, r2, r3, r4, r5, r6, r7, r8⟩, k4⟩ := h
  obtain ⟨e1, e2, e3⟩ := hl
  have hn := hT.1
  have hTs := hT.2 s
  have hen := en_le (T := T) k1
  have hall := en_all (T := T) (n := n) (s := s) (Or.inl e1)
  have hd := hall.2 s (Nat.le_refl _) (by omega)
  have hdc := kd_cases (T s)
  refine ⟨by omega, by omega, e3, c3, ?_, ?_⟩
  · rw [c2 s hall.1]; exact nI_sub (b := 97) (by omega)
  · have ew : wl T s 1 = lN (T s - 96) := by
      unfold wl
      rw [if_pos (by omega)]
      refine congrArg lN ?_
      show 32 * 0 + (T (s + 0) - 96) = T s - 96
      rw [Nat.add_zero]; omega
    rw [(r8 e1).2, e2, ew, lN_i, show nI (T s - 96) - 1 = nI (T s - 96 - 1) from nI_sub (b := 1) (by omega)]
    exact congrArg nI (by omega)
theorem keyl {γ : Type} {P : γ → Bool × SS → Prop} {k : Bool → SS → Option γ} {j : SS → Option (Bool × SS)} (hT : TT T n) (hg : 27 < g ∨ g + 7 < 26) (hb : bb < 2) (hq : q < 12) (ht : ∀ a b s, K2 T n s a b → Fm g bb a0 b0 W H A B (q + 1) q N a b → W2 (k true a) (j b) P) (hn : ∀ a b, FlO (Om g bb a0 b0) a b → W2 (k false a) (some (false, b)) P) : ∀ m i a b s f f' M, m + i = 6 → m < f → m < f' → (1 ≤ i ∨ isL T n s) → Bs (gI b 78 (12 * bb + q)) M → i ≤ gs M (fun _ => 1) 6 → K2 T n s a b → Fm g bb a0 b0 W H A B (q + 1) q N a b → W2 (bnd (X2_readKey_L17 g (nI q) f (nI i) a) k) (bnd (X8_readsKey_L17 (nI (12 * bb + q)) f' b) fun b38 σ40 => if b38 = true then j σ40 else some (false, σ40)) P := by
  intro m
  induction m with
  | zero =>
    intro i a b s f f' M hm hf hf' hi hM hs h hF
    obtain ⟨f, rfl⟩ : ∃ f1, f = f1 + 1 := ⟨f - 1, by omega⟩
    obtain ⟨f', rfl⟩ : ∃ f1, f' = f1 + 1 := ⟨f' - 1, by omega⟩
    obtain ⟨r, r1, r2⟩ := let7 hT h
    have r3 := let8 hT h
    obtain ⟨n6, p2, p3, p77, ⟨pk1, pk2⟩, -⟩ := hF.2.2.2.2.2.1 q (by omega)
    rw [rk_s, rk8_s, if_neg (c := (6 : Int32) < nI (i)) (fun z => by have := nI_ltN (a := 6) (b := i) z (by omega) (by omega); omega), bnd1_of _ r1]
    by_cases c : isL T n s
    · obtain ⟨l1, l2, l3, l4, l5, l6⟩ := let_box hT h c
      rw [if_pos (r2.mpr c), if_pos (r3.mpr c), l4, nI_clamp (by omega), nI_clamp (by omega), nI_clamp (by omega), l5, l6, p3, p77, pk1]
      simp only [vthen_q, bnd_grd, bnd_ite, bnd_bnd, bnd_sm, bnd_bnd1]
      refine w2_gl (inb_nI (by omega) (by decide)) (w2_gl (inb_nI (by omega) (by decide)) (w2_gr (inb_nI (by omega) (by decide)) ?_))
      have hbad : W2 (bnd (fX2_refuse a (5 : Int32)) fun b12 σ14 => k b12 σ14) (bnd (fX8_wrong b (5 : Int32)) fun b5 σ7 => if b5 = true then j σ7 else some (false, σ7)) P := wr2 (y := 5) hT (Om.sb hg) h hF.1 (by omega) fun a' b' hFL => by rw [if_neg (by decide)]; exact hn a' b' hFL
      by_cases d1 : nI (N q) ≤ nI (T s - 97)
      · rw [if_pos d1, if_pos d1]; exact hbad
      rw [if_neg d1, if_neg d1]
      have hlt : T s - 97 < N q := Classical.byContradiction fun z => d1 (nI_le (by omega) (by omega))
      have hbit := hM.has b (b := T s - 97) (by omega)
      have hM6 : M (T s - 97) := gs_full (m := M) 6 (by have := gs_le (m := M) 6; omega) _ (by omega)
      rw [if_pos (hbit.mpr hM6), if_pos ((hasT b _ _).mp (hbit.mpr hM6))]
      exact hbad
    · rw [if_neg fun z => c (r2.mp z), if_neg fun z => c (r3.mp z), vthen_q, if_pos (c := (0 : Int32) < nI i) (show nI 0 < nI i from nI_lt (a := 0) (by omega) (by omega)), bnd_sm, bnd_sm, if_pos rfl]
      exact ht a b s h hF
  | succ m ih =>
    intro i a b s f f' M hm hf hf' hi hM hs h hF
    obtain ⟨f, rfl⟩ : ∃ f1, f = f1 + 1 := ⟨f - 1, by omega⟩
    obtain ⟨f', rfl⟩ : ∃ f1, f' = f1 + 1 := ⟨f' - 1, by omega⟩
    obtain ⟨r, r1, r2⟩ := let7 hT h
    have r3 := let8 hT h
    obtain ⟨n6, p2, p3, p77, ⟨pk1, pk2⟩, -⟩ := hF.2.2.2.2.2.1 q (by omega)
    rw [rk_s, rk8_s, if_neg (c := (6 : Int32) < nI (i)) (fun z => by have := nI_ltN (a := 6) (b := i) z (by omega) (by omega); omega), bnd1_of _ r1]
    by_cases c : isL T n s
    · obtain ⟨l1, l2, l3, l4, l5, l6⟩ := let_box hT h c
      rw [if_pos (r2.mpr c), if_pos (r3.mpr c), l4, nI_clamp (by omega), nI_clamp (by omega), nI_clamp (by omega), l5, l6, p3, p77, pk1]
      simp only [vthen_q, bnd_grd, bnd_ite, bnd_bnd, bnd_sm, bnd_bnd1]
      refine w2_gl (inb_nI (by omega) (by decide)) (w2_gl (inb_nI (by omega) (by decide)) (w2_gr (inb_nI (by omega) (by decide)) ?_))
      have hbad : W2 (bnd (fX2_refuse a (5 : Int32)) fun b12 σ14 => k b12 σ14) (bnd (fX8_wrong b (5 : Int32)) fun b5 σ7 => if b5 = true then j σ7 else some (false, σ7)) P := wr2 (y := 5) hT (Om.sb hg) h hF.1 (by omega) fun a' b' hFL => by rw [if_neg (by decide)]; exact hn a' b' hFL
      by_cases d1 : nI (N q) ≤ nI (T s - 97)
      · rw [if_pos d1, if_pos d1]; exact hbad
      rw [if_neg d1, if_neg d1]
      have hlt : T s - 97 < N q := Classical.byContradiction fun z => d1 (nI_le (by omega) (by omega))
      have hbit := hM.has b (b := T s - 97) (by omega)
      by_cases d2 : M (T s - 97)
      · rw [if_pos (hbit.mpr d2), if_pos ((hasT b _ _).mp (hbit.mpr d2))]
        exact hbad
      rw [if_neg (fun z => d2 (hbit.mp ((hasT b _ _).mpr z))), if_neg fun z => d2 (hbit.mp z)]
      have hM' : Bs (gI b 78 (12 * bb + q) ||| ((1 : Int32) <<< (nI (T s - 97) &&& 31))) (fun c => M c ∨ c = T s - 97) := hM.or (by omega) fun _ _ => Iff.rfl
      have hg6 := gs_add (m := M) (m' := fun c => M c ∨ c = T s - 97) (f := fun _ => 1) (a := T s - 97) d2 (fun _ => Iff.rfl) 6 (by omega)
      have hR : inR (gI b 78 (12 * bb + q) ||| ((1 : Int32) <<< (nI (T s - 97) &&& 31))) 0 63 := by
        obtain ⟨z, z1, z2, -⟩ := hM'
        rw [z2]; unfold inR; rw [nI_toInt (by omega)]; omega
      have hF2 := hF.cell (c := 4) (d := 78) hq (Or.inl ⟨rfl, rfl, hR⟩)
      refine w2_bnd1 (adv2 hT (F := fun a' b' => Fm g bb a0 b0 W H A B (q + 1) q N a' b' ∧ gI b' 78 (12 * bb + q) = gI b 78 (12 * bb + q) ||| ((1 : Int32) <<< (nI (T s - 97) &&& 31))) (fun x y x' y' z1 z2 z3 z4 z5 => ⟨Fm.sb hg x y x' y' z1.1 z2 z3 z4 z5, by rw [z5 _ _ (by omega)]; exact z1.2⟩) ((h.cl (by omega)).rr (by omega)) ⟨hF2, gI_eq _ _ _ _⟩) fun a2 b2 hq2 => ?_
      obtain ⟨u1, ⟨u2, u3⟩, -⟩ := hq2
      rw [nI_1]
      exact ih (i + 1) a2 b2 _ f f' (fun c => M c ∨ c = T s - 97) (by omega) (by omega) (by omega) (Or.inl (by omega)) (by rw [u3]; exact hM') (by rw [hg6]; omega) u1 u2
    · have hi1 : 1 ≤ i := hi.resolve_right c
      rw [if_neg fun z => c (r2.mp z), if_neg fun z => c (r3.mp z), vthen_q, if_pos (c := (0 : Int32) < nI i) (show nI 0 < nI i from nI_lt (a := 0) (by omega) (by omega)), bnd_sm, bnd_sm, if_pos rfl]
      exact ht a b s h hF
theorem key2 {γ : Type} {P : γ → Bool × SS → Prop} {k : Bool → SS → Option γ} {j : SS → Option (Bool × SS)} (hT : TT T n) (hg : 27 < g ∨ g + 7 < 26) (hb : bb < 2) (hq : q < 12) (h : K2 T n s a b) (hF : Fm g bb a0 b0 W H A B (q + 1) q N a b) (ht : ∀ a b s, K2 T n s a b → Fm g bb a0 b0 W H A B (q + 1) q N a b → W2 (k true a) (j b) P) (hn : ∀ a b, FlO (Om g bb a0 b0) a b → W2 (k false a) (some (false, b)) P) : W2 (bnd (fX2_readKey a g (nI q)) k) (if (fX8_isWord b (11449 : Int64)) = true then bnd (fX8_readsKey b (nI (12 * bb + q))) (fun b38 σ40 => if b38 = true then j σ40 else some (false, σ40)) else j b) P := by
  obtain ⟨r, r1, r2⟩ := word7 hT h (o := 4) (by omega)
  have r3 : (fX8_isWord b (11449 : Int64) = true) ↔ isW T n s 4 := word8 h (o := 4)
  unfold fX2_readKey
  rw [bnd1_of _ r1]
  by_cases c : isW T n s 4
  case neg =>
    rw [if_neg fun z => c (r2.mp z), if_neg fun z => c (r3.mp z), bnd_sm]
    exact ht a b s h hF
  rw [if_pos (r2.mpr c), if_pos (r3.mpr c)]
  unfold fX8_readsKey
  rw [bnd_bnd1, bnd_bnd1]
  refine w2_bnd1 (adv2 hT (Fm.sb hg) h hF) fun a1 b1 hq1 => ?_
  obtain ⟨h1, f1, -⟩ := hq1
  have l8 := let8 hT h1
  by_cases cl : isL T n (sk T n (en T n s))
  · rw [if_pos (l8.mpr cl)]
    obtain ⟨-, -, -, -, ⟨-, pk2⟩, -⟩ := f1.2.2.2.2.2.1 q (by omega)
    obtain ⟨z, hz, ez⟩ := in_of (x := gI b1 78 (12 * bb + q)) (w := 64) (by decide) (by have := pk2.1; have := pk2.2; omega)
    exact keyl hT hg hb hq ht hn 6 0 a1 b1 _ fuel fuel (fun c => z.testBit c = true) (by omega) (fuel_gt (by omega)) (fuel_gt (by omega)) (Or.inr cl) ⟨z, hz, ez, fun _ _ => Iff.rfl⟩ (Nat.zero_le _) h1 f1
  · rw [if_neg fun z => cl (l8.mp z)]
    obtain ⟨r', r1', r2'⟩ := let7 hT h1
    obtain ⟨f, hf⟩ : ∃ f, fuel = f + 1 := ⟨999999, rfl⟩
    rw [hf, rk_s, if_neg (by decide), bnd1_of _ r1', if_neg fun z => cl (r2'.mp z), vthen_q, if_neg (by decide)]
    simp only [bnd_bnd, bnd_ite, bnd_sm]
    refine wr2 (y := 1) hT (Om.sb hg) h1 f1.1 (by omega) fun a' b' hFL => ?_
    rw [if_neg (by decide), if_neg (by decide)]
    exact hn a' b' hFL
end KEY
