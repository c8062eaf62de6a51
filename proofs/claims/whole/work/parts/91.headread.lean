/-! Form kept: the head read. -/
section BND
variable {α β γ δ ε : Type}
theorem bnd_bnd (x : Option (α × β)) (f : α → β → Option (γ × δ)) (k : γ → δ → Option ε) : bnd (bnd x f) k = bnd x fun a b => bnd (f a b) k := by
  cases x with
  | none => rfl
  | some v => rfl
theorem bnd_bnd1 (x : Option α) (f : α → Option (γ × δ)) (k : γ → δ → Option ε) : bnd (bnd1 x f) k = bnd1 x fun a => bnd (f a) k := by
  cases x with
  | none => rfl
  | some v => rfl
theorem bnd_ite (c : Prop) [Decidable c] (x y : Option (γ × δ)) (k : γ → δ → Option ε) : bnd (if c then x else y) k = if c then bnd x k else bnd y k := by
  by_cases h : c
  · rw [if_pos h, if_pos h]
  · rw [if_neg h, if_neg h]
theorem bnd_grd (c : Bool) (x : Option (γ × δ)) (k : γ → δ → Option ε) : bnd (grd c x) k = grd c (bnd x k) := by
  unfold grd
  rw [bnd_ite]; rfl
theorem bnd_vth (x : α) (f : α → Option (γ × δ)) (k : γ → δ → Option ε) : bnd (vthen x f) k = vthen x fun a => bnd (f a) k := (Eq.refl _).trans (Eq.refl _)
theorem bnd_sm (a : γ) (b : δ) (k : γ → δ → Option ε) : bnd (some (a, b)) k = k a b := (Eq.refl _).trans (Eq.refl _)
end BND
theorem two_lt {u1 u4 u5 v : Int32} {N : Nat} {σ : SS} (hv : ¬ (2 : Int32) ≤ v) : X8_readsTwo_L13 u1 u4 u5 (N + 1) v σ = bnd (fX8_isNumber σ u4 u5) fun b10 σ12 =>
      if b10 = true then (
        grd (inb ((((5 : Int32) * (gI σ12 73 11)) + u1) + v) 10) <|
        vthen (sI σ12 75 (Int32.toNatClampNeg ((((5 : Int32) * (gI σ12 73 11)) + u1) + v)) (gI σ12 73 7)) fun σ14 =>
        bnd1 (fX8_next σ14) fun σ15 =>
        X8_readsTwo_L13 u1 u4 u5 N (v + (1 : Int32)) σ15
        ) else (
        some (false, σ12)
        ) := by
  unfold X8_readsTwo_L13
  rw [lp_succ]
  exact if_neg hv
theorem two_end {u1 u4 u5 v : Int32} {N : Nat} {σ : SS} (hv : (2 : Int32) ≤ v) : X8_readsTwo_L13 u1 u4 u5 (N + 1) v σ = bnd (fX8_takesSign σ (59 : Int32)) fun b6 σ8 => some (b6, σ8) := by
  unfold X8_readsTwo_L13
  rw [lp_succ]
  exact if_pos hv
theorem head2 {T : Nat → Nat} {n s g bb : Nat} {a0 b0 a b : SS} {V : Nat → Nat} {γ δ : Type} {P : γ → δ → Prop} {k : Bool → SS → Option γ} {k' : Bool → SS → Option δ} {kf' : SS → Option δ} (hT : TT T n) (hg : 27 < g ∨ g + 7 < 26) (hb : bb < 2) (h : K2 T n s a b) (hv : HV g bb a0 b0 V 0 0 a b) (ht : ∀ a' b' s' V', K2 T n s' a' b' → HV g bb a0 b0 V' 4 4 a' b' → W2 (k true a') (k' true b') P) (hn : ∀ a' b', FlO (Om g bb a0 b0) a' b' → W2 (k false a') (k' false b') P) (hn2 : ∀ a' b', FlO (Om g bb a0 b0) a' b' → W2 (k false a') (kf' b') P) : W2 (bnd (fX2_readHead a g) k) (bnd (fX8_readsTwo b (0 : Int32) (632645 : Int64) (4 : Int32) (40 : Int32)) fun b4 σ6 => if b4 = true then bnd (fX8_readsTwo σ6 (2 : Int32) (2552 : Int64) (1 : Int32) (6 : Int32)) k' else kf' σ6) P := by
  have oo : ∀ V m m' a b, HV g bb a0 b0 V m m' a b → Om g bb a0 b0 a b := fun V m m' a b h => h.1
  obtain ⟨N, hN⟩ : ∃ N, fuel = N + 1 + 1 + 1 := ⟨999997, rfl⟩
  unfold fX2_readHead
  simp only [bnd_bnd, bnd_ite, bnd_vth, bnd_sm]
  unfold fX8_readsTwo
  rw [hN, bnd_bnd]
  refine tkw (o := 0) hT (HV.sb hg) (Om.sb hg) (oo V 0 0) h hv rfl (by omega) (fun a1 b1 s1 h1 v1 => ?_) (fun a' b' hF => ?_)
  case refine_2 =>
    rw [if_neg (by decide), if_neg (by decide), bnd_sm, if_neg (by decide)]
    exact hn2 a' b' hF
  rw [if_pos rfl, if_pos rfl, two_lt (by decide), bnd_bnd]
  simp only [bnd_ite, bnd_grd, bnd_vth, bnd_bnd1, bnd_sm]
  refine hnum (m := 0) (lo := 4) (hi := 40) (kf := fun σ8 => k false σ8) (kf' := fun σ12 => if false = true then _ else kf' σ12) hT hg hb (by omega) (by decide) (fun v w1 w2 => ⟨fun _ => ⟨w1, w2⟩, fun h => by omega⟩) (by omega) (by omega) h1 v1 (fun a2 b2 s2 V2 h2 v2 => ?_) (fun a' b' hF => by rw [if_neg (by decide)]; exact hn2 a' b' hF)
  try dsimp only
  rw [two_lt (by decide), bnd_bnd]
  simp only [bnd_ite, bnd_grd, bnd_vth, bnd_bnd1, bnd_sm]
  refine hnum (m := 1) (lo := 4) (hi := 40) (kf := fun σ8 => k false σ8) (kf' := fun σ12 => if false = true then _ else kf' σ12) hT hg hb (by omega) (by decide) (fun v w1 w2 => ⟨fun _ => ⟨w1, w2⟩, fun h => by omega⟩) (by omega) (by omega) h2 v2 (fun a3 b3 s3 V3 h3 v3 => ?_) (fun a' b' hF => by rw [if_neg (by decide)]; exact hn2 a' b' hF)
  try dsimp only
  rw [two_end (by decide), bnd_bnd]
  simp only [bnd_sm]
  refine tks hT (HV.sb hg) (Om.sb hg) (oo V3 _ _) h3 v3 (fun a4 b4 s4 h4 v4 => ?_) (fun a' b' hF => ?_)
  case refine_2 =>
    rw [if_neg (by decide), if_neg (by decide)]
    exact hn2 a' b' hF
  rw [if_pos rfl, if_pos rfl, bnd_bnd]
  refine tkw (o := 1) hT (HV.sb hg) (Om.sb hg) (oo V3 _ _) h4 v4 rfl (by omega) (fun a5 b5 s5 h5 v5 => ?_) (fun a' b' hF => ?_)
  case refine_2 =>
    rw [if_neg (by decide), if_neg (by decide), bnd_sm]
    exact hn a' b' hF
  rw [if_pos rfl, if_pos rfl, two_lt (by decide), bnd_bnd]
  simp only [bnd_ite, bnd_grd, bnd_vth, bnd_bnd1, bnd_sm]
  refine hnum (m := 2) (lo := 1) (hi := 6) (kf := fun σ8 => k false σ8) (kf' := fun σ12 => k' false σ12) hT hg hb (by omega) (by decide) (fun v w1 w2 => ⟨fun h => by omega, fun _ => ⟨w1, w2⟩⟩) (by omega) (by omega) h5 v5 (fun a6 b6 s6 V6 h6 v6 => ?_) hn
  try dsimp only
  rw [two_lt (by decide), bnd_bnd]
  simp only [bnd_ite, bnd_grd, bnd_vth, bnd_bnd1, bnd_sm]
  refine hnum (m := 3) (lo := 1) (hi := 6) (kf := fun σ8 => k false σ8) (kf' := fun σ12 => k' false σ12) hT hg hb (by omega) (by decide) (fun v w1 w2 => ⟨fun h => by omega, fun _ => ⟨w1, w2⟩⟩) (by omega) (by omega) h6 v6 (fun a7 b7 s7 V7 h7 v7 => ?_) hn
  try dsimp only
  rw [two_end (by decide), bnd_bnd]
  simp only [bnd_sm]
  exact tks hT (HV.sb hg) (Om.sb hg) (oo V7 _ _) h7 v7 (fun a8 b8 s8 h8 v8 => ht a8 b8 s8 V7 h8 v8) hn
