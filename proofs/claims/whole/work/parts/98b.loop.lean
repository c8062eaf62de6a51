/-! Form kept: all questions. -/
theorem rs_s {g N : Nat} {v : Int32} {σ : SS} : X2_readQuestions_L2 g (N + 1) v σ =
    if (12 : Int32) < v then (
      some (true, σ)
      ) else (
      if (gI σ 26 4) = 0 then (
        some (true, σ)
        ) else (
        bnd1 (fX2_isWord σ 2) fun b2 =>
        vthen (fun  (σ4 : SS) =>
          if v = (12 : Int32) then (
            bnd (fX2_refuse σ4 (3 : Int32)) fun b24 σ26 =>
            some (b24, σ26)
            ) else (
            bnd1 (fX2_advance σ4) fun σ5 =>
            bnd1 (fX1_addQuestion σ5 g b2) fun σ6 =>
            bnd (fX2_readPlaces σ6 g) fun b8 σ10 =>
            if b8 = true then (
              bnd (fX2_readKey σ10 g v) fun b12 σ14 =>
              if b12 = true then (
                bnd (fX2_readWorth σ14 g v) fun b16 σ18 =>
                if b16 = true then (
                  bnd (fX2_takeSign σ18 (4 : Int32)) fun b20 σ22 =>
                  if b20 = true then (
                    X2_readQuestions_L2 g N (v + (1 : Int32)) σ22
                    ) else (
                    some (false, σ22)
                    )
                  ) else (
                  some (false, σ18)
                  )
                ) else (
                some (false, σ14)
                )
              ) else (
              some (false, σ10)
              )
            )
          ) fun j43 =>
        if b2 = true then (
          j43 σ
          ) else (
          bnd1 (fX2_isWord σ 3) fun b28 =>
          if b28 = true then (
            j43 σ
            ) else (
            bnd (fX2_refuse σ (1 : Int32)) fun b31 σ33 =>
            some (b31, σ33)
            )
          )
        )
      ) := by
  unfold X2_readQuestions_L2
  rw [lp_succ]
theorem rs8_s {N : Nat} {σ : SS} : X8_reads_L44 (N + 1) σ =
    if (gI σ 73 5) = 0 then (
      some (true, σ)
      ) else (
      bnd (fX8_readsQuestion σ) fun b12 σ14 =>
      if b12 = true then (
        X8_reads_L44 N σ14
        ) else (
        some (false, σ14)
        )
      ) := by
  unfold X8_reads_L44
  rw [lp_succ]
theorem w2_rq {γ δ : Type} {P : γ → δ → Prop} {x : Option γ} {y : Option (Bool × SS)} {kt kf : SS → Option δ} (h : ∀ Q : γ → Bool × SS → Prop, (∀ x b, W2 x (kt b) P → W2 x (some (true, b)) Q) → (∀ x b, W2 x (kf b) P → W2 x (some (false, b)) Q) → W2 x y Q) : W2 x (bnd y fun b12 σ14 => if b12 = true then kt σ14 else kf σ14) P := by
  refine w2_rk (h _ (fun x b hx => ?_) fun x b hx => ?_)
  · obtain ⟨v, u, e, e', hp⟩ := hx
    exact ⟨v, (true, b), e, rfl, u, (if_pos rfl).trans e', hp⟩
  · obtain ⟨v, u, e, e', hp⟩ := hx
    exact ⟨v, (false, b), e, rfl, u, (if_neg (c := false = true) (by decide)).trans e', hp⟩
section QUESTS
variable {T : Nat → Nat} {n g bb : Nat} {a0 b0 : SS} {W H A B : Nat}
theorem quest_s {γ δ : Type} {P : γ → δ → Prop} {k : Bool → SS → Option γ} {k' : Bool → SS → Option δ} (hT : TT T n) (hg : 27 < g ∨ g + 7 < 26) (hb : bb < 2) (hR : RG W H A B) (ht : ∀ q N a b s, q ≤ 12 → K2 T n s a b → Fm g bb a0 b0 W H A B q q N a b → W2 (k true a) (k' true b) P) (hn : ∀ a b, FlO (Om g bb a0 b0) a b → W2 (k false a) (k' false b) P) {q f f' : Nat} (hq : q ≤ 12) (hrec : q < 12 → ∀ N a b s, K2 T n s a b → Fm g bb a0 b0 W H A B (q + 1) (q + 1) N a b → W2 (bnd (X2_readQuestions_L2 g f (nI (q + 1)) a) k) (bnd (X8_reads_L44 f' b) k') P) {N : Nat → Nat} {a b : SS} {s : Nat} (h : K2 T n s a b) (hF : Fm g bb a0 b0 W H A B q q N a b) : W2 (bnd (X2_readQuestions_L2 g (f + 1) (nI q) a) k) (bnd (X8_reads_L44 (f' + 1) b) k') P := by
  obtain ⟨r2, x2, y2⟩ := word7 hT h (o := 2) (by omega)
  obtain ⟨r3, x3, y3⟩ := word7 hT h (o := 3) (by omega)
  have z2 : (fX8_isWord b (427481 : Int64) = true) ↔ isW T n s 2 := word8 h (o := 2)
  have z3 : (fX8_isWord b (15813 : Int64) = true) ↔ isW T n s 3 := word8 h (o := 3)
  have hno : isW T n s 3 → ¬ isW T n s 2 := fun u1 u2 => by
    have e : lN (ww 3) = lN (ww 2) := u1.2.symm.trans u2.2
    exact absurd e (by decide)
  have e11 := hF.1.2.2.2
  have eM := hF.2.2.2.2.1
  have e54 : (5 : Int32) * gI b 73 11 + 4 = nI (5 * bb + 4) := by rw [e11, show (5 : Int32) = nI 5 from rfl, nI_mul]; exact nI_add (5 * bb) 4
  have e12 : (12 : Int32) * gI b 73 11 + nI q = nI (12 * bb + q) := by rw [e11, show (12 : Int32) = nI 12 from rfl, nI_mul, nI_add]
  have i12 : (nI q = (12 : Int32)) ↔ q = 12 := show (nI q = nI 12) ↔ _ from nI_eq (by omega) (by omega)
  rw [rs_s, rs8_s, if_neg (c := (12 : Int32) < nI q) (fun z => by have := nI_ltN (a := 12) (b := q) z (by omega) (by omega); omega), h.2.1.2.2.2.2.1, h.2.2.1.2.2.2.2.1]
  by_cases c0 : kc T n s = 0
  · rw [if_pos (c := nI (kc T n s) = (0 : Int32)) ((kcI (k := 0) (by omega)).mpr c0), if_pos (c := nI (kr (kc T n s)) = (0 : Int32)) ((krI (k := 0) (by omega)).mpr c0), bnd_sm, bnd_sm]
    exact ht q N a b s hq h hF
  rw [if_neg (c := nI (kc T n s) = (0 : Int32)) (fun z => c0 ((kcI (k := 0) (by omega)).mp z)), if_neg (c := nI (kr (kc T n s)) = (0 : Int32)) (fun z => c0 ((krI (k := 0) (by omega)).mp z))]
  simp only [vthen_q, bnd_bnd, bnd_ite, bnd_bnd1, bnd_sm]
  refine w2_rq (kt := fun σ => bnd (X8_reads_L44 f' σ) k') (kf := fun σ => k' false σ) fun Q hQt hQf => ?_
  unfold fX8_readsQuestion
  rw [bnd1_of _ x2]
  refine w2_vr ?_
  try dsimp only
  by_cases c3 : isW T n s 3
  · have c2 := hno c3
    have er2 : r2 = false := by
      cases r2
      · rfl
      · exact absurd (y2.mp rfl) c2
    subst er2
    rw [if_neg (by decide), bnd1_of _ x3, if_pos (y3.mpr c3), if_pos (z3.mpr c3)]
    rw [e54, nI_clamp (by omega), eM]
    refine w2_gr (inb_nI (by omega) (by decide)) (w2_vr ?_)
    by_cases cq : q = 12
    · rw [if_pos (c := nI q = (12 : Int32)) (i12.mpr cq), if_pos (c := nI q = (12 : Int32)) (i12.mpr cq)]
      exact wr2 (y := 3) hT (Om.sb hg) h hF.1 (by omega) fun a' b' hFl => hQf _ _ (hn a' b' hFl)
    · rw [if_neg (c := nI q = (12 : Int32)) (fun z => cq (i12.mp z)), if_neg (c := nI q = (12 : Int32)) (fun z => cq (i12.mp z))]
      refine w2_vr (w2_vr ?_)
      try dsimp only
      rw [if_pos (z3.mpr c3), e12]
      exact qbody (kt := fun σ => bnd (X2_readQuestions_L2 g f (nI q + 1) σ) k) (kf := fun σ => k false σ) hT hg hb hR (Or.inl ⟨rfl, rfl⟩) (by omega) h hF (fun N a b s h' f' => hQt _ _ (by rw [nI_1]; exact hrec (by omega) N a b s h' f')) (fun a b hFl => hQf _ _ (hn a b hFl))
  · rw [if_neg (c := fX8_isWord b (15813 : Int64) = true) fun z => c3 (z3.mp z)]
    by_cases c2 : isW T n s 2
    · have er2 : r2 = true := y2.mpr c2
      subst er2
      rw [if_pos rfl, if_pos (z2.mpr c2)]
      rw [e54, nI_clamp (by omega), eM]
      refine w2_gr (inb_nI (by omega) (by decide)) (w2_vr ?_)
      by_cases cq : q = 12
      · rw [if_pos (c := nI q = (12 : Int32)) (i12.mpr cq), if_pos (c := nI q = (12 : Int32)) (i12.mpr cq)]
        exact wr2 (y := 3) hT (Om.sb hg) h hF.1 (by omega) fun a' b' hFl => hQf _ _ (hn a' b' hFl)
      · rw [if_neg (c := nI q = (12 : Int32)) (fun z => cq (i12.mp z)), if_neg (c := nI q = (12 : Int32)) (fun z => cq (i12.mp z))]
        refine w2_vr (w2_vr ?_)
        try dsimp only
        rw [if_neg (c := fX8_isWord b (15813 : Int64) = true) (fun z => c3 (z3.mp z)), e12]
        exact qbody (kt := fun σ => bnd (X2_readQuestions_L2 g f (nI q + 1) σ) k) (kf := fun σ => k false σ) hT hg hb hR (Or.inr ⟨rfl, rfl⟩) (by omega) h hF (fun N a b s h' f' => hQt _ _ (by rw [nI_1]; exact hrec (by omega) N a b s h' f')) (fun a b hFl => hQf _ _ (hn a b hFl))
    · rw [if_neg fun z => c2 (y2.mp z), bnd1_of _ x3, if_neg fun z => c3 (y3.mp z), if_neg fun z => c2 (z2.mp z)]
      exact wr2 (y := 1) hT (Om.sb hg) h hF.1 (by omega) fun a' b' hFl => hQf _ _ (hn a' b' hFl)
theorem quests2 {γ δ : Type} {P : γ → δ → Prop} {k : Bool → SS → Option γ} {k' : Bool → SS → Option δ} (hT : TT T n) (hg : 27 < g ∨ g + 7 < 26) (hb : bb < 2) (hR : RG W H A B) (ht : ∀ q N a b s, q ≤ 12 → K2 T n s a b → Fm g bb a0 b0 W H A B q q N a b → W2 (k true a) (k' true b) P) (hn : ∀ a b, FlO (Om g bb a0 b0) a b → W2 (k false a) (k' false b) P) : ∀ m q N a b s f f', m + q = 12 → m < f → m < f' → K2 T n s a b → Fm g bb a0 b0 W H A B q q N a b → W2 (bnd (X2_readQuestions_L2 g f (nI q) a) k) (bnd (X8_reads_L44 f' b) k') P := by
  intro m
  induction m with
  | zero =>
    intro q N a b s f f' hm hf hf' h hF
    obtain ⟨f, rfl⟩ : ∃ f1, f = f1 + 1 := ⟨f - 1, by omega⟩
    obtain ⟨f', rfl⟩ : ∃ f1, f' = f1 + 1 := ⟨f' - 1, by omega⟩
    exact quest_s hT hg hb hR ht hn (by omega) (fun h => absurd h (by omega)) h hF
  | succ m ih =>
    intro q N a b s f f' hm hf hf' h hF
    obtain ⟨f, rfl⟩ : ∃ f1, f = f1 + 1 := ⟨f - 1, by omega⟩
    obtain ⟨f', rfl⟩ : ∃ f1, f' = f1 + 1 := ⟨f' - 1, by omega⟩
    exact quest_s hT hg hb hR ht hn (by omega) (fun _ N a b s h hF => ih (q + 1) N a b s f f' (by omega) (by omega) (by omega) h hF) h hF
end QUESTS
