/-! Form kept: the places of a question. -/
theorem rp_s {g N : Nat} {v : Int32} {σ : SS} : X2_readPlaces_L2 g (N + 1) v σ =
    if (6 : Int32) < v then (
      some (true, σ)
      ) else (
      bnd (fX2_readPlace σ g v) fun b2 σ4 =>
      if b2 = true then (
        if (gI σ4 26 4) = (3 : Int32) then (
          bnd1 (fX2_advance σ4) fun σ5 =>
          X2_readPlaces_L2 g N (v + (1 : Int32)) σ5
          ) else (
          some (true, σ4)
          )
        ) else (
        some (false, σ4)
        )
      ) := by
  unfold X2_readPlaces_L2
  rw [lp_succ]
theorem rq_s {u : Int32} {k149 : SS → Option (Bool × SS)} {N : Nat} {σ : SS} : X8_readsQuestion_L118 u k149 (N + 1) σ =
    if (gI σ 73 5) = (3 : Int32) then (
      if (gI σ 73 8) = (44 : Int32) then (
        bnd1 (fX8_next σ) fun σ16 =>
        bnd (fX8_readsPlace σ16 u) fun b18 σ20 =>
        if b18 = true then (
          X8_readsQuestion_L118 u k149 N σ20
          ) else (
          some (false, σ20)
          )
        ) else (
        k149 σ
        )
      ) else (
      k149 σ
      ) := by
  unfold X8_readsQuestion_L118
  rw [lp_succ]
section PLACES
variable {T : Nat → Nat} {n g bb : Nat} {a0 b0 : SS} {W H A B q : Nat}
theorem kc_T {s : Nat} : (kc T n s = 3 → T s = 44) ∧ (kc T n s = 4 → T s = 59) := by
  unfold kc
  have := kd_cases (T s)
  by_cases c : n ≤ s
  · rw [if_pos c]; omega
  · rw [if_neg c]; omega
theorem places2 {γ : Type} {P : γ → Bool × SS → Prop} {k : Bool → SS → Option γ} {k149 : SS → Option (Bool × SS)} (hT : TT T n) (hg : 27 < g ∨ g + 7 < 26) (hb : bb < 2) (hR : RG W H A B) (hq : q < 12) (ht : ∀ N a b s, K2 T n s a b → Fm g bb a0 b0 W H A B (q + 1) q N a b → 1 ≤ N q → W2 (k true a) (k149 b) P) (hn : ∀ a b, FlO (Om g bb a0 b0) a b → W2 (k false a) (some (false, b)) P) : ∀ m N a b s f f', m + N q = 6 → m < f → m < f' → K2 T n s a b → Fm g bb a0 b0 W H A B (q + 1) q N a b → W2 (bnd (X2_readPlaces_L2 g f (nI (N q)) a) k) (bnd (fX8_readsPlace b (nI q)) fun b13 σ15 => if b13 = true then X8_readsQuestion_L118 (nI q) k149 f' σ15 else some (false, σ15)) P := by
  intro m
  induction m with
  | zero =>
    intro N a b s f f' hm hf hf' h hF
    obtain ⟨f, rfl⟩ : ∃ f1, f = f1 + 1 := ⟨f - 1, by omega⟩
    rw [rp_s, if_neg (c := (6 : Int32) < nI (N q)) (fun z => by have := nI_ltN (a := 6) (b := N q) z (by omega) (by omega); omega)]
    simp only [bnd_bnd, bnd_ite, bnd_bnd1, bnd_sm]
    refine place2 hT hg hb hR hq h hF (fun a1 b1 s1 h6 _ _ => absurd h6 (by omega)) (fun a1 b1 hFL => ?_)
    rw [if_neg (by decide), if_neg (by decide)]
    exact hn a1 b1 hFL
  | succ m ih =>
    intro N a b s f f' hm hf hf' h hF
    obtain ⟨f, rfl⟩ : ∃ f1, f = f1 + 1 := ⟨f - 1, by omega⟩
    obtain ⟨f', rfl⟩ : ∃ f1, f' = f1 + 1 := ⟨f' - 1, by omega⟩
    rw [rp_s, if_neg (c := (6 : Int32) < nI (N q)) (fun z => by have := nI_ltN (a := 6) (b := N q) z (by omega) (by omega); omega)]
    simp only [bnd_bnd, bnd_ite, bnd_bnd1, bnd_sm]
    refine place2 hT hg hb hR hq h hF (fun a1 b1 s1 h6 h1 f1 => ?_) (fun a1 b1 hFL => ?_)
    case refine_2 =>
      rw [if_neg (by decide), if_neg (by decide)]
      exact hn a1 b1 hFL
    have hup : upN N q (N q + 1) q = N q + 1 := if_pos rfl
    rw [if_pos rfl, if_pos rfl, rq_s, h1.2.1.2.2.2.2.1, h1.2.2.1.2.2.2.2.1]
    have r8 := h1.2.2.1.2.2.2.2.2.2.1
    by_cases c : kc T n s1 = 3
    · rw [if_pos (c := nI (kc T n s1) = (3 : Int32)) ((kcI (k := 3) (by omega)).mpr c), if_pos (c := nI (kr (kc T n s1)) = (3 : Int32)) (kr3.mpr (Or.inl c)), r8 (by omega), kc_T.1 c, if_pos (c := nI 44 = (44 : Int32)) rfl]
      refine w2_bnd1 (adv2 hT (Fm.sb hg) h1 f1) fun a2 b2 hq2 => ?_
      have hi := ih (upN N q (N q + 1)) a2 b2 _ f f' (by rw [hup]; omega) (by omega) (by omega) hq2.1 hq2.2.1
      rw [hup] at hi
      rw [nI_1]
      exact hi
    · have hfin := ht _ a1 b1 s1 h1 f1 (by rw [hup]; omega)
      rw [if_neg (c := nI (kc T n s1) = (3 : Int32)) fun z => c ((kcI (k := 3) (by omega)).mp z)]
      by_cases c4 : kc T n s1 = 4
      · rw [if_pos (c := nI (kr (kc T n s1)) = (3 : Int32)) (kr3.mpr (Or.inr c4)), r8 (by omega), kc_T.2 c4, if_neg (c := nI 59 = (44 : Int32)) (by decide)]
        exact hfin
      · rw [if_neg (c := nI (kr (kc T n s1)) = (3 : Int32)) fun z => by have := kr3.mp z; omega]
        exact hfin
end PLACES
