/-! Form kept: a question. -/
section QUEST
variable {T : Nat → Nat} {n g bb s : Nat} {a0 b0 a b : SS} {W H A B q : Nat} {N : Nat → Nat}
theorem worth2 {γ : Type} {P : γ → Bool × SS → Prop} {k : Bool → SS → Option γ} {j : SS → Option (Bool × SS)} (hT : TT T n) (hg : 27 < g ∨ g + 7 < 26) (hb : bb < 2) (hq : q < 12) (h : K2 T n s a b) (hF : Fm g bb a0 b0 W H A B (q + 1) q N a b) (ht : ∀ a b s, K2 T n s a b → Fm g bb a0 b0 W H A B (q + 1) q N a b → W2 (k true a) (j b) P) (hn : ∀ a b, FlO (Om g bb a0 b0) a b → W2 (k false a) (some (false, b)) P) : W2 (bnd (fX2_readWorth a g (nI q)) k) (if (fX8_isWord b (24627848 : Int64)) = true then (
      bnd1 (fX8_next b) fun σ30 =>
      bnd (fX8_isNumber σ30 (0 : Int32) (99 : Int32)) fun b32 σ34 =>
      if b32 = true then (
        vthen (sI σ34 79 (12 * bb + q) (gI σ34 73 7)) fun σ35 =>
        bnd1 (fX8_next σ35) fun σ36 =>
        j σ36
        ) else (
        some (false, σ34)
        )
      ) else (
      j b
      )) P := by
  obtain ⟨r, r1, r2⟩ := word7 hT h (o := 5) (by omega)
  have r3 : (fX8_isWord b (24627848 : Int64) = true) ↔ isW T n s 5 := word8 h (o := 5)
  unfold fX2_readWorth
  rw [bnd1_of _ r1]
  by_cases c : isW T n s 5
  case neg =>
    rw [if_neg fun z => c (r2.mp z), if_neg fun z => c (r3.mp z), bnd_sm]
    exact ht a b s h hF
  rw [if_pos (r2.mpr c), if_pos (r3.mpr c)]
  simp only [bnd_bnd, bnd_ite, bnd_grd, bnd_vth, bnd_bnd1, bnd_sm]
  refine w2_bnd1 (adv2 hT (Fm.sb hg) h hF) fun a1 b1 hq1 => ?_
  obtain ⟨h1, f1, -⟩ := hq1
  refine num2 hT (Om.sb hg) h1 f1.1 (fun v v1 v2 v3 v4 => ?_) (fun a' b' hFl => ?_)
  case refine_2 =>
    rw [if_neg (by decide), if_neg (by decide)]
    exact hn a' b' hFl
  have v99 : v ≤ 99 := by
    rw [show (99 : Int32) = nI 99 from rfl, nI_leI (by omega) (by omega)] at v3; exact v3
  rw [if_pos rfl, v4]
  refine w2_vr ?_
  have hS : Sb (fun x y => Fm g bb a0 b0 W H A B (q + 1) q N (sI x (g + 5) q (nI v)) y) := fun x y x' y' z1 z2 z3 z4 z5 => Fm.sb hg _ y _ y' z1 z2 (fun c k hc => by rw [gI_sI, gI_sI, z3 c k hc]) z4 z5
  have hc := (Fm.sb hg a1 b1 (sI a1 26 6 (nI v)) b1 f1 rfl (fun c k hc => by rw [gI_ne hc]) rfl fun _ _ _ => rfl).cell (c := 5) (d := 79) (v := nI v) hq (Or.inr ⟨rfl, rfl, by unfold inR; rw [nI_toInt (by omega)]; omega⟩)
  refine w2_bnd1 (adv2 hT hS ((h1.cl (Or.inl ⟨rfl, rfl⟩)).rr (by omega)) hc) fun a2 b2 hq2 => ?_
  obtain ⟨h2, f2, e6⟩ := hq2
  rw [if_pos rfl, nI_clamp (by omega), e6, gI_eq]
  exact w2_gl (inb_nI (by omega) (by decide)) (w2_vl (ht _ _ _ (h2.cl (by omega)) f2))
theorem new7 {K : Nat} {bb2 : Bool} (hq : q < 12) (h5 : gI a g 5 = nI q) (h6 : gI a g 6 = nI K) : fX1_addQuestion a g bb2 = some (sI (sI (sI (sI (sI (sI a (g + 1) q (b2i bb2)) (g + 2) q (nI K)) (g + 3) q 0) (g + 4) q 0) (g + 5) q 1) g 5 (nI (q + 1))) := by
  unfold fX1_addQuestion
  rw [h5, if_neg (by show ¬ nI 12 ≤ nI q; exact nI_ge (by omega) (by omega)), grd_eq _ (inb_nI (by omega) (by decide)), nI_clamp (by omega), vthen_q, gI_nk (c' := g) (by omega), h5, grd_eq _ (inb_nI (by omega) (by decide)), nI_clamp (by omega), gI_nk (c' := g) (by omega), h6, vthen_q, gI_nk (c' := g) (by omega), gI_nk (c' := g) (by omega), h5, grd_eq _ (inb_nI (by omega) (by decide)), nI_clamp (by omega), vthen_q, gI_nk (c' := g) (by omega), gI_nk (c' := g) (by omega), gI_nk (c' := g) (by omega), h5, grd_eq _ (inb_nI (by omega) (by decide)), nI_clamp (by omega), vthen_q, gI_nk (c' := g) (by omega), gI_nk (c' := g) (by omega), gI_nk (c' := g) (by omega), gI_nk (c' := g) (by omega), h5, grd_eq _ (inb_nI (by omega) (by decide)), nI_clamp (by omega), vthen_q, gI_nk (c' := g) (by omega), gI_nk (c' := g) (by omega), gI_nk (c' := g) (by omega), gI_nk (c' := g) (by omega), gI_nk (c' := g) (by omega), h5, nI_1, vthen_q]
/-- a question begun by both -/
theorem Fm.new {bb2 : Bool} {s5 : Int32} (hs : (bb2 = false ∧ s5 = 1) ∨ (bb2 = true ∧ s5 = 2)) (hq : q < 12) (h : Fm g bb a0 b0 W H A B q q N a b) : Fm g bb a0 b0 W H A B (q + 1) q (upN N q 0) (sI (sI (sI (sI (sI (sI a (g + 1) q (b2i bb2)) (g + 2) q (nI (psum N q))) (g + 3) q 0) (g + 4) q 0) (g + 5) q 1) g 5 (nI (q + 1))) (sI (sI (sI (sI b 76 (12 * bb + q) s5) 77 (12 * bb + q) 0) 78 (12 * bb + q) 0) 79 (12 * bb + q) 1) := by
  obtain ⟨ho, ⟨⟨k1, k2, k3, k4⟩, k5, k6, k7, k8⟩, h3, h4, h5, hE, h7⟩ := h
  have hup : upN N q 0 q = 0 := if_pos rfl
  have hne : ∀ p, p ≠ q → upN N q 0 p = N p := fun p hp => if_neg hp
  have hpq : psum (upN N q 0) q = psum N q := psum_c q fun p hp => hne p (by omega)
  have hps : psum (upN N q 0) (q + 1) = psum N q := by
    show psum (upN N q 0) q + upN N q 0 q = _
    rw [hpq, hup, Nat.add_zero]
  refine ⟨((((((((((ho.cl (by omega)).cl (by omega)).cl (by omega)).cl (by omega)).cl (by omega)).cl (by omega)).rr (by unfold OB; omega)).rr (by unfold OB; omega)).rr (by unfold OB; omega)).rr (by unfold OB; omega)), ⟨⟨?_, ?_, ?_, ?_⟩, ?_, ?_, ?_, ?_⟩, ?_, ?_, ?_, fun p hp => ?_, fun p hp => by rw [hne p (by omega)]; exact h7 p hp⟩
  · rw [gI_nk (by omega), gI_nk (by omega), gI_nk (by omega), gI_nk (by omega), gI_nk (by omega), gI_nk (by omega)]; exact k1
  · rw [gI_nk (by omega), gI_nk (by omega), gI_nk (by omega), gI_nk (by omega), gI_nk (by omega), gI_nk (by omega)]; exact k2
  · rw [gI_nk (by omega), gI_nk (by omega), gI_nk (by omega), gI_nk (by omega), gI_nk (by omega), gI_nk (by omega)]; exact k3
  · rw [gI_nk (by omega), gI_nk (by omega), gI_nk (by omega), gI_nk (by omega), gI_nk (by omega), gI_nk (by omega)]; exact k4
  · rw [gI_nk (by omega), gI_nk (by omega), gI_nk (by omega), gI_nk (by omega)]; exact k5
  · rw [gI_nk (by omega), gI_nk (by omega), gI_nk (by omega), gI_nk (by omega)]; exact k6
  · rw [gI_nk (by omega), gI_nk (by omega), gI_nk (by omega), gI_nk (by omega)]; exact k7
  · rw [gI_nk (by omega), gI_nk (by omega), gI_nk (by omega), gI_nk (by omega)]; exact k8
  · rw [gI_eq]
  · rw [gI_nk (by omega), gI_nk (by omega), gI_nk (by omega), gI_nk (by omega), gI_nk (by omega), gI_nk (by omega), hps]; exact h4
  · rw [gI_nk (by omega), gI_nk (by omega), gI_nk (by omega), gI_nk (by omega)]; exact h5
  · by_cases e : p = q
    · subst e
      unfold En
      rw [hup, hpq]
      refine ⟨by omega, ?_, ?_, ?_, ⟨?_, ?_⟩, ⟨?_, ?_⟩, ?_, fun i hi => absurd hi (by omega)⟩
      · rw [gI_nk (by omega), gI_nk (by omega), gI_nk (by omega), gI_nk (by omega), gI_eq]
      · rw [gI_nk (by omega), gI_nk (by omega), gI_nk (by omega), gI_eq]; rfl
      · rw [gI_nk (by omega), gI_nk (by omega), gI_eq]; rfl
      · rw [gI_nk (by omega), gI_nk (by omega), gI_eq, gI_nk (by omega), gI_eq]
      · rw [gI_nk (by omega), gI_eq]; exact ⟨by decide, by decide⟩
      · rw [gI_nk (by omega), gI_eq, gI_eq]
      · rw [gI_eq]; exact ⟨by decide, by decide⟩
      · rw [show gI (sI (sI (sI (sI b 76 (12 * bb + p) s5) 77 (12 * bb + p) 0) 78 (12 * bb + p) 0) 79 (12 * bb + p) 1) 76 (12 * bb + p) = s5 by rw [gI_nk (by omega), gI_nk (by omega), gI_nk (by omega), gI_eq], gI_nk (by omega), gI_nk (by omega), gI_nk (by omega), gI_nk (by omega), gI_nk (by omega), gI_eq]
        rcases hs with ⟨rfl, rfl⟩ | ⟨rfl, rfl⟩
        · exact Or.inl ⟨rfl, rfl⟩
        · exact Or.inr ⟨rfl, rfl⟩
    · have hlt : p < q := by omega
      have hp6 := (hE p hlt).1
      refine (hE p hlt).fr (fun p' hp' => hne p' (by omega)) (fun j j1 j2 => ?_) (fun j j1 i hi => ?_) (fun c c1 c2 => ?_) (fun c c1 i hi => ?_)
      · rw [gI_nk (by omega), gI_nk (by omega), gI_nk (by omega), gI_nk (by omega), gI_nk (by omega), gI_nk (by omega)]
      · rw [gI_nk (by omega), gI_nk (by omega), gI_nk (by omega), gI_nk (by omega), gI_nk (by omega), gI_nk (by omega)]
      · rw [gI_nk (by omega), gI_nk (by omega), gI_nk (by omega), gI_nk (by omega)]
      · rw [gI_nk (by omega), gI_nk (by omega), gI_nk (by omega), gI_nk (by omega)]
/-- a question closed by both -/
theorem Fm.close (hq : q < 12) (hN : 1 ≤ N q) (h : Fm g bb a0 b0 W H A B (q + 1) q N a b) : Fm g bb a0 b0 W H A B (q + 1) (q + 1) N a (sI b 75 (5 * bb + 4) (nI (q + 1))) := by
  obtain ⟨ho, ⟨k0, k5, k6, k7, k8⟩, h3, h4, h5, hE, h7⟩ := h
  refine ⟨ho.rr (by unfold OB; omega), ⟨k0, ?_, ?_, ?_, ?_⟩, h3, h4, ?_, fun p hp => (hE p hp).fr (fun _ _ => rfl) (fun _ _ _ => rfl) (fun _ _ _ _ => rfl) (fun c c1 c2 => by rw [gI_nk (by omega)]) (fun c c1 i hi => by rw [gI_nk (by omega)]), fun p hp => ?_⟩
  · rw [gI_nk (by omega)]; exact k5
  · rw [gI_nk (by omega)]; exact k6
  · rw [gI_nk (by omega)]; exact k7
  · rw [gI_nk (by omega)]; exact k8
  · rw [gI_eq]
  · by_cases e : p = q
    · subst e; exact hN
    · exact h7 p (by omega)
end QUEST
