/-! 42: the text that the law writes: read as a form. -/
/-- question q of the text: from e to e' -/
def Qt (T : Nat → Nat) (d : Nat → Nat → Nat) (q e e' : Nat) : Prop := ∃ (P R : Nat → Nat) (e3 e4 : Nat), ((d 6 q = 0 ∧ Wd T e 3 ∧ P 0 = e + 3) ∨ (d 6 q = 1 ∧ Wd T e 2 ∧ P 0 = e + 4)) ∧ Pls T d q (d 1 q) P ∧ (∀ i, i ≤ d 1 q → P i ≤ e3) ∧ ((d 4 q = 0 ∧ e3 = P (d 1 q)) ∨ (d 4 q ≠ 0 ∧ T (P (d 1 q)) = 32 ∧ Wd T (P (d 1 q) + 1) 4 ∧ R 0 = P (d 1 q) + 4 ∧ Kys T (d 4 q) (d 1 q) R ∧ e3 = R (d 1 q))) ∧ T e3 = 32 ∧ Wd T (e3 + 1) 5 ∧ Nm T (e3 + 6) (d 5 q) e4 ∧ T e4 = 59 ∧ e' = e4 + 1
/-- the head of the text: to e -/
def Hd (T : Nat → Nat) (d : Nat → Nat → Nat) (e : Nat) : Prop := ∃ j1 j2 j3 j4, Wd T 0 0 ∧ Nm T 4 (d 0 0) j1 ∧ Nm T j1 (d 0 1) j2 ∧ T j2 = 59 ∧ Wd T (j2 + 1) 1 ∧ Nm T (j2 + 4) (d 0 2) j3 ∧ Nm T j3 (d 0 3) j4 ∧ T j4 = 59 ∧ e = j4 + 1
section FORMREAD
variable {T : Nat → Nat} {n g q i k w j b e e' Q t : Nat} {d : Nat → Nat → Nat} {a0 a a' σ : SS}
theorem Nm.lt (h : Nm T i w j) : i + 2 ≤ j ∧ j ≤ i + 3 := by obtain ⟨-, ⟨-, q1, -⟩ | ⟨-, -, q1, -⟩⟩ := h <;> omega
theorem Fc.begin {bb2 : Bool} (hb : b2i bb2 = nI (d 6 q)) (hq : q < 12) (h : Fc g a0 d q a) : Fo g a0 d q 0 0 1 (sI (sI (sI (sI (sI (sI a (g + 1) q (b2i bb2)) (g + 2) q (nI (psum (d 1) q))) (g + 3) q 0) (g + 4) q 0) (g + 5) q 1) g 5 (nI (q + 1))) := by
  obtain ⟨⟨⟨h1, h2⟩, ⟨h3, h4, h5, h6⟩, h7, h8, h9⟩, h10⟩ := h
  have o : ∀ c k, ¬ (c = g + 1 ∧ k = q) → ¬ (c = g + 2 ∧ k = q) → ¬ (c = g + 3 ∧ k = q) → ¬ (c = g + 4 ∧ k = q) → ¬ (c = g + 5 ∧ k = q) → ¬ (c = g ∧ k = 5) → gI (sI (sI (sI (sI (sI (sI a (g + 1) q (b2i bb2)) (g + 2) q (nI (psum (d 1) q))) (g + 3) q 0) (g + 4) q 0) (g + 5) q 1) g 5 (nI (q + 1))) c k = gI a c k := fun c k c1 c2 c3 c4 c5 c6 => by
    rw [gI_nk c6, gI_nk c5, gI_nk c4, gI_nk c3, gI_nk c2, gI_nk c1]
  refine ⟨⟨⟨h1, fun c k hc hc2 => ?_⟩, ⟨?_, ?_, ?_, ?_⟩, ?_, fun p hp => ?_, fun k hk => ?_⟩, ?_, ?_, ?_, ?_, ?_, ?_⟩
  · rw [o _ _ (by omega) (by omega) (by omega) (by omega) (by omega) (by omega)]; exact h2 c k hc hc2
  · rw [o _ _ (by omega) (by omega) (by omega) (by omega) (by omega) (by omega)]; exact h3
  · rw [o _ _ (by omega) (by omega) (by omega) (by omega) (by omega) (by omega)]; exact h4
  · rw [o _ _ (by omega) (by omega) (by omega) (by omega) (by omega) (by omega)]; exact h5
  · rw [o _ _ (by omega) (by omega) (by omega) (by omega) (by omega) (by omega)]; exact h6
  · rw [o _ _ (by omega) (by omega) (by omega) (by omega) (by omega) (by omega)]; exact h7
  · rw [o _ _ (by omega) (by omega) (by omega) (by omega) (by omega) (by omega), o _ _ (by omega) (by omega) (by omega) (by omega) (by omega) (by omega), o _ _ (by omega) (by omega) (by omega) (by omega) (by omega) (by omega), o _ _ (by omega) (by omega) (by omega) (by omega) (by omega) (by omega), o _ _ (by omega) (by omega) (by omega) (by omega) (by omega) (by omega)]; exact h8 p hp
  · rw [o _ _ (by omega) (by omega) (by omega) (by omega) (by omega) (by omega), o _ _ (by omega) (by omega) (by omega) (by omega) (by omega) (by omega)]; exact h9 k hk
  · rw [gI_eq]
  · rw [gI_nk (by omega), gI_nk (by omega), gI_nk (by omega), gI_nk (by omega), gI_nk (by omega), gI_eq]; exact hb
  · rw [gI_nk (by omega), gI_nk (by omega), gI_nk (by omega), gI_nk (by omega), gI_eq]
  · rw [gI_nk (by omega), gI_nk (by omega), gI_nk (by omega), gI_eq]; rfl
  · rw [gI_nk (by omega), gI_nk (by omega), gI_eq]; rfl
  · rw [gI_nk (by omega), gI_eq]; rfl
theorem six_ne {c K m : Nat} {v1 v2 v3 v4 v5 v6 : Int32} (h : g + 7 < c) : gI (sI (sI (sI (sI (sI (sI a (g + 1) q v1) (g + 2) q v2) (g + 3) q v3) (g + 4) q v4) (g + 5) q v5) g K v6) c m = gI a c m := by
  rw [gI_nk (by omega), gI_nk (by omega), gI_nk (by omega), gI_nk (by omega), gI_nk (by omega), gI_nk (by omega)]
theorem Fo.close (h : Fo g a0 d q (d 1 q) (d 4 q) (d 5 q) a) : Fc g a0 d (q + 1) a := by
  obtain ⟨⟨h1, h2, h3, h4, h5⟩, g1, g2, g3, g4, g5, g6⟩ := h
  refine ⟨⟨h1, h2, h3, fun p hp => ?_, h5⟩, g1⟩
  by_cases c : p = q
  · subst c; exact ⟨g2, g3, g4, g5, g6⟩
  · exact h4 p (by omega)
theorem Qt.wth (h : Qt T d q e e') (hn : e' ≤ n) : ∃ (P R : Nat → Nat) (e3 e4 : Nat), ((d 6 q = 0 ∧ Wd T e 3 ∧ P 0 = e + 3) ∨ (d 6 q = 1 ∧ Wd T e 2 ∧ P 0 = e + 4)) ∧ Pls T d q (d 1 q) P ∧ (∀ i, i ≤ d 1 q → P i + 1 < n) ∧ ((d 4 q = 0 ∧ e3 = P (d 1 q)) ∨ (d 4 q ≠ 0 ∧ T (P (d 1 q)) = 32 ∧ Wd T (P (d 1 q) + 1) 4 ∧ R 0 = P (d 1 q) + 4 ∧ Kys T (d 4 q) (d 1 q) R ∧ e3 = R (d 1 q))) ∧ Wth T n e3 ∧ Nm T (e3 + 6) (d 5 q) e4 ∧ T e4 = 59 ∧ e' = e4 + 1 ∧ e4 < n := by
  obtain ⟨P, R, e3, e4, h1, h2, h3, h4, h5, h6, h7, h8, h9⟩ := h
  have hl := h7.lt
  exact ⟨P, R, e3, e4, h1, h2, fun i hi => by have := h3 i hi; omega, h4, ⟨h5, h6, by omega, Or.inl h7.1⟩, h7, h8, h9, by omega⟩
theorem Pls.first {m : Nat} {P : Nat → Nat} (h : Pls T d q m P) (hm : 1 ≤ m) : T (P 0) = 32 := by
  obtain ⟨b, j, hb, m1, -⟩ := h 0 (by omega)
  have : b = P 0 := by omega
  rw [← this]; exact m1.1
/-- what follows the kind -/
theorem quest_s {P R : Nat → Nat} {e3 e4 : Nat} {bb2 : Bool} (hg : g = 10 ∨ g = 18) (hT : TT T n) (hV : Vd d Q) (hq : q < Q) (hbb : b2i bb2 = nI (d 6 q)) (hP : Pls T d q (d 1 q) P) (hPn : ∀ i, i ≤ d 1 q → P i + 1 < n) (hK : (d 4 q = 0 ∧ e3 = P (d 1 q)) ∨ (d 4 q ≠ 0 ∧ T (P (d 1 q)) = 32 ∧ Wd T (P (d 1 q) + 1) 4 ∧ R 0 = P (d 1 q) + 4 ∧ Kys T (d 4 q) (d 1 q) R ∧ e3 = R (d 1 q))) (hW : Wth T n e3) (hm : Nm T (e3 + 6) (d 5 q) e4) (h59 : T e4 = 59) (he : e4 < n) (hA : At T n i a) (ee : en T n (sk T n i) = P 0) (hF : Fc g a0 d q a)
    {F : SS → Option (Bool × SS)} {Z : Bool × SS → Prop} (hk : ∀ r, At T n (e4 + 1) r → Fc g a0 d (q + 1) r → WP (F r) Z) :
    WP (bnd1 (fX2_advance a) fun σ5 =>
            bnd1 (fX1_addQuestion σ5 g bb2) fun σ6 =>
            bnd (fX2_readPlaces σ6 g) fun b8 σ10 =>
            if b8 = true then (
              bnd (fX2_readKey σ10 g (nI q)) fun b12 σ14 =>
              if b12 = true then (
                bnd (fX2_readWorth σ14 g (nI q)) fun b16 σ18 =>
                if b16 = true then (
                  bnd (fX2_takeSign σ18 (4 : Int32)) fun b20 σ22 =>
                  if b20 = true then (
                    F σ22
                    ) else (
                    some (false, σ22)
                    )
                  ) else (
                  some (false, σ18)
                  )
                ) else (
                some (false, σ14)
                )
              ) else (
              some (false, σ10)
              )) Z := by
  have hg26 : g + 7 < 26 := by omega
  have hg27 : g + 7 < 27 := by omega
  obtain ⟨v1, v2, v3, v4, v5, v6, v7, v8⟩ := id hV
  obtain ⟨vN, vK, vW, vk⟩ := v6 q hq
  refine wp_bnd1 (adv_at (j := P 0) hT hA ee) fun a5 ⟨A5, r5, f5⟩ => ?_
  have F5 : Fc g a0 d q a5 := hF.mv hg26 ⟨r5, fun c k hk => f5 c k (by omega)⟩
  rw [bnd1_of _ (new7 (a := a5) (g := g) (q := q) (bb2 := bb2) (K := psum (d 1) q) (by omega) F5.2 F5.1.2.2.1)]
  have F6 := F5.begin hbb (by omega)
  have A6 : At T n (P 0) (sI (sI (sI (sI (sI (sI a5 (g + 1) q (b2i bb2)) (g + 2) q (nI (psum (d 1) q))) (g + 3) q 0) (g + 4) q 0) (g + 5) q 1) g 5 (nI (q + 1))) := A5.fr (fun k hk => six_ne hg26) (fun k => six_ne hg27)
  generalize sI (sI (sI (sI (sI (sI a5 (g + 1) q (b2i bb2)) (g + 2) q (nI (psum (d 1) q))) (g + 3) q 0) (g + 4) q 0) (g + 5) q 1) g 5 (nI (q + 1)) = a6 at F6 A6
  have hend : T (P (d 1 q)) = 32 ∧ 97 ≤ T (P (d 1 q) + 1) ∧ T (P (d 1 q) + 1) ≤ 122 := by
    rcases hK with ⟨-, rfl⟩ | ⟨-, k1, k2, -⟩
    · have := hW.2.1 0 (by decide)
      rw [Nat.add_zero] at this
      exact ⟨hW.1, by rw [this]; decide, by rw [this]; decide⟩
    · have := k2 0 (by decide)
      rw [Nat.add_zero] at this
      exact ⟨k1, by rw [this]; decide, by rw [this]; decide⟩
  refine wp_bndp (places_s hg hT hV hq hP hPn hend A6 F6) fun b8 a10 ⟨e8, A10, F10⟩ => ?_
  have e8 : b8 = true := e8
  rw [if_pos e8]
  refine wp_bndp (readKey_s (R := R) (K := d 4 q) (N := d 1 q) (p := P (d 1 q)) (e := e3) hg hT (by omega) vN.2 vK hW hK A10 F10) fun b12 a14 ⟨e12, A14, F14⟩ => ?_
  have e12 : b12 = true := e12
  rw [if_pos e12]
  refine wp_bndp (readWorth_s (W := d 5 q) (e4 := e4) hg hT (by omega) hW vW hm h59 he A14 F14) fun b16 a18 ⟨e16, A18, F18⟩ => ?_
  have e16 : b16 = true := e16
  rw [if_pos e16]
  refine wp_bndp (takeSign_s (K := 4) hT A18 (Or.inr rfl) he (by show kd (T e4) = 4; rw [h59]; rfl)).2.2.2.2 fun b20 a22 ⟨e20, A22, M22⟩ => ?_
  have e20 : b20 = true := e20
  rw [if_pos e20]
  have F18' : Fo g a0 d q (d 1 q) (d 4 q) (d 5 q) a18 := F18
  exact hk a22 A22 (F18'.close.mv hg26 M22)
theorem quests_s {E : Nat → Nat} (hg : g = 10 ∨ g = 18) (hT : TT T n) (hV : Vd d Q) (hE : ∀ q, q < Q → Qt T d q (E q) (E (q + 1))) (hn : E Q = n) (hEn : ∀ q, q ≤ Q → E q ≤ n) : ∀ m q a, q + m = Q → At T n (E q) a → Fc g a0 d q a → ∀ F, m < F → WP (X2_readQuestions_L2 g F (nI q) a) (fun r => r.1 = true ∧ At T n n r.2 ∧ Fc g a0 d Q r.2) := by
  have hQ5 := hV.2.2.2.2.1
  intro m
  induction m with
  | zero =>
    intro q a hq hA hF F hFm
    obtain ⟨F', rfl⟩ : ∃ F', F = F' + 1 := ⟨F - 1, by omega⟩
    have eq : q = Q := by omega
    subst eq
    rw [hn] at hA
    have hs : sk T n n = n := sk_no (Nat.le_refl _) fun z => absurd z (by omega)
    have e4 : gI a 26 4 = nI 0 := by
      rw [hA.2.1.2.2.2.2.1, hs]
      unfold kc
      rw [if_pos (Nat.le_refl _)]
    rw [rs_s, if_neg (by rw [show (12 : Int32) = nI 12 from rfl, ltnN (by omega) (by omega)]; omega), e4, if_pos (show nI 0 = (0 : Int32) from rfl)]
    exact ⟨_, rfl, rfl, hA, hF⟩
  | succ m ih =>
    intro q a hq hA hF F hFm
    obtain ⟨F', rfl⟩ : ∃ F', F = F' + 1 := ⟨F - 1, by omega⟩
    have hqt := hE q (by omega)
    obtain ⟨P, R, e3, e4, h1, h2, h3, h4, h5, h6, h7, h8, h9⟩ := hqt.wth (hEn (q + 1) (by omega))
    have hN1 := (hV.2.2.2.2.2.1 q (by omega)).1.1
    have hP0 := h2.first hN1
    have hPn0 := h3 0 (by omega)
    have hneq : ¬ nI q = (12 : Int32) := fun z => by have := nI_injN (a := q) (b := 12) (by omega) (by omega) z; omega
    have go : ∀ bb2 : Bool, b2i bb2 = nI (d 6 q) → en T n (sk T n (E q)) = P 0 → WP (bnd1 (fX2_advance a) fun σ5 =>
            bnd1 (fX1_addQuestion σ5 g bb2) fun σ6 =>
            bnd (fX2_readPlaces σ6 g) fun b8 σ10 =>
            if b8 = true then (
              bnd (fX2_readKey σ10 g (nI q)) fun b12 σ14 =>
              if b12 = true then (
                bnd (fX2_readWorth σ14 g (nI q)) fun b16 σ18 =>
                if b16 = true then (
                  bnd (fX2_takeSign σ18 (4 : Int32)) fun b20 σ22 =>
                  if b20 = true then (
                    X2_readQuestions_L2 g F' (nI q + (1 : Int32)) σ22
                    ) else (
                    some (false, σ22)
                    )
                  ) else (
                  some (false, σ18)
                  )
                ) else (
                some (false, σ14)
                )
              ) else (
              some (false, σ10)
              )) (fun r => r.1 = true ∧ At T n n r.2 ∧ Fc g a0 d Q r.2) := fun bb2 hbb ee =>
      quest_s hg hT hV (by omega) hbb h2 h3 h4 h5 h6 h7 h9 hA ee hF fun r Ar Fr => by
        rw [nI_1]
        rw [← h8] at Ar
        exact ih (q + 1) r (by omega) Ar Fr F' (by omega)
    have h4' : ¬ gI a 26 4 = 0 ∧ True := by
      refine ⟨fun z => ?_, trivial⟩
      rw [hA.2.1.2.2.2.2.1] at z
      rcases h1 with ⟨-, w, e0⟩ | ⟨-, w, e0⟩
      · obtain ⟨w1, w2, w3, w4⟩ := word_tok (o := 3) (n := n) (by decide) w (by rw [show stL.getD 3 0 = 3 from rfl]; omega) (by rw [show E q + stL.getD 3 0 = P 0 by rw [e0]; rfl]; exact Or.inl hP0)
        rw [sk_no hA.1 fun _ => ⟨w3, w4⟩, w1] at z
        exact absurd z (by decide)
      · obtain ⟨w1, w2, w3, w4⟩ := word_tok (o := 2) (n := n) (by decide) w (by rw [show stL.getD 2 0 = 4 from rfl]; omega) (by rw [show E q + stL.getD 2 0 = P 0 by rw [e0]; rfl]; exact Or.inl hP0)
        rw [sk_no hA.1 fun _ => ⟨w3, w4⟩, w1] at z
        exact absurd z (by decide)
    rw [rs_s, if_neg (by rw [show (12 : Int32) = nI 12 from rfl, ltnN (by omega) (by omega)]; omega), if_neg h4'.1]
    rcases h1 with ⟨h6q, w, e0⟩ | ⟨h6q, w, e0⟩
    · have hl : E q + stL.getD 3 0 < n := by rw [show stL.getD 3 0 = 3 from rfl]; omega
      have hd : dl T (E q + stL.getD 3 0) := by rw [show E q + stL.getD 3 0 = P 0 by rw [e0]; rfl]; exact Or.inl hP0
      obtain ⟨w1, w2, w3, w4⟩ := word_tok (o := 3) (n := n) (by decide) w hl hd
      have hs : sk T n (E q) = E q := sk_no hA.1 fun _ => ⟨w3, w4⟩
      have hc := hA.2.1
      rw [hs] at hc
      rw [bnd1_of _ (word_n (o := 2) hT (by decide) hA.1 hc (fun _ => by rw [w2, show stL.getD 3 0 = 3 from rfl, show stL.getD 2 0 = 4 from rfl]; omega))]
      refine wp_v ?_
      rw [if_neg (by decide), bnd1_of _ (word_y (o := 3) hT (by decide) hl hc w hd), if_pos rfl]
      dsimp only
      rw [if_neg hneq]
      exact go false (by rw [h6q]; rfl) (by rw [hs, w2, e0]; rfl)
    · have hl : E q + stL.getD 2 0 < n := by rw [show stL.getD 2 0 = 4 from rfl]; omega
      have hd : dl T (E q + stL.getD 2 0) := by rw [show E q + stL.getD 2 0 = P 0 by rw [e0]; rfl]; exact Or.inl hP0
      obtain ⟨w1, w2, w3, w4⟩ := word_tok (o := 2) (n := n) (by decide) w hl hd
      have hs : sk T n (E q) = E q := sk_no hA.1 fun _ => ⟨w3, w4⟩
      have hc := hA.2.1
      rw [hs] at hc
      rw [bnd1_of _ (word_y (o := 2) hT (by decide) hl hc w hd)]
      refine wp_v ?_
      rw [if_pos rfl]
      dsimp only
      rw [if_neg hneq]
      exact go true (by rw [h6q]; rfl) (by rw [hs, w2, e0]; rfl)
end FORMREAD
