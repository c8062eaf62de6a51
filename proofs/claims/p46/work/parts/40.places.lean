/-! 40: the text that the law writes: the places read. The form's data: d 0 wide, high, box's width, height; d 1 boxes; d 2, d 3 places; d 4 keys; d 5 worths; d 6 kinds. -/
def Vd (d : Nat → Nat → Nat) (Q : Nat) : Prop := (4 ≤ d 0 0 ∧ d 0 0 ≤ 40) ∧ (4 ≤ d 0 1 ∧ d 0 1 ≤ 40) ∧ (1 ≤ d 0 2 ∧ d 0 2 ≤ 6) ∧ (1 ≤ d 0 3 ∧ d 0 3 ≤ 6) ∧ Q ≤ 5 ∧ (∀ q, q < Q → (1 ≤ d 1 q ∧ d 1 q ≤ 5) ∧ d 4 q < 2 ^ d 1 q ∧ d 5 q ≤ 9 ∧ d 6 q ≤ 1) ∧ (∀ k, k < psum (d 1) Q → (2 ≤ d 2 k ∧ d 2 k + d 0 2 + 2 ≤ d 0 0) ∧ 2 ≤ d 3 k ∧ d 3 k + d 0 3 + 2 ≤ d 0 1) ∧ ∀ k k', k' < k → k < psum (d 1) Q → ¬ cv (d 2) (d 3) (d 0 2) (d 0 3) (d 2 k) (d 3 k) k'
/-- the form's cells so far: q questions, t boxes -/
def Fk (g : Nat) (a0 : SS) (d : Nat → Nat → Nat) (q t : Nat) (a : SS) : Prop := (gR a = gR a0 ∧ ∀ c k, ¬ (c = 26 ∧ 2 ≤ k ∧ k ≤ 6) → ¬ (g ≤ c ∧ c ≤ g + 7) → gI a c k = gI a0 c k) ∧ (gI a g 1 = nI (d 0 0) ∧ gI a g 2 = nI (d 0 1) ∧ gI a g 3 = nI (d 0 2) ∧ gI a g 4 = nI (d 0 3)) ∧ gI a g 6 = nI t ∧ (∀ p, p < q → gI a (g + 1) p = nI (d 6 p) ∧ gI a (g + 2) p = nI (psum (d 1) p) ∧ gI a (g + 3) p = nI (d 1 p) ∧ gI a (g + 4) p = nI (d 4 p) ∧ gI a (g + 5) p = nI (d 5 p)) ∧ ∀ k, k < t → gI a (g + 6) k = nI (d 2 k) ∧ gI a (g + 7) k = nI (d 3 k)
def Fc (g : Nat) (a0 : SS) (d : Nat → Nat → Nat) (q : Nat) (a : SS) : Prop := Fk g a0 d q (psum (d 1) q) a ∧ gI a g 5 = nI q
/-- a question begun: i boxes, its key, its worth -/
def Fo (g : Nat) (a0 : SS) (d : Nat → Nat → Nat) (q i k w : Nat) (a : SS) : Prop := Fk g a0 d q (psum (d 1) q + i) a ∧ gI a g 5 = nI (q + 1) ∧ gI a (g + 1) q = nI (d 6 q) ∧ gI a (g + 2) q = nI (psum (d 1) q) ∧ gI a (g + 3) q = nI i ∧ gI a (g + 4) q = nI k ∧ gI a (g + 5) q = nI w
section PLC
variable {T : Nat → Nat} {n g q i k w j b e Q t : Nat} {d : Nat → Nat → Nat} {a0 a a' : SS}
theorem Fk.mv (hg : g + 7 < 26) (h : Fk g a0 d q t a) (hm : MvT a a') : Fk g a0 d q t a' := by
  obtain ⟨⟨h1, h2⟩, h3, h4, h5, h6⟩ := h
  have e : ∀ c k, c ≠ 26 → gI a' c k = gI a c k := fun c k hc => hm.2 c k (by omega)
  exact ⟨⟨hm.1.trans h1, fun c k hc hc2 => (hm.2 c k hc).trans (h2 c k hc hc2)⟩, ⟨by rw [e _ _ (by omega)]; exact h3.1, by rw [e _ _ (by omega)]; exact h3.2.1, by rw [e _ _ (by omega)]; exact h3.2.2.1, by rw [e _ _ (by omega)]; exact h3.2.2.2⟩, by rw [e _ _ (by omega)]; exact h4, fun p hp => by rw [e _ _ (by omega), e _ _ (by omega), e _ _ (by omega), e _ _ (by omega), e _ _ (by omega)]; exact h5 p hp, fun k hk => by rw [e _ _ (by omega), e _ _ (by omega)]; exact h6 k hk⟩
theorem Fc.mv (hg : g + 7 < 26) (h : Fc g a0 d q a) (hm : MvT a a') : Fc g a0 d q a' := ⟨h.1.mv hg hm, by rw [hm.2 _ _ (by omega)]; exact h.2⟩
theorem Fo.mv (hg : g + 7 < 26) (h : Fo g a0 d q i k w a) (hm : MvT a a') : Fo g a0 d q i k w a' := by
  have e : ∀ c k, c ≠ 26 → gI a' c k = gI a c k := fun c k hc => hm.2 c k (by omega)
  obtain ⟨h1, h2, h3, h4, h5, h6, h7⟩ := h
  exact ⟨h1.mv hg hm, by rw [e _ _ (by omega)]; exact h2, by rw [e _ _ (by omega)]; exact h3, by rw [e _ _ (by omega)]; exact h4, by rw [e _ _ (by omega)]; exact h5, by rw [e _ _ (by omega)]; exact h6, by rw [e _ _ (by omega)]; exact h7⟩
theorem Fk.box (hk : ∀ k, k < t → True) (h : Fk g a0 d q t a) (ht : t < 72) {v : Int32} : Fk g a0 d q (t + 1) (sI (sI (sI (sI a (g + 6) t (nI (d 2 t))) (g + 7) t (nI (d 3 t))) g 6 (nI (t + 1))) (g + 3) q v) := by
  obtain ⟨⟨h1, h2⟩, h3, h4, h5, h6⟩ := h
  refine ⟨⟨h1, fun c k hc hc2 => ?_⟩, ⟨?_, ?_, ?_, ?_⟩, ?_, fun p hp => ⟨?_, ?_, ?_, ?_, ?_⟩, fun k hk => ⟨?_, ?_⟩⟩
  · rw [gI_nk (by omega), gI_nk (by omega), gI_nk (by omega), gI_nk (by omega)]; exact h2 c k hc hc2
  · rw [gI_nk (by omega), gI_nk (by omega), gI_nk (by omega), gI_nk (by omega)]; exact h3.1
  · rw [gI_nk (by omega), gI_nk (by omega), gI_nk (by omega), gI_nk (by omega)]; exact h3.2.1
  · rw [gI_nk (by omega), gI_nk (by omega), gI_nk (by omega), gI_nk (by omega)]; exact h3.2.2.1
  · rw [gI_nk (by omega), gI_nk (by omega), gI_nk (by omega), gI_nk (by omega)]; exact h3.2.2.2
  · rw [gI_nk (by omega), gI_eq]
  · rw [gI_nk (by omega), gI_nk (by omega), gI_nk (by omega), gI_nk (by omega)]; exact (h5 p hp).1
  · rw [gI_nk (by omega), gI_nk (by omega), gI_nk (by omega), gI_nk (by omega)]; exact (h5 p hp).2.1
  · rw [gI_nk (by omega), gI_nk (by omega), gI_nk (by omega), gI_nk (by omega)]; exact (h5 p hp).2.2.1
  · rw [gI_nk (by omega), gI_nk (by omega), gI_nk (by omega), gI_nk (by omega)]; exact (h5 p hp).2.2.2.1
  · rw [gI_nk (by omega), gI_nk (by omega), gI_nk (by omega), gI_nk (by omega)]; exact (h5 p hp).2.2.2.2
  · by_cases c : k = t
    · subst c; rw [gI_nk (by omega), gI_nk (by omega), gI_nk (by omega), gI_eq]
    · rw [gI_nk (by omega), gI_nk (by omega), gI_nk (by omega), gI_nk (by omega)]; exact (h6 k (by omega)).1
  · by_cases c : k = t
    · subst c; rw [gI_nk (by omega), gI_nk (by omega), gI_eq]
    · rw [gI_nk (by omega), gI_nk (by omega), gI_nk (by omega), gI_nk (by omega)]; exact (h6 k (by omega)).2
theorem four_ne {c K m : Nat} {v1 v2 v3 v4 : Int32} (h : g + 7 < c) : gI (sI (sI (sI (sI a (g + 6) K v1) (g + 7) K v2) g 6 v3) (g + 3) q v4) c m = gI a c m := by
  rw [gI_nk (by omega), gI_nk (by omega), gI_nk (by omega), gI_nk (by omega)]
theorem Vd.bd (hV : Vd d Q) {k : Nat} (hk : k < psum (d 1) Q) : d 2 k ≤ 37 ∧ d 3 k ≤ 37 := by
  obtain ⟨v1, v2, v3, v4, v5, v6, v7, v8⟩ := hV
  have := v7 k hk
  omega
theorem Vd.ps (hV : Vd d Q) : psum (d 1) Q ≤ 30 := by
  have := psum_le (N := d 1) Q fun p hp => by have := (hV.2.2.2.2.2.1 p hp).1; omega
  have := hV.2.2.2.2.1
  omega
theorem place_s {x y : Nat} (hg : g = 10 ∨ g = 18) (hT : TT T n) (hV : Vd d Q) (hq : q < Q) (hi : i < d 1 q) (ha : At T n b a) (ho : Fo g a0 d q i 0 1 a) (hx : x = d 2 (psum (d 1) q + i)) (hy : y = d 3 (psum (d 1) q + i)) (m1 : Nm T b x j) (m2 : Nm T j y e) (he : e < n) (hd : dl T e) :
    WP (fX2_readPlace a g (nI i)) (fun r => r.1 = true ∧ At T n e r.2 ∧ Fo g a0 d q (i + 1) 0 1 r.2) := by
  have hg26 : g + 7 < 26 := by omega
  have hg27 : g + 7 < 27 := by omega
  have hps := hV.ps
  have hlt := psum_lt (N := d 1) hq hi
  have hb := hV.bd hlt
  obtain ⟨v1, v2, v3, v4, v5, v6, v7, v8⟩ := id hV
  have hvk := v7 _ hlt
  have hvq := v6 q hq
  rw [← hx, ← hy] at hvk hb
  have hj : j < e := by obtain ⟨-, ⟨-, q1, -⟩ | ⟨-, -, q1, -⟩⟩ := m2 <;> omega
  have hdj : dl T j := Or.inl m2.1
  obtain ⟨⟨⟨o1, o2⟩, ⟨g1, g2, g3, g4⟩, o4, o5, o6⟩, o7, o8⟩ := id ho
  obtain ⟨t1, t2, t3, t4, t5⟩ := num_tok (show j < n by omega) m1 hdj
  obtain ⟨q1, q2⟩ := isNumber_s (lo := 0) (hi := nI (d 0 0) - nI (d 0 2)) ha (by omega) (by omega) m1 hdj (by rw [show (0 : Int32) = nI 0 from rfl, lenN (by omega) (by omega)]; omega) (by rw [nI_sub (by omega), lenN (by omega) (by omega)]; omega)
  unfold fX2_readPlace
  rw [g1, g3, bnd_of _ q1, if_pos rfl, if_neg (fun z => by have := nI_injN (a := i) (b := 6) (by omega) (by omega) z; omega), q2]
  refine wp_v (wp_bnd1 (adv_at (j := j) hT ha (by rw [t2]; exact t4)) fun a6 ⟨A6, r6, f6⟩ => ?_)
  have M6 : MvT a a6 := ⟨r6, fun c k hk => f6 c k (by omega)⟩
  have ho6 := ho.mv (by omega) M6
  obtain ⟨⟨-, ⟨g1', g2', g3', g4'⟩, p4, p5, p6⟩, p7, p8⟩ := id ho6
  obtain ⟨u1, u2, u3, u4, u5⟩ := num_tok he m2 hd
  obtain ⟨w1, w2⟩ := isNumber_s (lo := 0) (hi := nI (d 0 1) - nI (d 0 3)) A6 (by omega) he m2 hd (by rw [show (0 : Int32) = nI 0 from rfl, lenN (by omega) (by omega)]; omega) (by rw [nI_sub (by omega), lenN (by omega) (by omega)]; omega)
  rw [g2', g4', bnd_of _ w1, if_pos rfl, w2]
  obtain ⟨r, er, hr⟩ := cov7 (a := a6) (g := g) (K := psum (d 1) q + i) (A := d 0 2) (B := d 0 3) (x := x) (y := y) (X := d 2) (Y := d 3) (by omega) (by omega) (by omega) (by omega) (by omega) p4 g3' g4' (fun k hk => by have := hV.bd (show k < psum (d 1) Q by omega); exact ⟨⟨(p6 k hk).1, by omega⟩, (p6 k hk).2, by omega⟩)
  have hrf : ¬ r = true := fun z => by
    obtain ⟨k, hk, hc⟩ := hr.mp z
    rw [hx, hy] at hc
    exact v8 _ k hk hlt hc
  rw [bnd1_of _ er, if_neg hrf]
  have eadd := bxadd7 (a := a6) (g := g) (x := x) (y := y) (K := psum (d 1) q + i) (q := q) (N := fun _ => i) (by omega) (by omega) p7 p4 p8.2.2.1
  rw [bnd1_of _ eadd]
  have hFk : Fk g a0 d q (psum (d 1) q + i + 1) (sI (sI (sI (sI a6 (g + 6) (psum (d 1) q + i) (nI x)) (g + 7) (psum (d 1) q + i) (nI y)) g 6 (nI (psum (d 1) q + i + 1))) (g + 3) q (nI (i + 1))) := by
    rw [hx, hy]
    exact ho6.1.box (fun _ _ => trivial) (by omega)
  have hFo : Fo g a0 d q (i + 1) 0 1 (sI (sI (sI (sI a6 (g + 6) (psum (d 1) q + i) (nI x)) (g + 7) (psum (d 1) q + i) (nI y)) g 6 (nI (psum (d 1) q + i + 1))) (g + 3) q (nI (i + 1))) := by
    refine ⟨hFk, ?_, ?_, ?_, ?_, ?_, ?_⟩
    · rw [gI_nk (by omega), gI_nk (by omega), gI_nk (by omega), gI_nk (by omega)]; exact p7
    · rw [gI_nk (by omega), gI_nk (by omega), gI_nk (by omega), gI_nk (by omega)]; exact p8.1
    · rw [gI_nk (by omega), gI_nk (by omega), gI_nk (by omega), gI_nk (by omega)]; exact p8.2.1
    · rw [gI_eq]
    · rw [gI_nk (by omega), gI_nk (by omega), gI_nk (by omega), gI_nk (by omega)]; exact p8.2.2.2.1
    · rw [gI_nk (by omega), gI_nk (by omega), gI_nk (by omega), gI_nk (by omega)]; exact p8.2.2.2.2
  have hAt : At T n j (sI (sI (sI (sI a6 (g + 6) (psum (d 1) q + i) (nI x)) (g + 7) (psum (d 1) q + i) (nI y)) g 6 (nI (psum (d 1) q + i + 1))) (g + 3) q (nI (i + 1))) := by
    exact A6.fr (fun k hk => four_ne hg26) (fun k => four_ne hg27)
  refine wp_bnd1 (adv_at (j := e) hT hAt (by rw [u2]; exact u4)) fun a9 ⟨A9, r9, f9⟩ => ?_
  exact ⟨_, rfl, rfl, A9, hFo.mv (by omega) ⟨r9, fun c k hk => f9 c k (by omega)⟩⟩
/-- the places of a question as the law writes them -/
def Pls (T : Nat → Nat) (d : Nat → Nat → Nat) (q m : Nat) (P : Nat → Nat) : Prop := ∀ i, i < m → ∃ b j, ((i = 0 ∧ b = P 0) ∨ (0 < i ∧ T (P i) = 44 ∧ b = P i + 1)) ∧ Nm T b (d 2 (psum (d 1) q + i)) j ∧ Nm T j (d 3 (psum (d 1) q + i)) (P (i + 1))
theorem places_s {P : Nat → Nat} (hg : g = 10 ∨ g = 18) (hT : TT T n) (hV : Vd d Q) (hq : q < Q) (hP : Pls T d q (d 1 q) P) (hPn : ∀ i, i ≤ d 1 q → P i + 1 < n) (hend : T (P (d 1 q)) = 32 ∧ 97 ≤ T (P (d 1 q) + 1) ∧ T (P (d 1 q) + 1) ≤ 122) (ha : At T n (P 0) a) (ho : Fo g a0 d q 0 0 1 a) :
    WP (fX2_readPlaces a g) (fun r => r.1 = true ∧ At T n (P (d 1 q)) r.2 ∧ Fo g a0 d q (d 1 q) 0 1 r.2) := by
  have hN := (hV.2.2.2.2.2.1 q hq).1
  have key : ∀ m i a, i + m + 1 = d 1 q → ∀ b, ((i = 0 ∧ b = P 0) ∨ (0 < i ∧ T (P i) = 44 ∧ b = P i + 1)) → At T n b a → Fo g a0 d q i 0 1 a → ∀ F, m < F → WP (X2_readPlaces_L2 g F (nI i) a) (fun r => r.1 = true ∧ At T n (P (d 1 q)) r.2 ∧ Fo g a0 d q (d 1 q) 0 1 r.2) := by
    intro m
    induction m with
    | zero =>
      intro i a hi b hb hA hF F hFm
      obtain ⟨F', rfl⟩ : ∃ F', F = F' + 1 := ⟨F - 1, by omega⟩
      obtain ⟨b', j, hb', m1, m2⟩ := hP i (by omega)
      have eb : b' = b := by omega
      subst eb
      have ei : i + 1 = d 1 q := by omega
      rw [rp_s, if_neg (by rw [show (6 : Int32) = nI 6 from rfl, ltnN (by omega) (by omega)]; omega)]
      refine wp_bndp (place_s hg hT hV hq (by omega) hA hF rfl rfl m1 m2 (by have := hPn (i + 1) (by omega); omega) (by rw [ei]; exact Or.inl hend.1)) fun b2 a4 ⟨e2, A4, F4⟩ => ?_
      have e2 : b2 = true := e2
      have A4 : At T n (P (i + 1)) a4 := A4
      have F4 : Fo g a0 d q (i + 1) 0 1 a4 := F4
      rw [if_pos e2]
      have hn := hPn (i + 1) (by omega)
      have hs : sk T n (P (i + 1)) = P (i + 1) + 1 := sk_one hn (by rw [ei]; exact hend.1) (by rw [ei]; omega)
      have hk : kc T n (P (i + 1) + 1) = 1 := by
        unfold kc
        rw [if_neg (by omega), ei]
        exact kd_let hend.2
      have e4 : gI a4 26 4 = nI 1 := by rw [A4.2.1.2.2.2.2.1, hs, hk]
      rw [e4, if_neg (by decide)]
      rw [ei] at A4 F4
      exact ⟨_, rfl, rfl, A4, F4⟩
    | succ m ih =>
      intro i a hi b hb hA hF F hFm
      obtain ⟨F', rfl⟩ : ∃ F', F = F' + 1 := ⟨F - 1, by omega⟩
      obtain ⟨b', j, hb', m1, m2⟩ := hP i (by omega)
      have eb : b' = b := by omega
      subst eb
      have hnx := hP (i + 1) (by omega)
      obtain ⟨b3, j3, hb3, -⟩ := hnx
      have h44 : T (P (i + 1)) = 44 := by omega
      rw [rp_s, if_neg (by rw [show (6 : Int32) = nI 6 from rfl, ltnN (by omega) (by omega)]; omega)]
      refine wp_bndp (place_s hg hT hV hq (by omega) hA hF rfl rfl m1 m2 (by have := hPn (i + 1) (by omega); omega) (Or.inr (Or.inl h44))) fun b2 a4 ⟨e2, A4, F4⟩ => ?_
      have e2 : b2 = true := e2
      have A4 : At T n (P (i + 1)) a4 := A4
      have F4 : Fo g a0 d q (i + 1) 0 1 a4 := F4
      rw [if_pos e2]
      have hn := hPn (i + 1) (by omega)
      obtain ⟨-, -, e4, ad, -⟩ := takeSign_s (K := 3) hT A4 (Or.inl rfl) (by omega) (by rw [h44]; rfl)
      rw [e4, if_pos (show nI 3 = (3 : Int32) from rfl)]
      refine wp_bnd1 ad fun a5 ⟨A5, M5⟩ => ?_
      rw [nI_1]
      exact ih (i + 1) a5 (by omega) _ (Or.inr ⟨by omega, h44, rfl⟩) A5 (F4.mv (by omega) M5) F' (by omega)
  unfold fX2_readPlaces
  exact key (d 1 q - 1) 0 a (by omega) _ (Or.inl ⟨rfl, rfl⟩) ha ho fuel (by show _ < 1000000; omega)
end PLC
