/-! 43: a form told is taken. -/
section FORM
variable {T : Nat → Nat} {n g q e Q : Nat} {d : Nat → Nat → Nat} {a0 a σ : SS}
/-- the head's numbers so far -/
def Hk (g : Nat) (a0 : SS) (d : Nat → Nat → Nat) (m : Nat) (a : SS) : Prop := (gR a = gR a0 ∧ ∀ c k, ¬ (c = 26 ∧ 2 ≤ k ∧ k ≤ 6) → ¬ (g ≤ c ∧ c ≤ g + 7) → gI a c k = gI a0 c k) ∧ (∀ k, k < m → gI a g (k + 1) = nI (d 0 k)) ∧ gI a g 5 = 0 ∧ gI a g 6 = 0
theorem Hk.mv {a' : SS} {m : Nat} (hg : g + 7 < 26) (h : Hk g a0 d m a) (hm : MvT a a') : Hk g a0 d m a' := by
  obtain ⟨⟨h1, h2⟩, h3, h4, h5⟩ := h
  have e : ∀ c k, c ≠ 26 → gI a' c k = gI a c k := fun c k hc => hm.2 c k (by omega)
  exact ⟨⟨hm.1.trans h1, fun c k hc hc2 => (hm.2 c k hc).trans (h2 c k hc hc2)⟩, fun k hk => by rw [e _ _ (by omega)]; exact h3 k hk, by rw [e _ _ (by omega)]; exact h4, by rw [e _ _ (by omega)]; exact h5⟩
theorem Hk.put {m : Nat} (hm : m < 4) (h : Hk g a0 d m a) : Hk g a0 d (m + 1) (sI a g (m + 1) (nI (d 0 m))) := by
  obtain ⟨⟨h1, h2⟩, h3, h4, h5⟩ := h
  refine ⟨⟨h1, fun c k hc hc2 => ?_⟩, fun k hk => ?_, ?_, ?_⟩
  · rw [gI_nk (by omega)]; exact h2 c k hc hc2
  · by_cases c : k = m
    · subst c; exact gI_eq _ _ _ _
    · rw [gI_nk (by omega)]; exact h3 k (by omega)
  · rw [gI_nk (by omega)]; exact h4
  · rw [gI_nk (by omega)]; exact h5
theorem head_s (hg : g = 10 ∨ g = 18) (hT : TT T n) (hV : Vd d Q) (hH : Hd T d e) (he : e ≤ n) (hA : At T n 0 a) (hF : Hk g a0 d 0 a) : WP (fX2_readHead a g) (fun r => r.1 = true ∧ At T n e r.2 ∧ Fc g a0 d 0 r.2) := by
  have hg26 : g + 7 < 26 := by omega
  have hgc : g < 26 := by omega
  obtain ⟨v1, v2, v3, v4, -⟩ := hV
  obtain ⟨j1, j2, j3, j4, w0, m1, m2, s1, w1, m3, m4, s2, rfl⟩ := hH
  have l1 := m1.lt
  have l2 := m2.lt
  have l3 := m3.lt
  have l4 := m4.lt
  unfold fX2_readHead
  refine wp_bndp (takeWord_s (o := 0) hT (by decide) hA w0 (by rw [show stL.getD 0 0 = 4 from rfl]; omega) (Or.inl m1.1)) fun b2 a4 ⟨e2, A4, M4⟩ => ?_
  have e2 : b2 = true := e2
  have A4 : At T n 4 a4 := A4
  have F4 : Hk g a0 d 0 a4 := hF.mv hg26 M4
  rw [if_pos e2]
  have lo : ∀ x y : Nat, x ≤ y → y < 100 → (nI x : Int32) ≤ nI y := fun x y h1 h2 => by rw [lenN (by omega) (by omega)]; exact h1
  refine wp_bndp (takeNumber_s (lo := 4) (hi := 40) (v := d 0 0) hT A4 (by omega) (by omega) m1 (Or.inl m2.1) (lo 4 _ (by omega) (by omega)) (lo _ 40 (by omega) (by omega))) fun b6 a8 ⟨e6, x6, A8, M8⟩ => ?_
  have e6 : b6 = true := e6
  have x6 : gI a8 26 6 = nI (d 0 0) := x6
  have A8 : At T n j1 a8 := A8
  have F8 : Hk g a0 d 1 (sI a8 g 1 (nI (d 0 0))) := (F4.mv hg26 M8).put (by decide)
  rw [if_pos e6, x6]
  refine wp_v ?_
  have A8 : At T n j1 (sI a8 g 1 (nI (d 0 0))) := A8.cell hgc
  refine wp_bndp (takeNumber_s (lo := 4) (hi := 40) (v := d 0 1) hT A8 (by omega) (by omega) m2 (Or.inr (Or.inr s1)) (lo 4 _ (by omega) (by omega)) (lo _ 40 (by omega) (by omega))) fun b11 a13 ⟨e11, x11, A13, M13⟩ => ?_
  have e11 : b11 = true := e11
  have x11 : gI a13 26 6 = nI (d 0 1) := x11
  have A13 : At T n j2 a13 := A13
  have F13 : Hk g a0 d 2 (sI a13 g 2 (nI (d 0 1))) := (F8.mv hg26 M13).put (by decide)
  rw [if_pos e11, x11]
  refine wp_v ?_
  have A13 : At T n j2 (sI a13 g 2 (nI (d 0 1))) := A13.cell hgc
  refine wp_bndp (takeSign_s (K := 4) hT A13 (Or.inr rfl) (by omega) (by rw [s1]; rfl)).2.2.2.2 fun b16 a18 ⟨e16, A18, M18⟩ => ?_
  have e16 : b16 = true := e16
  have A18 : At T n (j2 + 1) a18 := A18
  have F18 : Hk g a0 d 2 a18 := F13.mv hg26 M18
  rw [if_pos e16]
  refine wp_bndp (takeWord_s (o := 1) hT (by decide) A18 w1 (by rw [show stL.getD 1 0 = 3 from rfl]; omega) (Or.inl m3.1)) fun b20 a22 ⟨e20, A22, M22⟩ => ?_
  have e20 : b20 = true := e20
  have A22 : At T n (j2 + 4) a22 := A22
  have F22 : Hk g a0 d 2 a22 := F18.mv hg26 M22
  rw [if_pos e20]
  refine wp_bndp (takeNumber_s (lo := 1) (hi := 6) (v := d 0 2) hT A22 (by omega) (by omega) m3 (Or.inl m4.1) (lo 1 _ (by omega) (by omega)) (lo _ 6 (by omega) (by omega))) fun b24 a26 ⟨e24, x24, A26, M26⟩ => ?_
  have e24 : b24 = true := e24
  have x24 : gI a26 26 6 = nI (d 0 2) := x24
  have A26 : At T n j3 a26 := A26
  have F26 : Hk g a0 d 3 (sI a26 g 3 (nI (d 0 2))) := (F22.mv hg26 M26).put (by decide)
  rw [if_pos e24, x24]
  refine wp_v ?_
  have A26 : At T n j3 (sI a26 g 3 (nI (d 0 2))) := A26.cell hgc
  refine wp_bndp (takeNumber_s (lo := 1) (hi := 6) (v := d 0 3) hT A26 (by omega) (by omega) m4 (Or.inr (Or.inr s2)) (lo 1 _ (by omega) (by omega)) (lo _ 6 (by omega) (by omega))) fun b29 a31 ⟨e29, x29, A31, M31⟩ => ?_
  have e29 : b29 = true := e29
  have x29 : gI a31 26 6 = nI (d 0 3) := x29
  have A31 : At T n j4 a31 := A31
  have F31 : Hk g a0 d 4 (sI a31 g 4 (nI (d 0 3))) := (F26.mv hg26 M31).put (by decide)
  rw [if_pos e29, x29]
  refine wp_v ?_
  have A31 : At T n j4 (sI a31 g 4 (nI (d 0 3))) := A31.cell hgc
  refine wp_bndp (takeSign_s (K := 4) hT A31 (Or.inr rfl) (by omega) (by rw [s2]; rfl)).2.2.2.2 fun b34 a36 ⟨e34, A36, M36⟩ => ?_
  have A36 : At T n (j4 + 1) a36 := A36
  have F36 : Hk g a0 d 4 a36 := F31.mv hg26 M36
  obtain ⟨z1, z2, z3, z4⟩ := F36
  exact ⟨_, rfl, e34, A36, ⟨z1, ⟨z2 0 (by decide), z2 1 (by decide), z2 2 (by decide), z2 3 (by decide)⟩, z4, fun p hp => absurd hp (Nat.not_lt_zero _), fun k hk => absurd hk (Nat.not_lt_zero _)⟩, z3⟩
/-- what a form taken leaves -/
def Tk (g f Q : Nat) (d : Nat → Nat → Nat) (σ r : SS) : Prop := (gR r 1 5 = g ∧ gR r 1 6 = f ∧ ∀ c k, ¬ (c = 1 ∧ (k = 5 ∨ k = 6)) → gR r c k = gR σ c k) ∧ (∀ c k, c ≠ 26 → c ≠ 27 → ¬ (g ≤ c ∧ c ≤ g + 7) → ¬ (c = 1 ∧ k = 1) → c ≠ 30 → c ≠ 58 → gI r c k = gI σ c k) ∧ (∀ k, k < 12 → gI r 30 k = 0) ∧ gI r 58 0 = 0 ∧ gI r 1 1 = 0 ∧ gI r g 0 = 1 ∧ (gI r g 1 = nI (d 0 0) ∧ gI r g 2 = nI (d 0 1) ∧ gI r g 3 = nI (d 0 2) ∧ gI r g 4 = nI (d 0 3)) ∧ gI r g 5 = nI Q ∧ gI r g 6 = nI (psum (d 1) Q) ∧ (∀ p, p < Q → gI r (g + 1) p = nI (d 6 p) ∧ gI r (g + 2) p = nI (psum (d 1) p) ∧ gI r (g + 3) p = nI (d 1 p) ∧ gI r (g + 4) p = nI (d 4 p) ∧ gI r (g + 5) p = nI (d 5 p)) ∧ ∀ k, k < psum (d 1) Q → gI r (g + 6) k = nI (d 2 k) ∧ gI r (g + 7) k = nI (d 3 k)
set_option maxHeartbeats 4000000 in
theorem form_s {f M : Nat} {E : Nat → Nat} (hf : f = 10 ∨ f = 18) (h5 : gR σ 1 5 = f) (h6 : gR σ 1 6 = 28 - f) (hM : gI σ 1 1 = nI M) (hM2 : M ≤ 1000) (hnM : n ≤ M) (hn1 : 1 ≤ n) (hT : TT T n) (htx : ∀ j, j < n → gI σ 2 j = nI (T j)) (hV : Vd d Q) (hH : Hd T d (E 0)) (hE : ∀ q, q < Q → Qt T d q (E q) (E (q + 1))) (hn : E Q = n) (hEn : ∀ q, q ≤ Q → E q ≤ n) : WP (fX7_form σ (nI n)) (fun r => r.1 = nI Q ∧ Tk (28 - f) f Q d σ r.2) := by
  have hn4 := hT.1
  have hg : 28 - f = 10 ∨ 28 - f = 18 := by omega
  generalize eg : 28 - f = g at hg h6
  have hg26 : g + 7 < 26 := by omega
  obtain ⟨t, ⟨t1, t2, t3, t4, t5, t6, t7, t8⟩, tk⟩ := txread7 (σ := sI σ 1 1 0) (n := n) (g := g) ⟨hn1, hn4⟩ (Or.inr hg26)
  unfold fX7_form
  rw [if_neg (by rw [show (1 : Int32) = nI 1 from rfl, ltnN (by omega) (by omega)]; omega), if_neg (by rw [show (400 : Int32) = nI 400 from rfl, ltnN (by omega) (by omega)]; omega), hM, if_pos (by rw [lenN (by omega) (by omega)]; exact hnM)]
  refine wp_v ?_
  rw [show gR (sI σ 1 1 0) 1 6 = g from h6, tk]
  refine wp_bnd1 (adv7 (T := T) (n := n) (i := 0) hn4 (by omega) t3 (fun j hj => by rw [t4 j hj, gI_ne (by decide)]; exact htx j hj) hT.2 t5) fun a7 ⟨r7, f7, C7'⟩ => ?_
  have A7 : At T n 0 a7 := ⟨Nat.zero_le _, C7', (f7 _ _ (by omega)).trans t6⟩
  have H7 : Hk g t d 0 a7 := ⟨⟨r7, fun c k hc _ => f7 c k (by omega)⟩, fun k hk => absurd hk (Nat.not_lt_zero _), (f7 _ _ (by omega)).trans t7, (f7 _ _ (by omega)).trans t8⟩
  refine wp_bndp (head_s hg hT hV hH (hEn 0 (by omega)) A7 H7) fun b9 a11 ⟨e9, A11, F11⟩ => ?_
  have e9 : b9 = true := e9
  rw [if_pos e9]
  have hQ5 := hV.2.2.2.2.1
  have hqs : WP (fX2_readQuestions a11 g) (fun r => r.1 = true ∧ At T n n r.2 ∧ Fc g t d Q r.2) := quests_s hg hT hV hE hn hEn Q 0 a11 (by omega) A11 F11 fuel (by show Q < 1000000; omega)
  refine wp_bndp hqs fun b13 a15 ⟨e13, A15, F15⟩ => ?_
  have e13 : b13 = true := e13
  have A15 : At T n n a15 := A15
  have F15 : Fc g t d Q a15 := F15
  rw [if_pos e13]
  refine wp_v ?_
  have e7 : gI (sI a15 g 0 1) 26 7 = 0 := by rw [gI_nk (by omega)]; exact A15.2.2
  rw [e7, if_pos rfl]
  obtain ⟨⟨⟨o1, o2⟩, o3, o4, o5, o6⟩, o7⟩ := F15
  have rr : gR (sI a15 g 0 1) = gR σ := o1.trans t1
  have q5 : gR (sI a15 g 0 1) 1 5 = f := by rw [rr]; exact h5
  have q6 : gR (sI a15 g 0 1) 1 6 = g := by rw [rr]; exact h6
  rw [q5, q6]
  refine wp_v (wp_v (wp_v (wp_v ?_)))
  have x15 : gR (sI (flI (sR (sR (sI a15 g 0 1) 1 5 g) 1 6 f) 30 12 0) 58 0 0) 1 5 = g := by
    show gR (sR (sR (sI a15 g 0 1) 1 5 g) 1 6 f) 1 5 = g
    rw [gR_sR, if_neg (by decide), gR_sR, if_pos ⟨rfl, rfl⟩]
  rw [x15]
  have fr : ∀ c k, c ≠ 58 → c ≠ 30 → ¬ (c = g ∧ k = 0) → gI (sI (flI (sR (sR (sI a15 g 0 1) 1 5 g) 1 6 f) 30 12 0) 58 0 0) c k = gI a15 c k := fun c k c1 c2 c3 => by
    rw [gI_ne c1, gI_fl_ne c2]
    show gI (sI a15 g 0 1) c k = _
    rw [gI_nk c3]
  refine ⟨_, rfl, ?_, ⟨x15, ?_, fun c k hc => ?_⟩, fun c k c1 c2 c3 c4 c5 c6 => ?_, fun k hk => ?_, ?_, ?_, ?_, ⟨?_, ?_, ?_, ?_⟩, ?_, ?_, fun p hp => ?_, fun k hk => ?_⟩
  · dsimp only; rw [fr _ _ (by omega) (by omega) (by omega)]; exact o7
  · show gR (sR (sR (sI a15 g 0 1) 1 5 g) 1 6 f) 1 6 = f
    rw [gR_sR, if_pos ⟨rfl, rfl⟩]
  · show gR (sR (sR (sI a15 g 0 1) 1 5 g) 1 6 f) c k = _
    rw [gR_sR, if_neg (by omega), gR_sR, if_neg (by omega), rr]
  · dsimp only
    rw [fr _ _ (by omega) (by omega) (by omega), o2 c k (by omega) c3, t2 c k c1 c2 (by omega), gI_nk c4]
  · dsimp only; rw [gI_ne (by decide), gI_fl hk]
  · dsimp only; rw [gI_eq]
  · dsimp only
    rw [fr _ _ (by omega) (by omega) (by omega), o2 1 1 (by omega) (by omega), t2 1 1 (by omega) (by omega) (by omega), gI_eq]
  · dsimp only
    rw [gI_ne (by omega), gI_fl_ne (by omega)]
    show gI (sI a15 g 0 1) g 0 = 1
    rw [gI_eq]
  · dsimp only; rw [fr _ _ (by omega) (by omega) (by omega)]; exact o3.1
  · dsimp only; rw [fr _ _ (by omega) (by omega) (by omega)]; exact o3.2.1
  · dsimp only; rw [fr _ _ (by omega) (by omega) (by omega)]; exact o3.2.2.1
  · dsimp only; rw [fr _ _ (by omega) (by omega) (by omega)]; exact o3.2.2.2
  · dsimp only; rw [fr _ _ (by omega) (by omega) (by omega)]; exact o7
  · dsimp only; rw [fr _ _ (by omega) (by omega) (by omega)]; exact o4
  · dsimp only; rw [fr _ _ (by omega) (by omega) (by omega), fr _ _ (by omega) (by omega) (by omega), fr _ _ (by omega) (by omega) (by omega), fr _ _ (by omega) (by omega) (by omega), fr _ _ (by omega) (by omega) (by omega)]; exact o5 p hp
  · dsimp only; rw [fr _ _ (by omega) (by omega) (by omega), fr _ _ (by omega) (by omega) (by omega)]; exact o6 k hk
end FORM
