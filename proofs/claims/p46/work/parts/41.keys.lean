/-! 41: the text that the law writes: key and worth read. -/
theorem kmod : ∀ K, K < 32 → ∀ b, b < 5 → (K % 2 ^ (b + 1) = if K.testBit b = true then (K % 2 ^ b) ||| 2 ^ b else K % 2 ^ b) ∧ ¬ (K % 2 ^ b).testBit b = true ∧ K % 2 ^ b < 64 := by decide +kernel
theorem kmod0 : ∀ n, n ≤ 5 → ∀ K, K < 2 ^ n → K % 2 ^ n = K := by intro n _ K h; exact Nat.mod_eq_of_lt h
section KEYS
variable {T : Nat → Nat} {n g q i k w j b e Q t : Nat} {d : Nat → Nat → Nat} {a0 a a' σ : SS}
theorem letter_y (hT : TT T n) (h : At T n i σ) (hb : b < 6) (h1 : T i = 32) (h2 : T (i + 1) = 97 + b) (hn : i + 2 < n) (hd : dl T (i + 2)) : fX2_isLetter σ = some true ∧ gI σ 26 2 = nI (i + 1) ∧ gI σ 27 (i + 1) = nI (97 + b) ∧ en T n (sk T n i) = i + 2 := by
  have hs : sk T n i = i + 1 := sk_one (by omega) h1 (by omega)
  obtain ⟨e1, e2⟩ := en_run (T := T) (n := n) (s := i + 1) (K := 1) (L := 1) (Or.inl rfl) (by decide) (by omega) (fun k hk => by rw [show i + 1 + k = i + 1 by omega, h2]; exact kd_let (by omega)) hd
  obtain ⟨h0, ⟨c1, c2, c3, c4, c5, c6⟩, h7⟩ := h
  have hn4 := hT.1
  rw [hs] at c3 c4 c5
  rw [e2] at c4
  rw [e1] at c5
  have e27 := c2 (i + 1) (by omega)
  rw [h2] at e27
  refine ⟨?_, c3, e27, by rw [hs]; exact e2⟩
  unfold fX2_isLetter
  rw [c5, c4, c3, nI_sub (by omega), vthen_q, if_pos (show nI 1 = (1 : Int32) from rfl), show i + 1 + 1 - (i + 1) = 1 by omega, if_pos (show nI 1 = (1 : Int32) from rfl), nI_clamp (by omega), e27, grd_eq _ (inb_nI (by omega) (by decide)), if_neg (by rw [show (102 : Int32) = nI 102 from rfl, ltnN (by omega) (by omega)]; omega)]
theorem letter_n (hT : TT T n) (hs : i ≤ n) (h : Cs T n i σ) (hk : kc T n i = 1) (hne : en T n i - i ≠ 1) : fX2_isLetter σ = some false := by
  obtain ⟨c1, c2, c3, c4, c5, c6⟩ := h
  have hn := hT.1
  have hen := en_le (T := T) hs
  unfold fX2_isLetter
  rw [c5, hk, c4, c3, nI_sub hen.1, vthen_q, if_pos (show nI 1 = (1 : Int32) from rfl), if_neg (c := nI (en T n i - i) = (1 : Int32)) (fun z => hne (nI_injN (a := en T n i - i) (b := 1) (by omega) (by omega) z))]
/-- the letters of a key as the law writes them -/
def Kys (T : Nat → Nat) (K m : Nat) (R : Nat → Nat) : Prop := ∀ b, b < m → (K.testBit b = true ∧ T (R b) = 32 ∧ T (R b + 1) = 97 + b ∧ R (b + 1) = R b + 2) ∨ (¬ K.testBit b = true ∧ R (b + 1) = R b)
theorem kys_32 {K m : Nat} {R : Nat → Nat} (h : Kys T K m R) (he : T (R m) = 32) : ∀ c b, b + c = m → T (R b) = 32
  | 0, b, hb => by rw [show b = m by omega]; exact he
  | c + 1, b, hb => by
    rcases h b (by omega) with ⟨-, h2, -⟩ | ⟨-, h2⟩
    · exact h2
    · rw [← h2]; exact kys_32 h he c (b + 1) (by omega)
theorem kys_le {K m : Nat} {R : Nat → Nat} (h : Kys T K m R) : ∀ c b, b + c = m → R b ≤ R m
  | 0, b, hb => by rw [show b = m by omega]; exact Nat.le_refl _
  | c + 1, b, hb => by
    have ih := kys_le h c (b + 1) (by omega)
    rcases h b (by omega) with ⟨-, -, -, h2⟩ | ⟨-, h2⟩ <;> omega
/-- the next is the word of the worth -/
def Wth (T : Nat → Nat) (n e : Nat) : Prop := T e = 32 ∧ Wd T (e + 1) 5 ∧ e + 6 < n ∧ dl T (e + 6)
theorem wth_tok (h : Wth T n e) : sk T n e = e + 1 ∧ kc T n (e + 1) = 1 ∧ en T n (e + 1) = e + 6 := by
  obtain ⟨h1, h2, h3, h4⟩ := h
  obtain ⟨w1, w2, w3, w4⟩ := word_tok (T := T) (n := n) (s := e + 1) (o := 5) (by decide) h2 h3 h4
  exact ⟨sk_one (by omega) h1 ⟨w3, w4⟩, w1, w2⟩
theorem Fk.cell {v : Int32} (hj : j = 4 ∨ j = 5) (h : Fk g a0 d q t a) : Fk g a0 d q t (sI a (g + j) q v) := by
  obtain ⟨⟨h1, h2⟩, h3, h4, h5, h6⟩ := h
  refine ⟨⟨h1, fun c k hc hc2 => ?_⟩, ⟨?_, ?_, ?_, ?_⟩, ?_, fun p hp => ?_, fun k hk => ?_⟩
  · rw [gI_nk (by omega)]; exact h2 c k hc hc2
  · rw [gI_nk (by omega)]; exact h3.1
  · rw [gI_nk (by omega)]; exact h3.2.1
  · rw [gI_nk (by omega)]; exact h3.2.2.1
  · rw [gI_nk (by omega)]; exact h3.2.2.2
  · rw [gI_nk (by omega)]; exact h4
  · rw [gI_nk (by omega), gI_nk (by omega), gI_nk (by omega), gI_nk (by omega), gI_nk (by omega)]; exact h5 p hp
  · rw [gI_nk (by omega), gI_nk (by omega)]; exact h6 k hk
theorem Fo.key {k' : Nat} (h : Fo g a0 d q i k w a) : Fo g a0 d q i k' w (sI a (g + 4) q (nI k')) := by
  obtain ⟨h1, h2, h3, h4, h5, h6, h7⟩ := h
  exact ⟨h1.cell (Or.inl rfl), by rw [gI_nk (by omega)]; exact h2, by rw [gI_nk (by omega)]; exact h3, by rw [gI_nk (by omega)]; exact h4, by rw [gI_nk (by omega)]; exact h5, gI_eq _ _ _ _, by rw [gI_nk (by omega)]; exact h7⟩
theorem Fo.worth {w' : Nat} (h : Fo g a0 d q i k w a) : Fo g a0 d q i k w' (sI a (g + 5) q (nI w')) := by
  obtain ⟨h1, h2, h3, h4, h5, h6, h7⟩ := h
  exact ⟨h1.cell (Or.inr rfl), by rw [gI_nk (by omega)]; exact h2, by rw [gI_nk (by omega)]; exact h3, by rw [gI_nk (by omega)]; exact h4, by rw [gI_nk (by omega)]; exact h5, by rw [gI_nk (by omega)]; exact h6, gI_eq _ _ _ _⟩
theorem At.cell {c m : Nat} {v : Int32} (hc : c < 26) (h : At T n i a) : At T n i (sI a c m v) := h.fr (fun k _ => gI_nk (by omega)) (fun k => gI_nk (by omega))
/-- the letters are read -/
theorem kloop_s {R : Nat → Nat} {K N : Nat} (hg : g = 10 ∨ g = 18) (hT : TT T n) (hq : q < 5) (hN : N ≤ 5) (hK : K < 2 ^ N) (hK0 : K ≠ 0) (hR : Kys T K N R) (hW : Wth T n (R N)) : ∀ m b v a, b + m = N → v ≤ b → (v = 0 → K % 2 ^ b = 0) → At T n (R b) a → Fo g a0 d q N (K % 2 ^ b) 1 a → ∀ F, m < F → WP (X2_readKey_L17 g (nI q) F (nI v) a) (fun r => r.1 = true ∧ At T n (R N) r.2 ∧ Fo g a0 d q N K 1 r.2) := by
  have hK32 : K < 32 := Nat.lt_of_lt_of_le hK (Nat.pow_le_pow_right (by decide) hN)
  obtain ⟨w1, w2, w3⟩ := wth_tok hW
  intro m
  induction m with
  | zero =>
    intro b v a hb hv hv0 hA hF F hFm
    obtain ⟨F', rfl⟩ : ∃ F', F = F' + 1 := ⟨F - 1, by omega⟩
    have eb : b = N := by omega
    subst eb
    rw [kmod0 b hN K hK] at hv0 hF
    have hc := hA.2.1
    rw [w1] at hc
    have hWn := hW.2.2.1
    rw [rk_s, if_neg (by rw [show (6 : Int32) = nI 6 from rfl, ltnN (by omega) (by omega)]; omega), bnd1_of _ (letter_n hT (by omega) hc w2 (by omega)), if_neg (by decide)]
    refine wp_v ?_
    rw [if_pos (by rw [show (0 : Int32) = nI 0 from rfl, ltnN (by omega) (by omega)]; omega)]
    exact ⟨_, rfl, rfl, hA, hF⟩
  | succ m ih =>
    intro b v a hb hv hv0 hA hF F hFm
    obtain ⟨F', rfl⟩ : ∃ F', F = F' + 1 := ⟨F - 1, by omega⟩
    obtain ⟨km1, km2, km3⟩ := kmod K hK32 b (by omega)
    rcases hR b (by omega) with ⟨h1, h2, h3, h4⟩ | ⟨h1, h2⟩
    · have hle := kys_le hR m (b + 1) (by omega)
      have h32 := kys_32 hR hW.1 m (b + 1) (by omega)
      have hWn := hW.2.2.1
      rw [h4] at h32
      obtain ⟨l1, l2, l3, l4⟩ := letter_y hT hA (show b < 6 by omega) h2 h3 (by omega) (Or.inl h32)
      obtain ⟨f1, f2, f3, f4, f5, f6, f7⟩ := id hF
      obtain ⟨o1, o2⟩ := bit_or (K % 2 ^ b) km3 b (by omega)
      have hTn := hT.1
      rw [rk_s, if_neg (by rw [show (6 : Int32) = nI 6 from rfl, ltnN (by omega) (by omega)]; omega), bnd1_of _ l1, if_pos rfl, l2, nI_clamp (show R b + 1 < 2 ^ 31 by omega), nI_clamp (show q < 2 ^ 31 by omega), l3, show nI (97 + b) - (97 : Int32) = nI (97 + b - 97) from nI_sub (b := 97) (by omega), show 97 + b - 97 = b by omega, f5, f6]
      refine wp_grd (inb_nI (by omega) (by decide)) (wp_v (wp_grd (inb_nI (by omega) (by decide)) (wp_v ?_)))
      rw [if_neg (by rw [lenN (by omega) (by omega)]; omega), if_neg (fun z => km2 ((bit_has _ km3 b (by omega)).mp z)), o1]
      refine wp_v ?_
      have A' : At T n (R b) (sI a (g + 4) q (nI (K % 2 ^ b ||| 2 ^ b))) := hA.cell (by omega)
      have F'' : Fo g a0 d q N (K % 2 ^ b ||| 2 ^ b) 1 (sI a (g + 4) q (nI (K % 2 ^ b ||| 2 ^ b))) := hF.key
      refine wp_bnd1 (adv_at (j := R b + 2) hT A' l4) fun a16 ⟨A16, r16, f16⟩ => ?_
      rw [nI_1]
      rw [if_pos h1] at km1
      refine ih (b + 1) (v + 1) a16 (by omega) (by omega) (fun z => by omega) (by rw [h4]; exact A16) (by rw [km1]; exact F''.mv (by omega) ⟨r16, fun c k hk => f16 c k (by omega)⟩) F' (by omega)
    · rw [if_neg h1] at km1
      exact ih (b + 1) v a (by omega) (by omega) (fun z => by rw [km1]; exact hv0 z) (by rw [h2]; exact hA) (by rw [km1]; exact hF) (F' + 1) (by omega)
theorem readKey_s {R : Nat → Nat} {K N p e : Nat} (hg : g = 10 ∨ g = 18) (hT : TT T n) (hq : q < 5) (hN : N ≤ 5) (hK : K < 2 ^ N) (hW : Wth T n e) (hR : (K = 0 ∧ e = p) ∨ (K ≠ 0 ∧ T p = 32 ∧ Wd T (p + 1) 4 ∧ R 0 = p + 4 ∧ Kys T K N R ∧ e = R N)) (hA : At T n p a) (hF : Fo g a0 d q N 0 1 a) : WP (fX2_readKey a g (nI q)) (fun r => r.1 = true ∧ At T n e r.2 ∧ Fo g a0 d q N K 1 r.2) := by
  have hWn := hW.2.2.1
  unfold fX2_readKey
  rcases hR with ⟨rfl, rfl⟩ | ⟨h0, h1, h2, h3, h4, rfl⟩
  · obtain ⟨w1, w2, w3⟩ := wth_tok hW
    have hc := hA.2.1
    rw [w1] at hc
    rw [bnd1_of _ (word_n (o := 4) hT (by decide) (by omega) hc (fun _ => by rw [w3, show stL.getD 4 0 = 3 from rfl]; omega)), if_neg (by decide)]
    exact ⟨_, rfl, rfl, hA, hF⟩
  · have hle := kys_le h4 N 0 (by omega)
    have h32 := kys_32 h4 hW.1 N 0 (by omega)
    have hd : dl T (p + 1 + stL.getD 4 0) := by rw [show p + 1 + stL.getD 4 0 = R 0 by rw [h3]; rfl]; exact Or.inl h32
    have hl : p + 1 + stL.getD 4 0 < n := by rw [show stL.getD 4 0 = 3 from rfl]; omega
    obtain ⟨w1, w2, w3, w4⟩ := word_tok (o := 4) (by decide) h2 hl hd
    have hs : sk T n p = p + 1 := sk_one (by omega) h1 ⟨w3, w4⟩
    have hc := hA.2.1
    rw [hs] at hc
    rw [bnd1_of _ (word_y (o := 4) hT (by decide) hl hc h2 hd), if_pos rfl]
    refine wp_bnd1 (adv_at (j := R 0) hT hA (by rw [hs, w2, h3]; rfl)) fun a4 ⟨A4, r4, f4⟩ => ?_
    exact kloop_s hg hT hq hN hK h0 h4 hW N 0 0 a4 (by omega) (by omega) (fun _ => by rw [Nat.pow_zero, Nat.mod_one]) A4 (by rw [Nat.pow_zero, Nat.mod_one]; exact hF.mv (by omega) ⟨r4, fun c k hk => f4 c k (by omega)⟩) fuel (by show N < 1000000; omega)
theorem readWorth_s {W N K e e4 : Nat} (hg : g = 10 ∨ g = 18) (hT : TT T n) (hq : q < 5) (hW : Wth T n e) (hw : W ≤ 9) (hm : Nm T (e + 6) W e4) (h59 : T e4 = 59) (he : e4 < n) (hA : At T n e a) (hF : Fo g a0 d q N K 1 a) : WP (fX2_readWorth a g (nI q)) (fun r => r.1 = true ∧ At T n e4 r.2 ∧ Fo g a0 d q N K W r.2) := by
  obtain ⟨w1, w2, w3⟩ := wth_tok hW
  have hc := hA.2.1
  rw [w1] at hc
  unfold fX2_readWorth
  rw [bnd1_of _ (word_y (o := 5) hT (by decide) hW.2.2.1 hc hW.2.1 hW.2.2.2), if_pos rfl]
  refine wp_bnd1 (adv_at (j := e + 6) hT hA (by rw [w1]; exact w3)) fun a4 ⟨A4, r4, f4⟩ => ?_
  have F4 := hF.mv (by omega) ⟨r4, fun c k hk => f4 c k (by omega)⟩
  refine wp_bndp (takeNumber_s (lo := 0) (hi := 99) hT A4 (by omega) he hm (Or.inr (Or.inr h59)) (by rw [show (0 : Int32) = nI 0 from rfl, lenN (by omega) (by omega)]; omega) (by rw [show (99 : Int32) = nI 99 from rfl, lenN (by omega) (by omega)]; omega)) fun b6 a8 ⟨e6, v6, A8, M8⟩ => ?_
  have e6 : b6 = true := e6
  have v6 : gI a8 26 6 = nI W := v6
  have A8 : At T n e4 a8 := A8
  have F8 : Fo g a0 d q N K 1 a8 := F4.mv (by omega) M8
  rw [if_pos e6, nI_clamp (by omega), v6]
  refine wp_grd (inb_nI (by omega) (by decide)) (wp_v ⟨_, rfl, rfl, A8.cell (by omega), F8.worth⟩)
end KEYS
