/-! 39: the text that the law writes: its tokens. -/
section TOKENS
variable {T : Nat → Nat} {n s i j o v : Nat} {a σ : SS}
theorem fs_run {P : Nat → Bool} {s : Nat} : ∀ L n, s + L ≤ n → (∀ k, k < L → P (s + k) = true) → (s + L < n → ¬ P (s + L) = true) → fs P (n - s) s = s + L
  | 0, n, h, _, h2 => by
    rcases Nat.lt_or_ge s n with c | c
    · exact fs_f (h2 (by omega))
    · rw [show n - s = 0 by omega]; rfl
  | L + 1, n, h, h1, h2 => by
    rw [fs_t (by omega) (show P s = true from h1 0 (by omega))]
    have ih := fs_run (P := P) (s := s + 1) L n (by omega) (fun k hk => by rw [show s + 1 + k = s + (k + 1) by omega]; exact h1 (k + 1) (by omega)) (fun hlt => by rw [show s + 1 + L = s + (L + 1) by omega]; exact h2 (by omega))
    rw [ih]; omega
/-- the class stands at the token after i -/
def At (T : Nat → Nat) (n i : Nat) (σ : SS) : Prop := i ≤ n ∧ Cs T n (sk T n i) σ ∧ gI σ 26 7 = 0
theorem At.fr {σ' : SS} (h : At T n i σ) (h1 : ∀ k, k ≠ 6 → gI σ' 26 k = gI σ 26 k) (h2 : ∀ k, gI σ' 27 k = gI σ 27 k) : At T n i σ' := by
  obtain ⟨h0, ⟨c1, c2, c3, c4, c5, c6⟩, h7⟩ := h
  exact ⟨h0, ⟨by rw [h1 _ (by omega)]; exact c1, fun j hj => by rw [h2]; exact c2 j hj, by rw [h1 _ (by omega)]; exact c3, by rw [h1 _ (by omega)]; exact c4, by rw [h1 _ (by omega)]; exact c5, fun q => by rw [h1 _ (by omega)]; exact c6 q⟩, by rw [h1 _ (by omega)]; exact h7⟩
theorem adv_at (hT : TT T n) (h : At T n i σ) (he : en T n (sk T n i) = j) : WP (fX2_advance σ) (fun r => At T n j r ∧ gR r = gR σ ∧ ∀ c k, ¬ (c = 26 ∧ 2 ≤ k ∧ k ≤ 5) → gI r c k = gI σ c k) := by
  obtain ⟨h0, ⟨c1, c2, c3, c4, c5, c6⟩, h7⟩ := h
  have hs := sk_le (T := T) h0
  have hen := en_le (T := T) hs.2
  rw [he] at c4 hen
  exact wp_imp (adv7 hT.1 hen.2.1 c1 c2 hT.2 c4) fun r hr => ⟨⟨hen.2.1, hr.2.2, (hr.2.1 _ _ (by omega)).trans h7⟩, hr.1, hr.2.1⟩
/-! what may follow a token -/
def dl (T : Nat → Nat) (j : Nat) : Prop := T j = 32 ∨ T j = 44 ∨ T j = 59
theorem dl_kd (h : dl T j) : kd (T j) = 3 ∨ kd (T j) = 4 ∨ kd (T j) = 5 := by
  unfold dl at h
  have := kd_cases (T j)
  omega
/-- a number as the law writes it -/
def Nm (T : Nat → Nat) (i v j : Nat) : Prop := T i = 32 ∧ ((v ≤ 9 ∧ j = i + 2 ∧ T (i + 1) = 48 + v) ∨ (10 ≤ v ∧ v ≤ 99 ∧ j = i + 3 ∧ T (i + 1) = 48 + v / 10 ∧ T (i + 2) = 48 + v % 10))
theorem kd_dig {c : Nat} (h : 48 ≤ c ∧ c ≤ 57) : kd c = 2 := by have := kd_cases c; omega
theorem kd_let {c : Nat} (h : 97 ≤ c ∧ c ≤ 122) : kd c = 1 := by have := kd_cases c; omega
theorem bl_no {c : Nat} (h : T c ≠ 32) (h' : T c ≠ 10) : ¬ bl T c = true := by
  unfold bl; intro q
  have := of_decide_eq_true q
  omega
theorem sk_no (hi : i ≤ n) (h : i < n → T i ≠ 32 ∧ T i ≠ 10) : sk T n i = i := by
  have := fs_run (P := bl T) (s := i) 0 n (by omega) (fun k hk => absurd hk (Nat.not_lt_zero _)) (fun hl => bl_no (h (by omega)).1 (h (by omega)).2)
  exact this
theorem sk_one (hi : i + 1 < n) (h0 : T i = 32) (h : T (i + 1) ≠ 32 ∧ T (i + 1) ≠ 10) : sk T n i = i + 1 :=
  fs_run (P := bl T) (s := i) 1 n (by omega) (fun k hk => by rw [show i + k = i by omega]; exact decide_eq_true (Or.inl h0)) (fun _ => bl_no h.1 h.2)
theorem en_run {K L : Nat} (hK : K = 1 ∨ K = 2) (hL : 1 ≤ L) (h : s + L < n) (h1 : ∀ k, k < L → kd (T (s + k)) = K) (h2 : dl T (s + L)) : kc T n s = K ∧ en T n s = s + L := by
  have h0 : kd (T s) = K := h1 0 (by omega)
  have hd := dl_kd h2
  unfold kc en
  rw [if_neg (by omega), if_neg (by omega), h0, if_pos hK]
  refine ⟨rfl, fs_run L n (by omega) (fun k hk => decide_eq_true (h1 k hk)) fun _ q => ?_⟩
  have := of_decide_eq_true q
  omega
theorem num_tok (hj : j < n) (h : Nm T i v j) (hd : dl T j) : i + 1 < j ∧ sk T n i = i + 1 ∧ kc T n (i + 1) = 2 ∧ en T n (i + 1) = j ∧ nv T (i + 1) (j - (i + 1)) = v := by
  obtain ⟨h0, ⟨hv, rfl, h1⟩ | ⟨hv, hv2, rfl, h1, h2⟩⟩ := h
  · obtain ⟨e1, e2⟩ := en_run (T := T) (n := n) (s := i + 1) (K := 2) (L := 1) (Or.inr rfl) (by decide) (by omega) (fun k hk => by rw [show i + 1 + k = i + 1 by omega, h1]; exact kd_dig (by omega)) hd
    refine ⟨by omega, sk_one (by omega) h0 (by omega), e1, e2, ?_⟩
    rw [show i + 2 - (i + 1) = 0 + 1 by omega]
    show (if 99 < nv T (i + 1) 0 then 999 else 10 * nv T (i + 1) 0 + (T (i + 1 + 0) - 48)) = v
    rw [show nv T (i + 1) 0 = 0 from rfl, if_neg (by omega), Nat.add_zero, h1]; omega
  · obtain ⟨e1, e2⟩ := en_run (T := T) (n := n) (s := i + 1) (K := 2) (L := 2) (Or.inr rfl) (by decide) (by omega) (fun k hk => by
      rcases (show k = 0 ∨ k = 1 by omega) with rfl | rfl
      · rw [Nat.add_zero, h1]; exact kd_dig (by omega)
      · rw [show i + 1 + 1 = i + 2 from rfl, h2]; exact kd_dig (by omega)) hd
    refine ⟨by omega, sk_one (by omega) h0 (by omega), e1, e2, ?_⟩
    rw [show i + 3 - (i + 1) = 1 + 1 by omega]
    have n1 : nv T (i + 1) 1 = v / 10 := by
      show (if 99 < nv T (i + 1) 0 then 999 else 10 * nv T (i + 1) 0 + (T (i + 1 + 0) - 48)) = v / 10
      rw [show nv T (i + 1) 0 = 0 from rfl, if_neg (by omega), Nat.add_zero, h1]; omega
    show (if 99 < nv T (i + 1) 1 then 999 else 10 * nv T (i + 1) 1 + (T (i + 1 + 1) - 48)) = v
    rw [n1, if_neg (by omega), show i + 1 + 1 = i + 2 from rfl, h2]; omega
/-- a word as the law writes it -/
def wL (o : Nat) : List Nat := [[115, 105, 122, 101], [98, 111, 120], [109, 97, 110, 121], [111, 110, 101], [107, 101, 121], [119, 111, 114, 116, 104]].getD o []
def Wd (T : Nat → Nat) (i o : Nat) : Prop := ∀ k, k < stL.getD o 0 → T (i + k) = (wL o).getD k 0
theorem wL_all : ∀ o, o < 6 → (1 ≤ stL.getD o 0 ∧ stL.getD o 0 ≤ 5) ∧ ∀ k, k < stL.getD o 0 → stCh o k = nI ((wL o).getD k 0) ∧ 97 ≤ (wL o).getD k 0 ∧ (wL o).getD k 0 ≤ 122 := by decide +kernel
theorem word_tok (ho : o < 6) (h : Wd T s o) (hn : s + stL.getD o 0 < n) (hd : dl T (s + stL.getD o 0)) : kc T n s = 1 ∧ en T n s = s + stL.getD o 0 ∧ T s ≠ 32 ∧ T s ≠ 10 := by
  obtain ⟨w1, w2⟩ := wL_all o ho
  obtain ⟨e1, e2⟩ := en_run (T := T) (n := n) (s := s) (K := 1) (L := stL.getD o 0) (Or.inl rfl) w1.1 hn (fun k hk => by rw [h k hk]; exact kd_let (w2 k hk).2) hd
  have h0 := h 0 (by omega)
  rw [Nat.add_zero] at h0
  have := (w2 0 (by omega)).2
  exact ⟨e1, e2, by omega, by omega⟩
/-- is it the word -/
theorem word_y (hT : TT T n) (ho : o < 6) (hs : s + stL.getD o 0 < n) (h : Cs T n s a) (hw : Wd T s o) (hd : dl T (s + stL.getD o 0)) : fX2_isWord a o = some true := by
  obtain ⟨c1, c2, c3, c4, c5, c6⟩ := h
  obtain ⟨e1, e2, -⟩ := word_tok ho hw hs hd
  obtain ⟨w1, w2⟩ := wL_all o ho
  have hn := hT.1
  unfold fX2_isWord
  rw [c5, c4, c3, e1, e2, nI_sub (by omega), if_pos (show nI 1 = (1 : Int32) from rfl), if_pos (by unfold stLen; rw [show s + stL.getD o 0 - s = stL.getD o 0 by omega])]
  obtain ⟨r, r1, r2⟩ := wloop (T := T) (a := a) (o := o) hn c2 c3 (by omega)
  rw [r1, r2.mpr fun k hk => by rw [hw k hk, (w2 k hk).1]]
theorem word_n (hT : TT T n) (ho : o < 6) (hs : s ≤ n) (h : Cs T n s a) (hne : kc T n s = 1 → en T n s - s ≠ stL.getD o 0) : fX2_isWord a o = some false := by
  obtain ⟨c1, c2, c3, c4, c5, c6⟩ := h
  have hn := hT.1
  have hen := en_le (T := T) hs
  have w1 := (wL_all o ho).1
  unfold fX2_isWord
  rw [c5, c4, c3, nI_sub hen.1]
  by_cases e1 : kc T n s = 1
  · rw [if_pos (c := nI (kc T n s) = (1 : Int32)) (show nI (kc T n s) = nI 1 by rw [e1]), if_neg (c := nI (en T n s - s) = stLen o) fun q => hne e1 (nI_injN (a := en T n s - s) (b := stL.getD o 0) (by omega) (by omega) q)]
  · rw [if_neg (c := nI (kc T n s) = (1 : Int32)) fun q => e1 ((kcI (k := 1) (by omega)).mp q)]
/-! taken -/
/-- only the reading cell moves -/
def MvT (σ σ' : SS) : Prop := gR σ' = gR σ ∧ ∀ c k, ¬ (c = 26 ∧ 2 ≤ k ∧ k ≤ 6) → gI σ' c k = gI σ c k
theorem MvT.rf (σ : SS) : MvT σ σ := ⟨rfl, fun _ _ _ => rfl⟩
theorem MvT.tr {a b c : SS} (h : MvT a b) (h' : MvT b c) : MvT a c := ⟨h'.1.trans h.1, fun q k hq => (h'.2 q k hq).trans (h.2 q k hq)⟩
theorem takeWord_s (hT : TT T n) (ho : o < 6) (h : At T n i σ) (hw : Wd T i o) (hn : i + stL.getD o 0 < n) (hd : dl T (i + stL.getD o 0)) : WP (fX2_takeWord σ o) (fun r => r.1 = true ∧ At T n (i + stL.getD o 0) r.2 ∧ MvT σ r.2) := by
  obtain ⟨e1, e2, e3, e4⟩ := word_tok ho hw hn hd
  have es : sk T n i = i := sk_no h.1 fun _ => ⟨e3, e4⟩
  have hc := h.2.1
  rw [es] at hc
  unfold fX2_takeWord
  rw [bnd1_of _ (word_y hT ho hn hc hw hd), if_pos rfl]
  refine wp_bnd1 (adv_at hT h (by rw [es]; exact e2)) fun r hr => ⟨_, rfl, rfl, hr.1, hr.2.1, fun c k hk => hr.2.2 c k (by omega)⟩
theorem isNumber_s {lo hi : Int32} (h : At T n i σ) (hv : v ≤ 99) (hj : j < n) (hm : Nm T i v j) (hd : dl T j) (hlo : lo ≤ nI v) (hhi : nI v ≤ hi) : fX2_isNumber σ lo hi = some (true, σ) ∧ gI σ 26 5 = nI v := by
  obtain ⟨t1, t2, t3, t4, t5⟩ := num_tok hj hm hd
  obtain ⟨h0, ⟨c1, c2, c3, c4, c5, c6⟩, h7⟩ := h
  rw [t2] at c3 c4 c5 c6
  have e5 : gI σ 26 5 = nI v := by rw [c6 t3, t4, t5]
  refine ⟨?_, e5⟩
  unfold fX2_isNumber
  rw [c5, t3, if_pos (show nI 2 = (2 : Int32) from rfl), vthen_q, vthen_q, e5, if_neg (Int32.not_lt.mpr hlo), if_pos hhi]
theorem takeNumber_s {lo hi : Int32} (hT : TT T n) (h : At T n i σ) (hv : v ≤ 99) (hj : j < n) (hm : Nm T i v j) (hd : dl T j) (hlo : lo ≤ nI v) (hhi : nI v ≤ hi) : WP (fX2_takeNumber σ lo hi) (fun r => r.1 = true ∧ gI r.2 26 6 = nI v ∧ At T n j r.2 ∧ MvT σ r.2) := by
  obtain ⟨t1, t2, t3, t4, t5⟩ := num_tok hj hm hd
  obtain ⟨q1, q2⟩ := isNumber_s h hv hj hm hd hlo hhi
  unfold fX2_takeNumber
  rw [bnd_of _ q1, if_pos rfl, q2]
  refine wp_v ?_
  have h' : At T n i (sI σ 26 6 (nI v)) := h.fr (fun k hk => gI_nk (by omega)) (fun k => gI_nk (by omega))
  have e6 : gI (sI σ 26 6 (nI v)) 26 6 = nI v := gI_eq _ _ _ _
  refine wp_bnd1 (adv_at hT h' (by rw [t2]; exact t4)) fun r hr => ⟨_, rfl, rfl, (hr.2.2 _ _ (by omega)).trans e6, hr.1, hr.2.1, fun c k hk => (hr.2.2 c k (by omega)).trans (gI_nk (by omega))⟩
theorem takeSign_s {K : Nat} (hT : TT T n) (h : At T n i σ) (hK : K = 3 ∨ K = 4) (hi : i < n) (hc : kd (T i) = K) : sk T n i = i ∧ kc T n i = K ∧ gI σ 26 4 = nI K ∧ WP (fX2_advance σ) (fun r => At T n (i + 1) r ∧ MvT σ r) ∧ WP (fX2_takeSign σ (nI K)) (fun r => r.1 = true ∧ At T n (i + 1) r.2 ∧ MvT σ r.2) := by
  have hk := kd_cases (T i)
  have es : sk T n i = i := sk_no h.1 fun _ => ⟨by omega, by omega⟩
  have ek : kc T n i = K := by unfold kc; rw [if_neg (by omega)]; exact hc
  have ee : en T n i = i + 1 := by unfold en; rw [if_neg (by omega), hc, if_neg (by omega)]
  have e4 : gI σ 26 4 = nI K := by rw [h.2.1.2.2.2.2.1, es, ek]
  have ad : WP (fX2_advance σ) (fun r => At T n (i + 1) r ∧ MvT σ r) := wp_imp (adv_at hT h (by rw [es]; exact ee)) fun r hr => ⟨hr.1, hr.2.1, fun c k hq => hr.2.2 c k (by omega)⟩
  refine ⟨es, ek, e4, ad, ?_⟩
  unfold fX2_takeSign
  rw [e4, if_pos rfl]
  exact wp_bnd1 ad fun r hr => ⟨_, rfl, rfl, hr⟩
end TOKENS
