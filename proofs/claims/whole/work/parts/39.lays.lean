/-! The reference's blobs. -/
def M8 (σg : SS) (b0 : Nat) (L : Nat → Nat) (n : Nat) (σ' : SS) : Prop := gR σ' = gR σg ∧ gI σ' 73 44 = nI n ∧ (∀ j, j < n → gI σ' 93 j = nI (L j)) ∧ (∀ k, k < 1600 → (mem L n k → gI σ' 92 k = nI b0) ∧ (¬ mem L n k → gI σ' 92 k = gI σg 92 k)) ∧ ∀ c k, c ≠ 92 → c ≠ 93 → ¬ (c = 73 ∧ k = 44) → ¬ (94 ≤ c ∧ c ≤ 101 ∧ k = b0) → gI σ' c k = gI σg c k
theorem ls_agree {L L' f : Nat → Nat} : ∀ n, (∀ j, j < n → L' j = L j) → ls L' f n = ls L f n
  | 0, _ => rfl
  | n + 1, h => by
    show ls L' f n + f (L' n) = ls L f n + f (L n)
    rw [ls_agree n fun j hj => h j (by omega), h n (by omega)]
theorem mnL_agree {L L' f : Nat → Nat} {i0 n : Nat} (h : ∀ j, j < n → L' j = L j) : mnL L' f i0 n = mnL L f i0 n := itr_congr fun j hj s => by rw [h j hj]
theorem mxL_agree {L L' f : Nat → Nat} {i0 n : Nat} (h : ∀ j, j < n → L' j = L j) : mxL L' f i0 n = mxL L f i0 n := itr_congr fun j hj s => by rw [h j hj]
theorem nI_m1 {n : Nat} (h : n < 2 ^ 31) : ¬ nI n = -1 := fun e => by
  have := congrArg Int32.toInt e
  rw [nI_toInt h] at this
  have h2 : (-1 : Int32).toInt = -1 := rfl
  omega
section LAYS
variable {σg : SS} {w q st b0 : Nat} {ink S : Nat → Prop}
theorem meet8 {σ' : SS} {L : Nat → Nat} {n x y : Nat} (hw : 1 ≤ w ∧ w ≤ 40) (hq : 1 ≤ q ∧ q ≤ 40) (e3 : gI σg 73 29 = nI w) (e4 : gI σg 73 30 = nI q) (e43 : gI σg 73 43 = nI b0) (hb0 : b0 < 801) (hS : ∀ k, k < w * q → (gI σg 92 k = -1 ↔ ¬ S k)) (hink : ∀ k, k < w * q → (gI σg 83 k < gI σg 88 0 ↔ ¬ ink k)) (hm : M8 σg b0 L n σ') (hx : x < w) (hy : y < q) (hn : n ≤ 1600) (hr : ink (y * w + x) ∧ ¬ S (y * w + x) ∧ ¬ mem L n (y * w + x) → n < 1600) : ∃ L' n' σ'', fX8_meets σ' (nI x) (nI y) = some σ'' ∧ Tr ink S (y * w + x) L n L' n' ∧ M8 σg b0 L' n' σ'' ∧ ∀ c k, c ≠ 92 → c ≠ 93 → ¬ (c = 73 ∧ k = 44) → gI σ'' c k = gI σ' c k := by
  have hN := area_le hw.2 hq.2
  have hb := cell_lt hx hy
  obtain ⟨m1, m2, m3, m4, m5⟩ := hm
  have c3 : gI σ' 73 29 = nI w := (m5 _ _ (by omega) (by omega) (by omega) (by omega)).trans e3
  have c4 : gI σ' 73 30 = nI q := (m5 _ _ (by omega) (by omega) (by omega) (by omega)).trans e4
  have c43 : gI σ' 73 43 = nI b0 := (m5 _ _ (by omega) (by omega) (by omega) (by omega)).trans e43
  have cd := isDot_eq (σ := σ') c3 c4 hw.1 hq.1 hw.2 hq.2 (nI x) (nI y)
  rw [nI_toInt (by omega), nI_toInt (by omega)] at cd
  unfold fX8_meets
  simp only [vthen_q]
  rw [if_pos (by rw [cd]; omega), c3, ix_m, grd_eq _ (inb_nI (by omega) (by omega)), nI_clamp (by omega), m5 83 _ (by omega) (by omega) (by omega) (by omega), m5 88 _ (by omega) (by omega) (by omega) (by omega)]
  by_cases ci : ink (y * w + x)
  · rw [if_neg fun h => (hink _ hb).mp h ci]
    by_cases cs : S (y * w + x) ∨ mem L n (y * w + x)
    · have c92 : ¬ gI σ' 92 (y * w + x) = -1 := by
        by_cases cm : mem L n (y * w + x)
        · rw [(m4 _ (by omega)).1 cm]; exact nI_m1 (by omega)
        · rw [(m4 _ (by omega)).2 cm]; exact fun h => (hS _ hb).mp h (cs.resolve_right cm)
      rw [if_neg c92]
      exact ⟨L, n, σ', rfl, Or.inr ⟨fun h => cs.elim h.2.1 h.2.2, rfl, rfl⟩, ⟨m1, m2, m3, m4, m5⟩, fun _ _ _ _ _ => rfl⟩
    · have cm : ¬ mem L n (y * w + x) := fun h => cs (Or.inr h)
      have c92 : gI σ' 92 (y * w + x) = -1 := by rw [(m4 _ (by omega)).2 cm]; exact (hS _ hb).mpr fun h => cs (Or.inl h)
      have hn2 := hr ⟨ci, fun h => cs (Or.inl h), cm⟩
      rw [if_pos c92, c43, gI_ne (c' := 73) (by omega), m2, grd_eq _ (inb_nI hn2 (by decide)), nI_clamp (by omega), gI_ne (c' := 73) (by omega), c3, ix_m, gI_ne (c' := 73) (by omega), m2, nI_1]
      refine ⟨_, n + 1, _, rfl, Or.inl ⟨⟨ci, fun h => cs (Or.inl h), cm⟩, rfl, rfl⟩, ⟨m1, gI_eq _ _ _ _, fun j hj => ?_, fun k hk => ?_, fun c k h1 h2 h3 h4 => ?_⟩, fun c k h1 h2 h3 => ?_⟩
      · rw [gI_ne (by omega)]
        dsimp only
        by_cases e : j = n
        · subst e; rw [gI_eq, if_pos rfl]
        · rw [gI_nk (by omega), gI_ne (by omega), if_neg e]; exact m3 j (by omega)
      · rw [gI_ne (by omega), gI_ne (by omega)]
        have hk2 : mem (fun j => if j = n then y * w + x else L j) (n + 1) k ↔ mem L n k ∨ k = y * w + x := by
          constructor
          · rintro ⟨j, k1, k2⟩
            dsimp only at k2
            by_cases e : j = n
            · rw [if_pos e] at k2; exact Or.inr k2.symm
            · rw [if_neg e] at k2; exact Or.inl ⟨j, by omega, k2⟩
          · rintro (⟨j, k1, k2⟩ | rfl)
            · exact ⟨j, by omega, by dsimp only; rw [if_neg (by omega)]; exact k2⟩
            · exact ⟨n, by omega, if_pos rfl⟩
        rw [hk2]
        by_cases e : k = y * w + x
        · subst e; rw [gI_eq]; exact ⟨fun _ => rfl, fun h => absurd (Or.inr rfl) h⟩
        · rw [gI_nk (by omega)]
          exact ⟨fun h => (m4 k hk).1 (h.resolve_right e), fun h => (m4 k hk).2 fun h2 => h (Or.inl h2)⟩
      · rw [gI_nk (by omega), gI_ne h2, gI_ne h1]; exact m5 c k h1 h2 h3 h4
      · rw [gI_nk (by omega), gI_ne h2, gI_ne h1]
  · rw [if_pos ((hink _ hb).mpr ci)]
    exact ⟨L, n, σ', rfl, Or.inr ⟨fun h => ci h.1, rfl, rfl⟩, ⟨m1, m2, m3, m4, m5⟩, fun _ _ _ _ _ => rfl⟩
/-- a stage of one dot's four -/
def S8 (σg s0 : SS) (b0 w q : Nat) (ink S : Nat → Prop) (st : Nat) (L0 : Nat → Nat) (n0 : Nat) (C : Nat → Prop) (σ' : SS) : Prop := ∃ L n, M8 σg b0 L n σ' ∧ Bf w q ink S st L n C ∧ n0 ≤ n ∧ (∀ j, j < n0 → L j = L0 j) ∧ ∀ c k, c ≠ 92 → c ≠ 93 → ¬ (c = 73 ∧ k = 44) → gI σ' c k = gI s0 c k
theorem S8.imp {s0 : SS} {L0 : Nat → Nat} {n0 : Nat} {C C' : Nat → Prop} {σ' : SS} (h : S8 σg s0 b0 w q ink S st L0 n0 C σ') (hC : ∀ b, C' b → C b) : S8 σg s0 b0 w q ink S st L0 n0 C' σ' := by
  obtain ⟨L, n, h1, h2, h3⟩ := h
  exact ⟨L, n, h1, h2.imp hC, h3⟩
theorem S8.try {s0 : SS} {L0 : Nat → Nat} {n0 g x y : Nat} {C : Nat → Prop} {σ' : SS} (h : S8 σg s0 b0 w q ink S st L0 n0 C σ') (hw : 1 ≤ w ∧ w ≤ 40) (hq : 1 ≤ q ∧ q ≤ 40) (e3 : gI σg 73 29 = nI w) (e4 : gI σg 73 30 = nI q) (e43 : gI σg 73 43 = nI b0) (hb0 : b0 < 801) (hS : ∀ k, k < w * q → (gI σg 92 k = -1 ↔ ¬ S k)) (hink : ∀ k, k < w * q → (gI σg 83 k < gI σg 88 0 ↔ ¬ ink k)) (hg : g < n0) (hx : x < w) (hy : y < q) (hb : nbr w q (L0 g) (y * w + x)) : WP (fX8_meets σ' (nI x) (nI y)) (S8 σg s0 b0 w q ink S st L0 n0 fun k => C k ∨ k = y * w + x) := by
  obtain ⟨L, n, h2, h3, h4, h5, h6⟩ := h
  have hN := area_le hw.2 hq.2
  have hb' : nbr w q (L g) (y * w + x) := by rw [h5 g hg]; exact hb
  have hle := h3.le
  obtain ⟨L', n', σ'', e, ht, hm, hf⟩ := meet8 hw hq e3 e4 e43 hb0 hS hink h2 hx hy (by omega) fun hn => by have := h3.room (by omega) hb' hn; omega
  obtain ⟨t1, t2, -⟩ := ht.keep
  exact ⟨_, e, L', n', hm, h3.try (by omega) hb' ht, by omega, fun j hj => (t2 j (by omega)).trans (h5 j hj), fun c k c1 c2 c3 => (hf c k c1 c2 c3).trans (h6 c k c1 c2 c3)⟩
theorem S8.out {s0 : SS} {L0 : Nat → Nat} {n0 : Nat} {C : Nat → Prop} {σ' : SS} {x y : Int32} (h : S8 σg s0 b0 w q ink S st L0 n0 C σ') (hw : 1 ≤ w ∧ w ≤ 40) (hq : 1 ≤ q ∧ q ≤ 40) (e3 : gI σg 73 29 = nI w) (e4 : gI σg 73 30 = nI q) (hxy : ¬ ((0 ≤ x.toInt ∧ x.toInt < w) ∧ 0 ≤ y.toInt ∧ y.toInt < q)) : WP (fX8_meets σ' x y) (S8 σg s0 b0 w q ink S st L0 n0 C) := by
  obtain ⟨L, n, h2, h3⟩ := id h
  have c3 : gI σ' 73 29 = nI w := (h2.2.2.2.2 _ _ (by omega) (by omega) (by omega) (by omega)).trans e3
  have c4 : gI σ' 73 30 = nI q := (h2.2.2.2.2 _ _ (by omega) (by omega) (by omega) (by omega)).trans e4
  unfold fX8_meets
  rw [if_neg (by rw [isDot_eq (σ := σ') c3 c4 hw.1 hq.1 hw.2 hq.2]; exact hxy)]
  exact wp_some h
def A8 (w : Nat) (b : Nat) (L : Nat → Nat) (n : Nat) (r : SS) : Prop := gI r 95 b = nI (ls L (fun k => k % w) n) ∧ gI r 96 b = nI (ls L (fun k => k / w) n) ∧ gI r 98 b = nI (mnL L (fun k => k % w) 40 n) ∧ gI r 99 b = nI (mxL L (fun k => k % w) 0 n) ∧ gI r 100 b = nI (mnL L (fun k => k / w) 40 n) ∧ gI r 101 b = nI (mxL L (fun k => k / w) 0 n)
theorem A8.agree {b n : Nat} {L L' : Nat → Nat} {r r' : SS} (h : A8 w b L n r) (hL : ∀ j, j < n → L' j = L j) (hf : ∀ c, 95 ≤ c → c ≤ 101 → gI r' c b = gI r c b) : A8 w b L' n r' := by
  unfold A8 at *
  rw [hf 95 (by omega) (by omega), hf 96 (by omega) (by omega), hf 98 (by omega) (by omega), hf 99 (by omega) (by omega), hf 100 (by omega) (by omega), hf 101 (by omega) (by omega), ls_agree n hL, ls_agree n hL, mnL_agree hL, mnL_agree hL, mxL_agree hL, mxL_agree hL]
  exact h
theorem blob8 (hw : 1 ≤ w ∧ w ≤ 40) (hq : 1 ≤ q ∧ q ≤ 40) (e3 : gI σg 73 29 = nI w) (e4 : gI σg 73 30 = nI q) (e43 : gI σg 73 43 = nI b0) (hb0 : b0 < 801) (hS : ∀ k, k < w * q → (gI σg 92 k = -1 ↔ ¬ S k)) (hink : ∀ k, k < w * q → (gI σg 83 k < gI σg 88 0 ↔ ¬ ink k)) (hst : st < w * q) (hnew : ink st ∧ ¬ S st) : WP (fX8_laysBlob σg (nI st)) (fun r => ∃ L n, M8 σg b0 L n r ∧ Bf w q ink S st L n (Bn w q L n) ∧ gI r 94 b0 = nI n ∧ gI r 97 b0 = nI st ∧ A8 w b0 L n r) := by
  have hN := area_le hw.2 hq.2
  unfold fX8_laysBlob
  rw [e43]
  refine wp_vv ?_; rintro _ rfl
  rw [nI_clamp (by omega)]
  refine wp_grd (inb_nI hb0 (by decide)) ?_
  refine wp_vv ?_; intro σ3 h3
  refine wp_vv ?_; intro σ4 h4
  refine wp_vv ?_; intro σ5 h5
  refine wp_vv ?_; intro σ6 h6
  refine wp_vv ?_; intro σ7 h7
  refine wp_vv ?_; intro σ8 h8
  refine wp_vv ?_; intro σ9 h9
  refine wp_vv ?_; intro σ10 h10
  refine wp_vv ?_; intro σ11 h11
  have aF : ∀ c k, ¬ (c = 73 ∧ k = 44) → ¬ (94 ≤ c ∧ c ≤ 101 ∧ k = b0) → gI σ11 c k = gI σg c k := fun c k c1 c2 => by
    rw [h11, gI_nk (by omega), h10, gI_nk (by omega), h9, gI_nk (by omega), h8, gI_nk (by omega), h7, gI_nk (by omega), h6, gI_nk (by omega), h5, gI_nk (by omega), h4, gI_nk (by omega), h3, gI_nk (by omega)]
  have aR : gR σ11 = gR σg := by rw [h11, h10, h9, h8, h7, h6, h5, h4, h3]; rfl
  have a97 : gI σ11 97 b0 = nI st := by rw [h11, gI_ne (by omega), h10, gI_ne (by omega), h9, gI_ne (by omega), h8, gI_ne (by omega), h7, gI_ne (by omega), h6, gI_eq]
  have aA : A8 w b0 (fun _ => st) 0 σ11 := by
    refine ⟨?_, ?_, ?_, ?_, ?_, ?_⟩
    · rw [h11, gI_ne (by omega), h10, gI_ne (by omega), h9, gI_ne (by omega), h8, gI_ne (by omega), h7, gI_ne (by omega), h6, gI_ne (by omega), h5, gI_ne (by omega), h4, gI_eq]; rfl
    · rw [h11, gI_ne (by omega), h10, gI_ne (by omega), h9, gI_ne (by omega), h8, gI_ne (by omega), h7, gI_ne (by omega), h6, gI_ne (by omega), h5, gI_eq]; rfl
    · rw [h11, gI_ne (by omega), h10, gI_ne (by omega), h9, gI_ne (by omega), h8, gI_ne (by omega), h7, gI_eq]; rfl
    · rw [h11, gI_ne (by omega), h10, gI_ne (by omega), h9, gI_ne (by omega), h8, gI_eq]; rfl
    · rw [h11, gI_ne (by omega), h10, gI_ne (by omega), h9, gI_eq]; rfl
    · rw [h11, gI_ne (by omega), h10, gI_eq]; rfl
  have hm0 : M8 σg b0 (fun _ => st) 0 σ11 := ⟨aR, by rw [h11, gI_eq]; rfl, fun j hj => absurd hj (by omega), fun k hk => ⟨fun ⟨j, k1, _⟩ => by omega, fun _ => aF _ _ (by omega) (by omega)⟩, fun c k c1 c2 c3 c4 => aF c k c3 c4⟩
  obtain ⟨x0, y0, hx0, hy0, exy0⟩ := of_ix hst
  have dw : gI σ11 73 29 = nI w := (aF _ _ (by omega) (by omega)).trans e3
  have mx0 : st % w = x0 := by rw [exy0, Nat.mul_comm, Nat.mul_add_mod, Nat.mod_eq_of_lt hx0]
  have my0 : st / w = y0 := by rw [exy0, Nat.mul_comm, Nat.mul_add_div (by omega), Nat.div_eq_of_lt hx0]; rfl
  rw [dw, rem_nI (by omega) (by omega) (by omega), pk_div (by omega) (by omega) (by omega), mx0, my0]
  refine wp_grd (nz_nI (by omega) (by omega)) ?_
  obtain ⟨L1, n1, σ1, z, ht, hm1, hf1⟩ := meet8 hw hq e3 e4 e43 hb0 hS hink hm0 hx0 hy0 (by omega) (fun _ => by omega)
  rw [bnd1_of _ z]
  rw [← exy0] at ht
  obtain ⟨rfl, rfl⟩ : n1 = 0 + 1 ∧ L1 = (fun j => if j = 0 then st else st) := by
    rcases ht with ⟨-, h1, h2⟩ | ⟨h, -, -⟩
    · exact ⟨h1, h2⟩
    · exact absurd ⟨hnew.1, hnew.2, fun ⟨j, k1, _⟩ => by omega⟩ h
  have hb1 : Bf w q ink S st (fun j => if j = 0 then st else st) (0 + 1) (fun b => Bn w q (fun j => if j = 0 then st else st) 0 b) := Bf.init hst hnew.1 hnew.2 (if_pos rfl)
  have b97 : gI σ1 97 b0 = nI st := (hf1 _ _ (by omega) (by omega) (by omega)).trans a97
  have bA : A8 w b0 (fun j => if j = 0 then st else st) 0 σ1 := aA.agree (fun j hj => absurd hj (by omega)) fun c h1 h2 => hf1 _ _ (by omega) (by omega) (by omega)
  unfold X8_laysBlob_L86
  refine wl_2 (fun m v3 σ' => ∃ L n g, m + g = w * q ∧ g ≤ n ∧ v3 = nI g ∧ M8 σg b0 L n σ' ∧ Bf w q ink S st L n (Bn w q L g) ∧ gI σ' 97 b0 = nI st ∧ A8 w b0 L g σ') ?_ fuel (w * q) _ _ (fuel_gt (by omega)) ⟨_, _, 0, rfl, by omega, rfl, hm1, hb1, b97, bA⟩
  rintro m _ σ' ⟨L, n, g, hmg, hgn, rfl, hm, hb, i97, hA⟩ rec hr
  have hle := hb.le
  rw [hm.2.1]
  by_cases c : n ≤ g
  · have : g = n := by omega
    subst this
    rw [if_pos (nI_le (Nat.le_refl _) (by omega))]
    refine wp_grd (inb_nI hb0 (by decide)) ?_
    rw [nI_clamp (by omega)]
    refine wp_vv ?_; intro s5 g5
    refine wp_some ⟨L, g, ?_, hb, by rw [g5, gI_eq], by rw [g5, gI_ne (by omega)]; exact i97, hA.agree (fun _ _ => rfl) fun c h1 h2 => ?_⟩
    · obtain ⟨m1, m2, m3, m4, m5⟩ := hm
      refine ⟨by rw [g5]; exact m1, by rw [g5, gI_ne (by omega)]; exact m2, fun j hj => by rw [g5, gI_ne (by omega)]; exact m3 j hj, fun k hk => by rw [g5, gI_ne (by omega)]; exact m4 k hk, fun c k c1 c2 c3 c4 => by rw [g5, gI_nk (by omega)]; exact m5 c k c1 c2 c3 c4⟩
    · rw [g5, gI_ne (by omega)]
  obtain ⟨a1, a2, a3, a4⟩ := hb.2.2.2.1 g (by omega)
  obtain ⟨x, y, hx, hy, exy⟩ := of_ix a1
  have mx : (y * w + x) % w = x := by rw [Nat.mul_comm, Nat.mul_add_mod, Nat.mod_eq_of_lt hx]
  have my : (y * w + x) / w = y := by rw [Nat.mul_comm, Nat.mul_add_div (by omega), Nat.div_eq_of_lt hx]; rfl
  have dw2 : gI σ' 73 29 = nI w := (hm.2.2.2.2 _ _ (by omega) (by omega) (by omega) (by omega)).trans e3
  obtain ⟨f1, f2, f3, f4, f5, f6⟩ := id hA
  rw [if_neg (nI_ge (by omega) (by omega)), nI_clamp (by omega), hm.2.2.1 g (by omega), exy, dw2, rem_nI (by omega) (by omega) (by omega), pk_div (by omega) (by omega) (by omega), mx, my, nI_clamp (by omega), f1, nI_1]
  refine wp_grd (inb_nI (by omega) (by decide)) (wp_grd (nz_nI (by omega) (by omega)) ?_)
  refine wp_vv ?_; rintro _ rfl
  refine wp_vv ?_; rintro _ rfl
  refine wp_grd (inb_nI hb0 (by decide)) ?_
  rw [nI_add]
  refine wp_vv ?_; intro s1 g1
  rw [show gI s1 96 b0 = nI (ls L (fun k => k / w) g) by rw [g1, gI_ne (by omega)]; exact f2, nI_add]
  refine wp_vv ?_; intro s2 g2
  have w98 : gI s2 98 b0 = nI (mnL L (fun k => k % w) 40 g) := by rw [g2, gI_ne (by omega), g1, gI_ne (by omega)]; exact f3
  have m98 := (mnL_p (L := L) (f := fun k => k % w) (i0 := 40) g).1
  have m100 := (mnL_p (L := L) (f := fun k => k / w) (i0 := 40) g).1
  have bx : ∀ (f : Nat → Nat), (∀ j, j < g → f (L j) < 1600) → mxL L f 0 g < 1600 := fun f h2 => by
    rcases (mxL_p (L := L) (f := f) (i0 := 0) g).2.2 with h | ⟨j, k1, k2⟩
    · omega
    · have := h2 j k1; omega
  have lj : ∀ j, j < g → L j < 1600 := fun j hj => by have := (hb.2.2.2.1 j (by omega)).1; omega
  have m99 := bx (fun k => k % w) fun j hj => Nat.lt_of_le_of_lt (Nat.mod_le _ _) (lj j hj)
  have m101 := bx (fun k => k / w) fun j hj => Nat.lt_of_le_of_lt (Nat.div_le_self _ _) (lj j hj)
  refine wp_vk1 (fun s => s = nI (mnL L (fun k => k % w) 40 (g + 1))) ?_ fun j hj => ?_
  · rintro _ rfl
    refine wp_vv ?_; intro s3 g3
    have w99 : gI s3 99 b0 = nI (mxL L (fun k => k % w) 0 g) := by rw [g3, gI_ne (by omega), g2, gI_ne (by omega), g1, gI_ne (by omega)]; exact f4
    refine wp_vk1 (fun s => s = nI (mxL L (fun k => k % w) 0 (g + 1))) ?_ fun j hj => ?_
    · rintro _ rfl
      refine wp_vv ?_; intro s4 g4
      have w100 : gI s4 100 b0 = nI (mnL L (fun k => k / w) 40 g) := by rw [g4, gI_ne (by omega), g3, gI_ne (by omega), g2, gI_ne (by omega), g1, gI_ne (by omega)]; exact f5
      refine wp_vk1 (fun s => s = nI (mnL L (fun k => k / w) 40 (g + 1))) ?_ fun j hj => ?_
      · rintro _ rfl
        refine wp_vv ?_; intro s5 g5
        have w101 : gI s5 101 b0 = nI (mxL L (fun k => k / w) 0 g) := by rw [g5, gI_ne (by omega), g4, gI_ne (by omega), g3, gI_ne (by omega), g2, gI_ne (by omega), g1, gI_ne (by omega)]; exact f6
        refine wp_vk1 (fun s => s = nI (mxL L (fun k => k / w) 0 (g + 1))) ?_ fun j hj => ?_
        · rintro _ rfl
          refine wp_vv ?_; intro s6 g6
          have aF6 : ∀ c k, ¬ (94 ≤ c ∧ c ≤ 101 ∧ k = b0) → gI s6 c k = gI σ' c k := fun c k hc => by rw [g6, gI_nk (by omega), g5, gI_nk (by omega), g4, gI_nk (by omega), g3, gI_nk (by omega), g2, gI_nk (by omega), g1, gI_nk (by omega)]
          have eg : L g = y * w + x := exy
          have hA6 : A8 w b0 L (g + 1) s6 := by
            refine ⟨?_, ?_, ?_, ?_, ?_, ?_⟩
            · rw [g6, gI_ne (by omega), g5, gI_ne (by omega), g4, gI_ne (by omega), g3, gI_ne (by omega), g2, gI_ne (by omega), g1, gI_eq]
              show _ = nI (ls L (fun k => k % w) g + L g % w)
              rw [eg, mx]
            · rw [g6, gI_ne (by omega), g5, gI_ne (by omega), g4, gI_ne (by omega), g3, gI_ne (by omega), g2, gI_eq]
              show _ = nI (ls L (fun k => k / w) g + L g / w)
              rw [eg, my]
            · rw [g6, gI_ne (by omega), g5, gI_ne (by omega), g4, gI_ne (by omega), g3, gI_eq]
            · rw [g6, gI_ne (by omega), g5, gI_ne (by omega), g4, gI_eq]
            · rw [g6, gI_ne (by omega), g5, gI_eq]
            · rw [g6, gI_eq]
          have b97' : gI s6 97 b0 = nI st := by rw [g6, gI_ne (by omega), g5, gI_ne (by omega), g4, gI_ne (by omega), g3, gI_ne (by omega), g2, gI_ne (by omega), g1, gI_ne (by omega)]; exact i97
          have hm6 : M8 σg b0 L n s6 := by
            obtain ⟨m1, m2, m3, m4, m5⟩ := hm
            refine ⟨by rw [← m1, g6, g5, g4, g3, g2, g1]; rfl, by rw [aF6 _ _ (by omega)]; exact m2, fun j hj => by rw [aF6 _ _ (by omega)]; exact m3 j hj, fun k hk => by rw [aF6 _ _ (by omega)]; exact m4 k hk, fun c k c1 c2 c3 c4 => by rw [aF6 _ _ c4]; exact m5 c k c1 c2 c3 c4⟩
          have hS0 : S8 σg s6 b0 w q ink S st L n (Bn w q L g) s6 := ⟨L, n, hm6, hb, Nat.le_refl _, fun _ _ => rfl, fun _ _ _ _ _ => rfl⟩
          have T : ∀ (C : Nat → Prop) s x' y', S8 σg s6 b0 w q ink S st L n C s → x' < w → y' < q → nbr w q (y * w + x) (y' * w + x') → WP (fX8_meets s (nI x') (nI y')) (S8 σg s6 b0 w q ink S st L n fun k => C k ∨ k = y' * w + x') := fun C s x' y' h1 h2 h3 h4 => h1.try (g := g) hw hq e3 e4 e43 hb0 hS hink (by omega) h2 h3 (by rw [exy]; exact h4)
          have tx : (nI x).toInt = x := nI_toInt (by omega)
          have ty : (nI y).toInt = y := nI_toInt (by omega)
          refine wp_bnd1 (Q := S8 σg s6 b0 w q ink S st L n fun b => Bn w q L g b ∨ (x + 1 < w ∧ b = y * w + (x + 1))) ?_ fun s7 h7 => ?_
          · rw [nI_1]
            by_cases cr : x + 1 < w
            · exact wp_imp (T _ _ (x + 1) y hS0 cr hy (nbr_r cr hy)) fun s h => h.imp fun b hb => hb.imp id fun h => h.2
            · refine wp_imp (hS0.out hw hq e3 e4 ?_) fun s h => h.imp fun b hb => hb.elim id fun h => absurd h.1 cr
              rw [nI_toInt (by omega)]; omega
          refine wp_bnd1 (Q := S8 σg s6 b0 w q ink S st L n fun b => (Bn w q L g b ∨ (x + 1 < w ∧ b = y * w + (x + 1))) ∨ (0 < x ∧ b = y * w + (x - 1))) ?_ fun s8 h8 => ?_
          · by_cases cl : 0 < x
            · rw [show nI x - 1 = nI (x - 1) from nI_sub (a := x) (b := 1) cl]
              exact wp_imp (T _ _ (x - 1) y h7 (by omega) hy (nbr_l hx hy cl)) fun s h => h.imp fun b hb => hb.imp id fun h => h.2
            · refine wp_imp (h7.out hw hq e3 e4 ?_) fun s h => h.imp fun b hb => hb.elim id fun h => absurd h.1 cl
              rw [sub1z (by omega)]; omega
          refine wp_bnd1 (Q := S8 σg s6 b0 w q ink S st L n fun b => ((Bn w q L g b ∨ (x + 1 < w ∧ b = y * w + (x + 1))) ∨ (0 < x ∧ b = y * w + (x - 1))) ∨ (y + 1 < q ∧ b = (y + 1) * w + x)) ?_ fun s9 h9 => ?_
          · rw [nI_1]
            by_cases cd : y + 1 < q
            · exact wp_imp (T _ _ x (y + 1) h8 hx cd (nbr_d hx cd)) fun s h => h.imp fun b hb => hb.imp id fun h => h.2
            · refine wp_imp (h8.out hw hq e3 e4 ?_) fun s h => h.imp fun b hb => hb.elim id fun h => absurd h.1 cd
              rw [nI_toInt (n := y + 1) (by omega)]; omega
          refine wp_bnd1 (Q := S8 σg s6 b0 w q ink S st L n fun b => (((Bn w q L g b ∨ (x + 1 < w ∧ b = y * w + (x + 1))) ∨ (0 < x ∧ b = y * w + (x - 1))) ∨ (y + 1 < q ∧ b = (y + 1) * w + x)) ∨ (0 < y ∧ b = (y - 1) * w + x)) ?_ fun s10 h10 => ?_
          · by_cases cu : 0 < y
            · rw [show nI y - 1 = nI (y - 1) from nI_sub (a := y) (b := 1) cu]
              exact wp_imp (T _ _ x (y - 1) h9 hx (by omega) (nbr_u hx hy cu)) fun s h => h.imp fun b hb => hb.imp id fun h => h.2
            · refine wp_imp (h9.out hw hq e3 e4 ?_) fun s h => h.imp fun b hb => hb.elim id fun h => absurd h.1 cu
              rw [sub1z (w := y) (by omega)]; omega
          obtain ⟨L', n', k2, k3, k4, k5, k6⟩ := h10
          refine hr (m - 1) _ _ (by omega) ⟨L', n', g + 1, by omega, by omega, rfl, k2, k3.imp ?_, ?_, ?_⟩
          · rintro b ⟨i, hi, hbn⟩
            by_cases ci : i = g
            · subst ci
              rw [k5 i (by omega), exy] at hbn
              rcases nbr4 hx hy hbn with h | h | h | h
              · exact Or.inl (Or.inl (Or.inr h))
              · exact Or.inl (Or.inl (Or.inl (Or.inr h)))
              · exact Or.inr h
              · exact Or.inl (Or.inr h)
            · rw [k5 i (by omega)] at hbn
              exact Or.inl (Or.inl (Or.inl (Or.inl ⟨i, by omega, hbn⟩)))
          · rw [k6 _ _ (by omega) (by omega) (by omega)]; exact b97'
          · exact hA6.agree (fun j hj => k5 j (by omega)) fun c h1 h2 => k6 _ _ (by omega) (by omega) (by omega)
        · rw [w101]
          have e : mxL L (fun k => k / w) 0 (g + 1) = max (mxL L (fun k => k / w) 0 g) y := by
            show max (mxL L (fun k => k / w) 0 g) (L g / w) = _
            rw [exy, my]
          refine wp_if (fun h => hj _ ?_) fun h => hj _ ?_
          · rw [e, show max (mxL L (fun k => k / w) 0 g) y = mxL L (fun k => k / w) 0 g by have := (nI_leI (by omega) (by omega)).mp h; omega]
          · rw [e, show max (mxL L (fun k => k / w) 0 g) y = y by have h2 := Nat.lt_of_not_le fun z => h ((nI_leI (by omega) (by omega)).mpr z); omega]
      · rw [w100]
        have e : mnL L (fun k => k / w) 40 (g + 1) = min (mnL L (fun k => k / w) 40 g) y := by
          show min (mnL L (fun k => k / w) 40 g) (L g / w) = _
          rw [exy, my]
        refine wp_if (fun h => hj _ ?_) fun h => hj _ ?_
        · rw [e, show min (mnL L (fun k => k / w) 40 g) y = mnL L (fun k => k / w) 40 g by have := (nI_leI (by omega) (by omega)).mp h; omega]
        · rw [e, show min (mnL L (fun k => k / w) 40 g) y = y by have h2 := Nat.lt_of_not_le fun z => h ((nI_leI (by omega) (by omega)).mpr z); omega]
    · rw [w99]
      have e : mxL L (fun k => k % w) 0 (g + 1) = max (mxL L (fun k => k % w) 0 g) x := by
        show max (mxL L (fun k => k % w) 0 g) (L g % w) = _
        rw [exy, mx]
      refine wp_if (fun h => hj _ ?_) fun h => hj _ ?_
      · rw [e, show max (mxL L (fun k => k % w) 0 g) x = mxL L (fun k => k % w) 0 g by have := (nI_leI (by omega) (by omega)).mp h; omega]
      · rw [e, show max (mxL L (fun k => k % w) 0 g) x = x by have h2 := Nat.lt_of_not_le fun z => h ((nI_leI (by omega) (by omega)).mpr z); omega]
  · rw [w98]
    have e : mnL L (fun k => k % w) 40 (g + 1) = min (mnL L (fun k => k % w) 40 g) x := by
      show min (mnL L (fun k => k % w) 40 g) (L g % w) = _
      rw [exy, mx]
    refine wp_if (fun h => hj _ ?_) fun h => hj _ ?_
    · rw [e, show min (mnL L (fun k => k % w) 40 g) x = mnL L (fun k => k % w) 40 g by have := (nI_leI (by omega) (by omega)).mp h; omega]
    · rw [e, show min (mnL L (fun k => k % w) 40 g) x = x by have h2 := Nat.lt_of_not_le fun z => h ((nI_leI (by omega) (by omega)).mpr z); omega]
end LAYS
