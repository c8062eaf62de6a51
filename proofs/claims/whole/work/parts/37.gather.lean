/-! The class's blobs: one row of dots gathered. -/
section WPV
variable {A B R : Type} {P : R → Prop}
theorem wp_vk {j : A → B → Option R} {f : (A → B → Option R) → Option R} (K : A → B → Prop) (hj : ∀ a b, K a b → WP (j a b) P) (hf : ∀ j' : A → B → Option R, (∀ a b, K a b → WP (j' a b) P) → WP (f j') P) : WP (vthen j f) P := hf j hj
theorem wp_vk1 {j : A → Option R} {f : (A → Option R) → Option R} (K : A → Prop) (hj : ∀ a, K a → WP (j a) P) (hf : ∀ j' : A → Option R, (∀ a, K a → WP (j' a) P) → WP (f j') P) : WP (vthen j f) P := hf j hj
theorem wp_v {x : A} {f : A → Option R} (h : WP (f x) P) : WP (vthen x f) P := h
end WPV
def M7 (σg : SS) (S : Nat → Prop) (L : Nat → Nat) (n : Nat) (σ' : SS) : Prop := gR σ' = gR σg ∧ (∀ c k, c ≠ 42 → c ≠ 43 → gI σ' c k = gI σg c k) ∧ (∀ j, j < n → gI σ' 42 j = nI (L j)) ∧ ∀ k, k < 1600 → (gI σ' 43 k = 0 ↔ ¬ (S k ∨ mem L n k))
section GATHER
variable {σg : SS} {s w q st : Nat} {lvl : Int32} {ink S : Nat → Prop}
theorem join7 {σ' : SS} {L : Nat → Nat} {n b : Nat} (hs : s = 3 ∨ s = 6) (hN : w * q ≤ 1600) (hink : ∀ k, k < w * q → ¬ S k → (lvl ≤ gI σg (s + 1) k ↔ ink k)) (hm : M7 σg S L n σ') (hb : b < w * q) (hn : n ≤ 1600) (hr : ink b ∧ ¬ S b ∧ ¬ mem L n b → n < 1600) : ∃ L' n' σ'', fX0_join σ' s lvl (nI b) (nI n) = some (nI n', σ'') ∧ Tr ink S b L n L' n' ∧ M7 σg S L' n' σ'' := by
  obtain ⟨m1, m2, m3, m4⟩ := hm
  have h43 := m4 b (by omega)
  unfold fX0_join
  simp only [vthen_q]
  rw [if_neg (nI_pos (by omega)), if_neg (by show ¬ nI 1600 ≤ nI b; exact nI_ge (by omega) (by decide))]
  by_cases c1 : n = 1600
  · rw [if_pos (by show nI 1600 ≤ nI n; exact nI_le (by omega) (by omega))]
    exact ⟨L, n, σ', rfl, Or.inr ⟨fun h => by have := hr h; omega, rfl, rfl⟩, m1, m2, m3, m4⟩
  rw [if_neg (by show ¬ nI 1600 ≤ nI n; exact nI_ge (by omega) (by decide)), grd_eq _ (inb_nI (by omega) (by decide)), nI_clamp (by omega), nI_clamp (by omega)]
  by_cases c2 : gI σ' 43 b = 0
  · have c3 := h43.mp c2
    rw [if_pos c2, m2 (s + 1) b (by omega) (by omega)]
    by_cases c4 : ink b
    · rw [if_pos ((hink b hb fun h => c3 (Or.inl h)).mpr c4), grd_eq _ (inb_nI (by omega) (by decide)), nI_1]
      refine ⟨_, n + 1, _, rfl, Or.inl ⟨⟨c4, fun h => c3 (Or.inl h), fun h => c3 (Or.inr h)⟩, rfl, rfl⟩, m1, fun c k k1 k2 => ?_, fun j hj => ?_, fun k hk => ?_⟩
      · rw [gI_ne k1, gI_ne k2]; exact m2 c k k1 k2
      · by_cases e : j = n
        · subst e; dsimp only; rw [gI_eq, if_pos rfl]
        · dsimp only; rw [gI_nk (by omega), gI_ne (by omega), if_neg e]; exact m3 j (by omega)
      · have hk2 : mem (fun j => if j = n then b else L j) (n + 1) k ↔ mem L n k ∨ k = b := by
          constructor
          · rintro ⟨j, k1, k2⟩
            dsimp only at k2
            by_cases e : j = n
            · rw [if_pos e] at k2; exact Or.inr k2.symm
            · rw [if_neg e] at k2; exact Or.inl ⟨j, by omega, k2⟩
          · rintro (⟨j, k1, k2⟩ | rfl)
            · exact ⟨j, by omega, by dsimp only; rw [if_neg (by omega)]; exact k2⟩
            · exact ⟨n, by omega, if_pos rfl⟩
        rw [gI_ne (by omega), hk2]
        by_cases e : k = b
        · subst e
          rw [gI_eq]
          exact ⟨fun h => absurd h (by decide), fun h => absurd (Or.inr (Or.inr rfl)) h⟩
        · rw [gI_nk (by omega), m4 k hk]
          exact ⟨fun h h2 => h2.elim (fun x => h (Or.inl x)) fun x => x.elim (fun y => h (Or.inr y)) e, fun h h2 => h2.elim (fun x => h (Or.inl x)) fun x => h (Or.inr (Or.inl x))⟩
    · rw [if_neg fun h => c4 ((hink b hb fun h => c3 (Or.inl h)).mp h)]
      exact ⟨L, n, σ', rfl, Or.inr ⟨fun h => c4 h.1, rfl, rfl⟩, m1, m2, m3, m4⟩
  · rw [if_neg c2]
    refine ⟨L, n, σ', rfl, Or.inr ⟨fun h => ?_, rfl, rfl⟩, m1, m2, m3, m4⟩
    exact c2 (h43.mpr fun x => x.elim h.2.1 h.2.2)
/-- a stage of one dot's four -/
def Sg (σg : SS) (w q : Nat) (ink S : Nat → Prop) (st : Nat) (L0 : Nat → Nat) (n0 : Nat) (C : Nat → Prop) (v : Int32) (σ' : SS) : Prop := ∃ L n, v = nI n ∧ M7 σg S L n σ' ∧ Bf w q ink S st L n C ∧ n0 ≤ n ∧ ∀ j, j < n0 → L j = L0 j
theorem Sg.try {L0 : Nat → Nat} {n0 g b : Nat} {C : Nat → Prop} {v : Int32} {σ' : SS} (h : Sg σg w q ink S st L0 n0 C v σ') (hs : s = 3 ∨ s = 6) (hN : w * q ≤ 1600) (hink : ∀ k, k < w * q → ¬ S k → (lvl ≤ gI σg (s + 1) k ↔ ink k)) (hg : g < n0) (hb : nbr w q (L0 g) b) : WP (fX0_join σ' s lvl (nI b) v) (fun r => Sg σg w q ink S st L0 n0 (fun k => C k ∨ k = b) r.1 r.2) := by
  obtain ⟨L, n, rfl, h2, h3, h4, h5⟩ := h
  have hb' : nbr w q (L g) b := by rw [h5 g hg]; exact hb
  have hle := h3.le
  obtain ⟨L', n', σ'', e, ht, hm⟩ := join7 hs hN hink h2 hb.lt.2 (by omega) fun hn => by have := h3.room (by omega) hb' hn; omega
  obtain ⟨t1, t2, -⟩ := ht.keep
  exact ⟨_, e, L', n', rfl, hm, h3.try (by omega) hb' ht, by omega, fun j hj => (t2 j (by omega)).trans (h5 j hj)⟩
theorem Sg.imp {L0 : Nat → Nat} {n0 : Nat} {C C' : Nat → Prop} {v : Int32} {σ' : SS} (h : Sg σg w q ink S st L0 n0 C v σ') (hC : ∀ b, C' b → C b) : Sg σg w q ink S st L0 n0 C' v σ' := by
  obtain ⟨L, n, h1, h2, h3, h4, h5⟩ := h
  exact ⟨L, n, h1, h2, h3.imp hC, h4, h5⟩
theorem gather7 (hs : s = 3 ∨ s = 6) (hw : 1 ≤ w ∧ w ≤ 40) (hq : 1 ≤ q ∧ q ≤ 40) (e1 : gI σg s 0 = nI w) (e2 : gI σg s 1 = nI q) (hink : ∀ k, k < w * q → ¬ S k → (lvl ≤ gI σg (s + 1) k ↔ ink k)) (h0 : ∀ k, k < 1600 → (gI σg 43 k = 0 ↔ ¬ S k)) (hst : st < w * q) : WP (fX0_gather σg s lvl (nI st)) (fun r => ∃ L n, r.1 = nI n ∧ M7 σg S L n r.2 ∧ ((ink st ∧ ¬ S st) ∧ Bf w q ink S st L n (Bn w q L n) ∨ ¬ (ink st ∧ ¬ S st) ∧ n = 0)) := by
  have hN := area_le hw.2 hq.2
  have hm0 : M7 σg S (fun _ => st) 0 σg := ⟨rfl, fun _ _ _ _ => rfl, fun j hj => absurd hj (by omega), fun k hk => by rw [h0 k hk]; exact ⟨fun h h2 => h2.elim h fun ⟨j, k1, _⟩ => by omega, fun h h2 => h (Or.inl h2)⟩⟩
  obtain ⟨L1, n1, σ1, z, ht, hm1⟩ := join7 (b := st) hs hN hink hm0 hst (by omega) (fun _ => by omega)
  unfold fX0_gather fX6_size
  simp only [vthen_q]
  rw [e1, e2, nI_mul, show (0 : Int32) = nI 0 from rfl, bnd_of _ z]
  unfold X0_gather_L25
  rcases ht with ⟨hnew, rfl, rfl⟩ | ⟨hnew, rfl, rfl⟩
  · have hb1 : Bf w q ink S st (fun j => if j = 0 then st else st) (0 + 1) (fun b => Bn w q (fun j => if j = 0 then st else st) 0 b) := Bf.init hst hnew.1 hnew.2.1 (if_pos rfl)
    refine wl_3 (fun m v6 v7 σ' => ∃ L n g, m + g = w * q ∧ g ≤ n ∧ v6 = nI n ∧ v7 = nI g ∧ M7 σg S L n σ' ∧ Bf w q ink S st L n (Bn w q L g)) ?_ fuel (w * q) _ _ _ (fuel_gt (by omega)) ⟨_, _, 0, rfl, by omega, rfl, rfl, hm1, hb1⟩
    rintro m _ _ σ' ⟨L, n, g, hmg, hgn, rfl, rfl, hm, hb⟩ rec hr
    have hle := hb.le
    by_cases c : n ≤ g
    · have : g = n := by omega
      subst this
      rw [if_pos (nI_le (Nat.le_refl _) (by omega))]
      exact wp_some ⟨L, g, rfl, hm, Or.inl ⟨⟨hnew.1, hnew.2.1⟩, hb⟩⟩
    obtain ⟨a1, a2, a3, a4⟩ := hb.2.2.2.1 g (by omega)
    obtain ⟨x, y, hx, hy, exy⟩ := of_ix a1
    have hyw : (y + 1) * w ≤ q * w := Nat.mul_le_mul_right w hy
    have hyw2 : (y + 1) * w = y * w + w := by rw [Nat.add_mul, Nat.one_mul]
    have hwq : w * q = q * w := Nat.mul_comm _ _
    have hqw : q * w - w = (q - 1) * w := by rw [Nat.sub_mul, Nat.one_mul]
    rw [if_neg (nI_ge (by omega) (by omega)), if_neg (by show ¬ nI 1600 ≤ nI g; exact nI_ge (by omega) (by decide)), grd_eq _ (inb_nI (by omega) (by decide)), nI_clamp (by omega), hm.2.2.1 g (by omega), exy]
    refine wp_v ?_
    have hS0 : Sg σg w q ink S st L n (Bn w q L g) (nI n) σ' := ⟨L, n, rfl, hm, hb, Nat.le_refl _, fun _ _ => rfl⟩
    refine wp_vk1 (fun v => v = nI x) ?_ ?_
    · rintro _ rfl
      refine wp_vk (Sg σg w q ink S st L n fun b => Bn w q L g b ∨ (0 < x ∧ b = y * w + (x - 1))) ?_ ?_
      · intro v10 σ11 h1
        refine wp_vk (Sg σg w q ink S st L n fun b => (Bn w q L g b ∨ (0 < x ∧ b = y * w + (x - 1))) ∨ (x + 1 < w ∧ b = y * w + (x + 1))) ?_ ?_
        · intro v12 σ13 h2
          refine wp_vk (Sg σg w q ink S st L n fun b => ((Bn w q L g b ∨ (0 < x ∧ b = y * w + (x - 1))) ∨ (x + 1 < w ∧ b = y * w + (x + 1))) ∨ (0 < y ∧ b = (y - 1) * w + x)) ?_ ?_
          · intro v14 σ15 h3
            have fin : ∀ v σ, Sg σg w q ink S st L n (fun b => (((Bn w q L g b ∨ (0 < x ∧ b = y * w + (x - 1))) ∨ (x + 1 < w ∧ b = y * w + (x + 1))) ∨ (0 < y ∧ b = (y - 1) * w + x)) ∨ (y + 1 < q ∧ b = (y + 1) * w + x)) v σ → WP (rec v (nI g + 1) σ) (fun r => ∃ L n, r.1 = nI n ∧ M7 σg S L n r.2 ∧ ((ink st ∧ ¬ S st) ∧ Bf w q ink S st L n (Bn w q L n) ∨ ¬ (ink st ∧ ¬ S st) ∧ n = 0)) := by
              rintro _ σ5 ⟨L', n', rfl, k2, k3, k4, k5⟩
              rw [nI_1]
              refine hr (m - 1) _ _ _ (by omega) ⟨L', n', g + 1, by omega, by omega, rfl, rfl, k2, k3.imp ?_⟩
              rintro b ⟨i, hi, hbn⟩
              by_cases ci : i = g
              · subst ci
                rw [k5 i (by omega), exy] at hbn
                rcases nbr4 hx hy hbn with h | h | h | h
                · exact Or.inl (Or.inl (Or.inl (Or.inr h)))
                · exact Or.inl (Or.inl (Or.inr h))
                · exact Or.inl (Or.inr h)
                · exact Or.inr h
              · rw [k5 i (by omega)] at hbn
                exact Or.inl (Or.inl (Or.inl (Or.inl ⟨i, by omega, hbn⟩)))
            by_cases cd : y + 1 < q
            · have hq1 : (y + 1) * w ≤ (q - 1) * w := Nat.mul_le_mul_right w (by omega)
              rw [nI_sub (by omega), if_neg (nI_ge (by omega) (by omega)), nI_add, show y * w + x + w = (y + 1) * w + x by omega]
              refine wp_bnd (h3.try (g := g) hs hN hink (by omega) (by rw [exy]; exact nbr_d hx cd)) fun v σ h4 => fin v σ (h4.imp ?_)
              exact fun b hb => hb.imp id fun h => h.2
            · have hq1 : (q - 1) * w ≤ y * w := Nat.mul_le_mul_right w (by omega)
              rw [nI_sub (by omega), if_pos (nI_le (by omega) (by omega))]
              exact fin _ _ (h3.imp fun b hb => hb.elim id fun h => absurd h.1 cd)
          · intro j129 hj
            by_cases cu : 0 < y
            · have hy1 : 1 * w ≤ y * w := Nat.mul_le_mul_right w cu
              rw [Nat.one_mul] at hy1
              have e : y * w + x - w = (y - 1) * w + x := by rw [Nat.sub_mul, Nat.one_mul]; omega
              rw [if_neg (nI_nlt (by omega) (by omega)), nI_sub (by omega), e]
              exact wp_bnd (h2.try (g := g) hs hN hink (by omega) (by rw [exy]; exact nbr_u hx hy cu)) fun v σ h4 => hj v σ (h4.imp fun b hb => hb.imp id fun h => h.2)
            · have : y = 0 := by omega
              subst this
              rw [if_pos (nI_lt (by omega) (by omega))]
              exact hj _ _ (h2.imp fun b hb => hb.elim id fun h => absurd h.1 cu)
        · intro j107 hj
          by_cases cr : x + 1 < w
          · rw [show nI w - 1 = nI (w - 1) from nI_sub (a := w) (b := 1) (by omega), if_neg (nI_ge (by omega) (by omega)), nI_1]
            exact wp_bnd (h1.try (g := g) hs hN hink (by omega) (by rw [exy]; exact nbr_r cr hy)) fun v σ h4 => hj v σ (h4.imp fun b hb => hb.imp id fun h => h.2)
          · rw [show nI w - 1 = nI (w - 1) from nI_sub (a := w) (b := 1) (by omega), if_pos (nI_le (by omega) (by omega))]
            exact hj _ _ (h1.imp fun b hb => hb.elim id fun h => absurd h.1 cr)
      · intro j84 hj
        by_cases cl : 0 < x
        · rw [if_neg (nI_nle cl (by omega)), show nI (y * w + x) - 1 = nI (y * w + (x - 1)) by rw [show nI (y * w + x) - 1 = nI (y * w + x - 1) from nI_sub (a := y * w + x) (b := 1) (by omega)]; exact congrArg nI (by omega)]
          exact wp_bnd (hS0.try (g := g) hs hN hink (by omega) (by rw [exy]; exact nbr_l hx hy cl)) fun v σ h4 => hj v σ (h4.imp fun b hb => hb.imp id fun h => h.2)
        · have : x = 0 := by omega
          subst this
          rw [if_pos (by decide)]
          exact hj _ _ (hS0.imp fun b hb => hb.elim id fun h => absurd h.1 cl)
    · intro j63 hj
      rw [if_neg (nI_nle (by omega) (by omega))]
      refine wp_grd (nz_nI (by omega) (by omega)) (hj _ ?_)
      unfold irm
      rw [pk_rem (by omega) (by omega) (by omega)]
      congr 1
      rw [Nat.mul_comm, Nat.mul_add_mod, Nat.mod_eq_of_lt hx]
  · refine wl_3 (fun m v6 v7 σ' => v6 = nI 0 ∧ v7 = nI 0 ∧ σ' = σ1) ?_ fuel 0 _ _ _ (fuel_gt (by omega)) ⟨rfl, rfl, rfl⟩
    rintro m _ _ _ ⟨rfl, rfl, rfl⟩ rec hr
    rw [if_pos (by decide)]
    exact wp_some ⟨_, 0, rfl, hm1, Or.inr ⟨fun h => hnew ⟨h.1, h.2, fun ⟨j, k1, _⟩ => by omega⟩, rfl⟩⟩
end GATHER
