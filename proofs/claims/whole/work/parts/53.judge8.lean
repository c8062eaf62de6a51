/-! One question judged: the reference's half. -/
section ORDER8
variable {σ : SS} {p n i : Nat}
theorem e6p (p i : Nat) : (6 : Int32) * nI p + nI i = nI (6 * p + i) := by rw [show (6 : Int32) = nI 6 from rfl, nI_mul, nI_add]
theorem order8_i (hp : p < 12) (hi : i < 6) {k58 : Int32 → SS → Option SS} : ∀ a o d n, a < n → a ≤ i → (∀ k, k ≤ i → k ≠ a → d k = nI (o k)) → (∀ k, k ≤ i → k ≠ a → o k < 6) → ∃ a' d', X8_laysOrder_L16 (nI p) (nI i) k58 n (nI a) (sA σ 107 d) = k58 (nI a') (sA σ 107 d') ∧ a' ≤ i ∧ ∀ k, k ≤ i → upd d' a' (nI i) k = nI (ins (fun j => gI σ 106 (6 * p + j)) i a o k) := by
  intro a
  induction a with
  | zero =>
    intro o d n hn ha h ho
    obtain ⟨n, rfl⟩ : ∃ m, n = m + 1 := ⟨n - 1, by omega⟩
    refine ⟨0, d, ?_, by omega, fun k hk => ?_⟩
    · unfold X8_laysOrder_L16
      rw [lp_succ, if_pos (by decide)]
    · show (if k = 0 then nI i else d k) = nI (if k = 0 then i else o k)
      by_cases c : k = 0
      · rw [if_pos c, if_pos c]
      · rw [if_neg c, if_neg c]; exact h k hk c
  | succ a ih =>
    intro o d n hn ha h ho
    obtain ⟨n, rfl⟩ : ∃ m, n = m + 1 := ⟨n - 1, by omega⟩
    have oa := ho a (by omega) (by omega)
    have da := h a (by omega) (by omega)
    have e1 : nI (a + 1) - 1 = nI a := nI_pred a
    by_cases c : gI σ 106 (6 * p + o a) < gI σ 106 (6 * p + i)
    · obtain ⟨a', d', q1, q2, q3⟩ := ih (fun k => if k = a + 1 then o a else o k) (upd d (a + 1) (d a)) n (by omega) (by omega) (fun k hk hka => by
        show (if k = a + 1 then d a else d k) = nI (if k = a + 1 then o a else o k)
        by_cases c2 : k = a + 1
        · rw [if_pos c2, if_pos c2]; exact da
        · rw [if_neg c2, if_neg c2]; exact h k hk c2) (fun k hk hka => by
        show (if k = a + 1 then o a else o k) < 6
        by_cases c2 : k = a + 1
        · rw [if_pos c2]; exact oa
        · rw [if_neg c2]; exact ho k hk c2)
      refine ⟨a', d', ?_, q2, fun k hk => ?_⟩
      · rw [← q1]
        unfold X8_laysOrder_L16
        rw [lp_succ, if_neg (nI_nle (by omega) (by omega)), e1, grd_eq _ (inb_nI (by omega) (by decide)), nI_clamp (by omega), gI_A, da, e6p, e6p, grd_eq _ (inb_nI (by omega) (by decide)), grd_eq _ (inb_nI (by omega) (by decide)), nI_clamp (by omega), nI_clamp (by omega), gI_A_ne (by omega), if_neg (Int32.not_le.mpr c), grd_eq _ (inb_nI (by omega) (by decide)), vthen_eq, nI_clamp (by omega), sI_A, vthen_eq]
      · rw [q3 k hk, ins_s, if_pos c]
    · refine ⟨a + 1, d, ?_, ha, fun k hk => ?_⟩
      · unfold X8_laysOrder_L16
        rw [lp_succ, if_neg (nI_nle (by omega) (by omega)), e1, grd_eq _ (inb_nI (by omega) (by decide)), nI_clamp (by omega), gI_A, da, e6p, e6p, grd_eq _ (inb_nI (by omega) (by decide)), grd_eq _ (inb_nI (by omega) (by decide)), nI_clamp (by omega), nI_clamp (by omega), gI_A_ne (by omega), if_pos (Int32.not_lt.mp c)]
      · rw [ins_s, if_neg c]
        show (if k = a + 1 then nI i else d k) = nI (if k = a + 1 then i else o k)
        by_cases c : k = a + 1
        · rw [if_pos c, if_pos c]
        · rw [if_neg c, if_neg c]; exact h k hk c
theorem order8 (hp : p < 12) (hn : n ≤ 6) (hb : fX8_boxesOf σ (nI p) = some (nI n)) : ∃ d, fX8_laysOrder σ (nI p) = some (sA σ 107 d) ∧ ∀ k, k < n → d k = nI (srt (fun j => gI σ 106 (6 * p + j)) n k) := by
  suffices hh : WP (X8_laysOrder_L8 (nI p) (nI n) fuel (0 : Int32) (sA σ 107 (gI σ 107))) (fun r => ∃ d, r = sA σ 107 d ∧ ∀ k, k < n → d k = nI (srt (fun j => gI σ 106 (6 * p + j)) n k)) by
    rw [sA_self] at hh
    obtain ⟨r, h1, d, rfl, h2⟩ := hh
    unfold fX8_laysOrder
    rw [bnd1_of _ hb]
    exact ⟨d, h1, h2⟩
  unfold X8_laysOrder_L8
  refine wf_2 n (fun i v s => v = nI i ∧ ∃ d, s = sA σ 107 d ∧ ∀ k, k < i → d k = nI (srt (fun j => gI σ 106 (6 * p + j)) i k)) ⟨rfl, _, rfl, fun k hk => absurd hk (by omega)⟩ (by omega) ?_ ?_
  · rintro i _ _ rec hi ⟨rfl, d, rfl, hd⟩ hr
    rw [if_neg (nI_ge hi (by omega))]
    obtain ⟨a', d', q1, q2, q3⟩ := order8_i (σ := σ) (i := i) (p := p) hp (by omega) (k58 := fun v10 σ11 =>
        grd (inb v10 7) <|
        vthen (sI σ11 107 (Int32.toNatClampNeg v10) (nI i)) fun σ13 =>
        rec (nI i + (1 : Int32)) σ13) i (srt (fun j => gI σ 106 (6 * p + j)) i) d fuel (fuel_gt (by omega)) (Nat.le_refl _) (fun k hk hka => hd k (by omega)) (fun k hk hka => by have := srt_lt (key := fun j => gI σ 106 (6 * p + j)) i k (by omega); omega)
    rw [q1, nI_clamp (by omega), nI_1]
    refine wp_grd (inb_nI (by omega) (by decide)) (wp_v ?_)
    rw [sI_A]
    exact hr _ _ ⟨rfl, _, rfl, fun k hk => q3 k (by omega)⟩
  · rintro _ _ rec ⟨rfl, d, rfl, hd⟩
    rw [if_pos (nI_le (Nat.le_refl _) (by omega))]
    exact wp_some ⟨d, rfl, hd⟩
end ORDER8
section JUDGE8
variable {σ : SS} {b p n P : Nat} {D : Nat → Nat} {m cl rb : Int32}
theorem darkAt8 {s : SS} {k : Nat} (hp : p < 12) (hn : n ≤ 6) (hb : fX8_boxesOf s (nI p) = some (nI n)) (hk : k ≤ n) (h107 : ∀ k, k < n → gI s 107 k = nI (ordQ D n k)) (hD : ∀ i, i < n → gI s 106 (6 * p + i) = nI (D i)) (hP : gI s 73 54 = nI P) : fX8_darkAt s (nI p) (nI k) = some (atQ D P n k) := by
  unfold fX8_darkAt
  rw [bnd1_of _ hb]
  by_cases c : k = n
  · rw [if_pos (by rw [c]), hP]
    unfold atQ; rw [if_pos c]
  · have ok : ordQ D n k < n := srt_lt n k (by omega)
    rw [if_neg (fun e => c ((nI_eq (by omega) (by omega)).mp e)), nI_clamp (by omega), h107 k (by omega), e6p, grd_eq _ (inb_nI (by omega) (by decide)), grd_eq _ (inb_nI (by omega) (by decide)), nI_clamp (by omega), hD _ ok]
    unfold atQ; rw [if_neg c]
theorem judge8 (hb : b < 2) (hp : p < 12) (hn : 1 ≤ n ∧ n ≤ 6) (e11 : gI σ 73 11 = nI b) (e77 : gI σ 77 (12 * b + p) = nI n) (hD : ∀ i, i < n → gI σ 106 (6 * p + i) = nI (D i)) (hP : gI σ 73 54 = nI P) (e4 : gI σ 88 4 = cl) (e5 : gI σ 88 5 = rb) : WP (fX8_judges σ (nI p) m) (fun r => gR r = gR σ ∧ (∀ c k, c ≠ 107 → ¬ (c = 73 ∧ 55 ≤ k ∧ k ≤ 58) → gI r c k = gI σ c k) ∧ JQ D P n (gI σ 76 (12 * b + p) = 1) m cl rb (gI r 73 55) (gI r 73 56) (gI r 73 57) (gI r 73 58)) := by
  have box : ∀ s, (∀ c k, c ≠ 107 → ¬ (c = 73 ∧ 55 ≤ k ∧ k ≤ 58) → gI s c k = gI σ c k) → fX8_boxesOf s (nI p) = some (nI n) := fun s hs => boxesOf_eq hb (by rw [hs _ _ (by omega) (by omega)]; exact e11) hp (by rw [hs _ _ (by omega) (by omega)]; exact e77)
  obtain ⟨d, x1, x2⟩ := order8 (σ := σ) hp hn.2 (box σ fun _ _ _ _ => rfl)
  have x3 : ∀ k, k < n → d k = nI (ordQ D n k) := fun k hk => by rw [x2 k hk]; exact congrArg nI (srt_congr n (fun j hj => hD j hj) k hk)
  have olt : ∀ k, k < n → ordQ D n k < n := fun k hk => srt_lt n k hk
  unfold fX8_judges
  rw [bnd1_of _ x1]
  have f1 : ∀ c k, c ≠ 107 → ¬ (c = 73 ∧ 55 ≤ k ∧ k ≤ 58) → gI (sA σ 107 d) c k = gI σ c k := fun c k h1 _ => by rw [gI_A_ne h1]
  have f107 : ∀ k, k < n → gI (sA σ 107 d) 107 k = nI (ordQ D n k) := fun k hk => by rw [gI_A]; exact x3 k hk
  have fR : gR (sA σ 107 d) = gR σ := rfl
  generalize sA σ 107 d = σ1 at *
  rw [bnd1_of _ (box σ1 f1)]
  refine wp_vv ?_; intro σ5 h5
  have F : ∀ s, (∀ c k, ¬ (c = 73 ∧ 55 ≤ k ∧ k ≤ 58) → gI s c k = gI σ1 c k) → (∀ c k, c ≠ 107 → ¬ (c = 73 ∧ 55 ≤ k ∧ k ≤ 58) → gI s c k = gI σ c k) := fun s hs c k c1 c2 => by rw [hs c k c2, f1 c k c1 c2]
  have dk : ∀ s, (∀ c k, ¬ (c = 73 ∧ 55 ≤ k ∧ k ≤ 58) → gI s c k = gI σ1 c k) → ∀ k, k ≤ n → fX8_darkAt s (nI p) (nI k) = some (atQ D P n k) := fun s hs k hk => darkAt8 hp hn.2 (box s (F s hs)) hk (fun j hj => by rw [hs _ _ (by omega)]; exact f107 j hj) (fun i hi => by rw [F s hs _ _ (by omega) (by omega)]; exact hD i hi) (by rw [F s hs _ _ (by omega) (by omega)]; exact hP)
  unfold X8_judges_L22
  refine wf_3 n (fun i v4 v5 s => v4 = nI (stQ D P n i).1 ∧ v5 = nI i ∧ gR s = gR σ1 ∧ (∀ c k, ¬ (c = 73 ∧ 55 ≤ k ∧ k ≤ 58) → gI s c k = gI σ1 c k) ∧ gI s 73 58 = (stQ D P n i).2) ⟨rfl, rfl, by rw [h5]; rfl, fun c k hc => by rw [h5, gI_nk (by omega)], by rw [h5, gI_eq]; rfl⟩ (by omega) ?_ ?_
  · rintro i _ _ s rec hi ⟨rfl, rfl, i1, i2, i3⟩ hr
    have es : stQ D P n (i + 1) = if atQ D P n i - atQ D P n (i + 1) ≤ (stQ D P n i).2 then stQ D P n i else (i + 1, atQ D P n i - atQ D P n (i + 1)) := rfl
    rw [if_neg (nI_ge hi (by omega)), nI_1, dk s i2 i (by omega), dk s i2 (i + 1) (by omega), bnd1_some, bnd1_some, i3]
    refine wp_v (wp_if (fun h => ?_) fun h => ?_)
    · refine wp_vv ?_; intro s2 h2
      refine wp_v (hr _ _ _ ⟨by rw [es, if_neg (Int32.not_le.mpr h)], rfl, by rw [h2]; exact i1, fun c k hc => by rw [h2, gI_nk (by omega)]; exact i2 c k hc, by rw [h2, gI_eq, es, if_neg (Int32.not_le.mpr h)]⟩)
    · exact hr _ _ _ ⟨by rw [es, if_pos (Int32.not_lt.mp h)], rfl, i1, i2, by rw [i3, es, if_pos (Int32.not_lt.mp h)]⟩
  rintro _ _ s16 rec0 ⟨rfl, rfl, i1, i2, i3⟩
  rw [if_pos (nI_le (Nat.le_refl _) (by omega))]
  have hle := stQ_le (D := D) (P := P) (n := n) n
  have eah : ahQ D P n m = if (stQ D P n n).2 < m then 0 else (stQ D P n n).1 := rfl
  generalize hst : (stQ D P n n).2 = step at *
  generalize hah : (stQ D P n n).1 = ah at *
  have hah6 : ahQ D P n m ≤ n := by rw [eah]; split <;> omega
  refine wp_vv ?_; intro s17 h17
  refine wp_vv ?_; intro s18 h18
  have k18 : ∀ c k, ¬ (c = 73 ∧ 55 ≤ k ∧ k ≤ 58) → gI s18 c k = gI σ1 c k := fun c k hc => by rw [h18, gI_nk (by omega), h17, gI_nk (by omega)]; exact i2 c k hc
  have b58 : gI s18 73 58 = step := by rw [h18, gI_nk (by omega), h17, gI_nk (by omega)]; exact i3
  have b55 : gI s18 73 55 = 0 := by rw [h18, gI_nk (by omega), h17, gI_eq]
  have b57 : gI s18 73 57 = 0 := by rw [h18, gI_eq]
  have bR : gR s18 = gR σ1 := by rw [h18, h17]; exact i1
  refine wp_vk1 (fun v => v = if step < m ∧ ¬ (2 : Int32) * step < m then 1 else 0) ?_ fun j111 hj => ?_
  · rintro _ rfl
    refine wp_vv ?_; intro s20 h20
    have k20 : ∀ c k, ¬ (c = 73 ∧ 55 ≤ k ∧ k ≤ 58) → gI s20 c k = gI σ1 c k := fun c k hc => by rw [h20, gI_nk (by omega)]; exact k18 c k hc
    unfold X8_judges_L117
    refine wf_2 (ahQ D P n m) (fun i v s => v = nI i ∧ gR s = gR σ1 ∧ (∀ c k, ¬ (c = 73 ∧ 55 ≤ k ∧ k ≤ 58) → gI s c k = gI σ1 c k) ∧ gI s 73 58 = step ∧ gI s 73 57 = 0 ∧ gI s 73 56 = (if step < m ∧ ¬ (2 : Int32) * step < m then 1 else 0) ∧ Bs (gI s 73 55) (fun c => ∃ k, k < i ∧ ordQ D n k = c)) ⟨rfl, by rw [h20]; exact bR, k20, by rw [h20, gI_nk (by omega)]; exact b58, by rw [h20, gI_nk (by omega)]; exact b57, by rw [h20, gI_eq], by rw [h20, gI_nk (by omega), b55]; exact Bs.zero.imp fun c _ => ⟨fun h => h.elim, fun ⟨k, k1, _⟩ => by omega⟩⟩ (by omega) ?_ ?_
    · rintro i _ s rec hi ⟨rfl, l1, l2, l3, l4, l5, l6⟩ hr
      have hm : ¬ step < m := fun h => by rw [eah, if_pos h] at hi; omega
      have hah2 : ahQ D P n m = ah := by rw [eah, if_neg hm]
      have oi := olt i (by omega)
      rw [if_neg (nI_ge (by omega) (by omega)), l3, if_neg hm, nI_clamp (by omega), show gI s 107 i = nI (ordQ D n i) by rw [l2 _ _ (by omega)]; exact f107 i (by omega), nI_1]
      refine wp_grd (inb_nI (by omega) (by decide)) ?_
      refine wp_vv ?_; intro s22 h22
      refine hr _ _ ⟨rfl, by rw [h22]; exact l1, fun c k hc => by rw [h22, gI_nk (by omega)]; exact l2 c k hc, by rw [h22, gI_nk (by omega)]; exact l3, by rw [h22, gI_nk (by omega)]; exact l4, by rw [h22, gI_nk (by omega)]; exact l5, ?_⟩
      rw [h22, gI_eq]
      refine l6.or (by omega) fun c hc => ⟨fun ⟨k, a1, a2⟩ => ?_, fun h => ?_⟩
      · by_cases e : k = i
        · subst e; exact Or.inr a2.symm
        · exact Or.inl ⟨k, by omega, a2⟩
      · rcases h with ⟨k, a1, a2⟩ | rfl
        · exact ⟨k, by omega, a2⟩
        · exact ⟨i, by omega, rfl⟩
    rintro _ s23 rec1 ⟨rfl, l1, l2, l3, l4, l5, l6⟩
    have body : ∀ s25, (∃ y, syQ D P n (gI σ 76 (12 * b + p) = 1) m cl y ∧ gR s25 = gR σ1 ∧ (∀ c k, ¬ (c = 73 ∧ 55 ≤ k ∧ k ≤ 58) → gI s25 c k = gI σ1 c k) ∧ gI s25 73 58 = step ∧ Bs (gI s25 73 55) (anQ D n y) ∧ Bs (gI s25 73 57) (fun c => ∃ k, k < n ∧ ¬ k < y ∧ k < ahQ D P n m ∧ ordQ D n k = c) ∧ seQ D P n (gI σ 76 (12 * b + p) = 1) m cl (gI s25 73 56)) → WP (X8_judges_L252 (nI p) (nI n) fuel (0 : Int32) s25) (fun r => gR r = gR σ ∧ (∀ c k, c ≠ 107 → ¬ (c = 73 ∧ 55 ≤ k ∧ k ≤ 58) → gI r c k = gI σ c k) ∧ JQ D P n (gI σ 76 (12 * b + p) = 1) m cl rb (gI r 73 55) (gI r 73 56) (gI r 73 57) (gI r 73 58)) := by
      rintro s25 ⟨y, hy, t1, t2, t3, t4, t5, t6⟩
      unfold X8_judges_L252
      refine wf_2 n (fun i v s => v = nI i ∧ gR s = gR σ1 ∧ (∀ c k, ¬ (c = 73 ∧ k = 57) → gI s c k = gI s25 c k) ∧ Bs (gI s 73 57) (fun c => (∃ k, k < n ∧ ¬ k < y ∧ k < ahQ D P n m ∧ ordQ D n k = c) ∨ (c < i ∧ ¬ anQ D n y c ∧ ¬ nI (D c) - nI P < rb))) ⟨rfl, t1, fun _ _ _ => rfl, t5.imp fun c _ => ⟨Or.inl, fun h => h.elim id fun h => by omega⟩⟩ (by omega) ?_ ?_
      · rintro i _ s rec hi ⟨rfl, u1, u2, u3⟩ hr
        have hF := F s25 t2
        have w106 : gI s 106 (6 * p + i) = nI (D i) := by rw [u2 _ _ (by omega), hF _ _ (by omega) (by omega)]; exact hD i hi
        have w54 : gI s 73 54 = nI P := by rw [u2 _ _ (by omega), hF _ _ (by omega) (by omega)]; exact hP
        have w5 : gI s 88 5 = rb := by rw [u2 _ _ (by omega), hF _ _ (by omega) (by omega)]; exact e5
        have w55 : gI s 73 55 = gI s25 73 55 := u2 _ _ (by omega)
        rw [if_neg (nI_ge hi (by omega)), w55, e6p, nI_clamp (by omega), w106, w54, w5, nI_1]
        have skip : (anQ D n y i ∨ nI (D i) - nI P < rb) → WP (rec (nI (i + 1)) s) (fun r => gR r = gR σ ∧ (∀ c k, c ≠ 107 → ¬ (c = 73 ∧ 55 ≤ k ∧ k ≤ 58) → gI r c k = gI σ c k) ∧ JQ D P n (gI σ 76 (12 * b + p) = 1) m cl rb (gI r 73 55) (gI r 73 56) (gI r 73 57) (gI r 73 58)) := fun hs => by
          refine hr _ _ ⟨rfl, u1, u2, u3.imp fun c _ => ⟨fun h => h.imp id fun h => ⟨by omega, h.2⟩, fun h => h.imp id fun ⟨h1, h2, h3⟩ => ⟨?_, h2, h3⟩⟩⟩
          rcases Nat.lt_or_ge c i with h4 | h4
          · exact h4
          · have : c = i := by omega
            subst this
            exact absurd hs fun h => h.elim h2 h3
        refine wp_if (fun h => skip (Or.inl ((t4.has s (by omega)).mp h))) fun h => wp_grd (inb_nI (by omega) (by decide)) (wp_if (fun h2 => skip (Or.inr h2)) fun h2 => ?_)
        have hna : ¬ anQ D n y i := fun h3 => h ((t4.has s (by omega)).mpr h3)
        refine wp_vv ?_; intro s27 h27
        refine hr _ _ ⟨rfl, by rw [h27]; exact u1, fun c k hc => by rw [h27, gI_nk hc]; exact u2 c k hc, ?_⟩
        rw [h27, gI_eq]
        refine u3.or (by omega) fun c _ => ⟨fun h3 => ?_, fun h3 => ?_⟩
        · rcases h3 with h3 | ⟨h3, h4, h5⟩
          · exact Or.inl (Or.inl h3)
          · by_cases e : c = i
            · exact Or.inr e
            · exact Or.inl (Or.inr ⟨by omega, h4, h5⟩)
        · rcases h3 with (h3 | ⟨h3, h4, h5⟩) | rfl
          · exact Or.inl h3
          · exact Or.inr ⟨by omega, h4, h5⟩
          · exact Or.inr ⟨by omega, hna, h2⟩
      · rintro _ s rec ⟨rfl, u1, u2, u3⟩
        rw [if_pos (nI_le (Nat.le_refl _) (by omega))]
        refine wp_some ⟨u1.trans fR, fun c k c1 c2 => by rw [u2 c k (by omega)]; exact F s25 t2 c k c1 c2, y, hy, by rw [u2 _ _ (by omega)]; exact t4, u3.imp fun c _ => ⟨fun h => ?_, fun h => ?_⟩, by rw [u2 _ _ (by omega)]; exact t6, by rw [u2 _ _ (by omega)]; exact t3.trans hst.symm⟩
        · rcases h with ⟨k, a1, a2, a3, a4⟩ | ⟨h1, h2, h3⟩
          · exact ⟨k, a1, a2, Or.inl a3, a4⟩
          · obtain ⟨k, a1, a2⟩ := srt_sur (key := fun i => nI (D i)) h1
            exact ⟨k, a1, fun h4 => h2 ⟨k, a1, h4, a2⟩, Or.inr h3, a2⟩
        · obtain ⟨k, a1, a2, a3, a4⟩ := h
          rcases a3 with a3 | a3
          · exact Or.inl ⟨k, a1, a2, a3, a4⟩
          · refine Or.inr ⟨by rw [← a4]; exact olt k a1, fun ⟨k', c1, c2, c3⟩ => ?_, a3⟩
            have := srt_inj n k' k c1 a1 (c3.trans a4.symm)
            omega
    have eK : (12 : Int32) * gI s23 73 11 + nI p = nI (12 * b + p) := by rw [l2 _ _ (by omega), f1 _ _ (by omega) (by omega), e11, show (12 : Int32) = nI 12 from rfl, nI_mul, nI_add]
    have w76 : gI s23 76 (12 * b + p) = gI σ 76 (12 * b + p) := by rw [l2 _ _ (by omega), f1 _ _ (by omega) (by omega)]
    have tail : WP (grd (inb (((12 : Int32) * (gI s23 73 11)) + nI p) 24) <|
        vthen (fun  (σ25 : SS) =>
          X8_judges_L252 (nI p) (nI n)
          fuel (0 : Int32) σ25
          ) fun j249 =>
        if (gI s23 76 (Int32.toNatClampNeg (((12 : Int32) * (gI s23 73 11)) + nI p))) = (1 : Int32) then (
          if (gI s23 73 58) < m then (
            j249 s23
            ) else (
            if nI ah ≤ (1 : Int32) then (
              j249 s23
              ) else (
              bnd1 (fX8_darkAt s23 (nI p) (0 : Int32)) fun v28 =>
              bnd1 (fX8_darkAt s23 (nI p) (1 : Int32)) fun v31 =>
              if (v28 - v31) < (gI s23 88 4) then (
                vthen (sI s23 73 56 (2 : Int32)) fun σ34 =>
                j249 σ34
                ) else (
                vthen (sI s23 73 57 ((gI s23 73 55) &&& (((1 : Int32) <<< ((gI s23 107 0) &&& 31)) ^^^ (-1 : Int32)))) fun σ35 =>
                vthen (sI σ35 73 55 ((1 : Int32) <<< ((gI σ35 107 0) &&& 31))) fun σ36 =>
                j249 σ36
                )
              )
            )
          ) else (
          j249 s23
          )) (fun r => gR r = gR σ ∧ (∀ c k, c ≠ 107 → ¬ (c = 73 ∧ 55 ≤ k ∧ k ≤ 58) → gI r c k = gI σ c k) ∧ JQ D P n (gI σ 76 (12 * b + p) = 1) m cl rb (gI r 73 55) (gI r 73 56) (gI r 73 57) (gI r 73 58)) := by
      rw [eK, nI_clamp (by omega), w76]
      refine wp_grd (inb_nI (by omega) (by decide)) ?_
      refine wp_vk1 (fun s25 => ∃ y, syQ D P n (gI σ 76 (12 * b + p) = 1) m cl y ∧ gR s25 = gR σ1 ∧ (∀ c k, ¬ (c = 73 ∧ 55 ≤ k ∧ k ≤ 58) → gI s25 c k = gI σ1 c k) ∧ gI s25 73 58 = step ∧ Bs (gI s25 73 55) (anQ D n y) ∧ Bs (gI s25 73 57) (fun c => ∃ k, k < n ∧ ¬ k < y ∧ k < ahQ D P n m ∧ ordQ D n k = c) ∧ seQ D P n (gI σ 76 (12 * b + p) = 1) m cl (gI s25 73 56)) (fun s h => body s h) fun j249 hj => ?_
      have plain : ¬ clQ D P n (gI σ 76 (12 * b + p) = 1) m cl → ¬ dbQ D P n (gI σ 76 (12 * b + p) = 1) m cl → WP (j249 s23) (fun r => gR r = gR σ ∧ (∀ c k, c ≠ 107 → ¬ (c = 73 ∧ 55 ≤ k ∧ k ≤ 58) → gI r c k = gI σ c k) ∧ JQ D P n (gI σ 76 (12 * b + p) = 1) m cl rb (gI r 73 55) (gI r 73 56) (gI r 73 57) (gI r 73 58)) := fun h1 h2 =>
        hj _ ⟨_, Or.inr ⟨h1, rfl⟩, l1, l2, l3, l6.imp fun c _ => ⟨fun ⟨k, a1, a2⟩ => ⟨k, by omega, a1, a2⟩, fun ⟨k, a1, a2, a3⟩ => ⟨k, a2, a3⟩⟩, by rw [l4]; exact Bs.zero.imp fun c _ => ⟨fun h => h.elim, fun ⟨k, a1, a2, a3, _⟩ => a2 a3⟩, Or.inr ⟨h2, by rw [hst]; exact l5⟩⟩
      refine wp_if (fun h1 => ?_) fun h1 => plain (fun h => h1 h.1) fun h => h1 h.1
      rw [l3]
      refine wp_if (fun h2 => ?_) fun h2 => ?_
      · have z : ahQ D P n m = 0 := by rw [eah, if_pos h2]
        exact plain (fun h => by have := h.2.1; omega) fun h => by have := h.2.1; omega
      have hah2 : ahQ D P n m = ah := by rw [eah, if_neg h2]
      refine wp_if (fun h3 => ?_) fun h3 => ?_
      · have hle1 : ¬ 1 < ahQ D P n m := by have := (nI_leI (b := 1) (by omega) (by omega)).mp h3; omega
        exact plain (fun h => hle1 h.2.1) fun h => hle1 h.2.1
      have hgt1 : 1 < ahQ D P n m := by rw [hah2]; exact Nat.lt_of_not_le fun z => h3 (nI_le (b := 1) z (by omega))
      have o0 := olt 0 (by omega)
      rw [show fX8_darkAt s23 (nI p) (0 : Int32) = some (atQ D P n 0) from dk s23 l2 0 (by omega), show fX8_darkAt s23 (nI p) (1 : Int32) = some (atQ D P n 1) from dk s23 l2 1 (by omega), bnd1_some, bnd1_some, show gI s23 88 4 = cl by rw [F s23 l2 _ _ (by omega) (by omega)]; exact e4]
      have w107 : gI s23 107 0 = nI (ordQ D n 0) := by rw [l2 _ _ (by omega)]; exact f107 0 (by omega)
      refine wp_if (fun h4 => ?_) fun h4 => ?_
      · refine wp_vv ?_; intro s34 h34
        refine hj _ ⟨_, Or.inr ⟨fun h => h.2.2 h4, rfl⟩, by rw [h34]; exact l1, fun c k hc => by rw [h34, gI_nk (by omega)]; exact l2 c k hc, by rw [h34, gI_nk (by omega)]; exact l3, ?_, ?_, Or.inl ⟨⟨h1, hgt1, h4⟩, by rw [h34, gI_eq]⟩⟩
        · rw [h34, gI_nk (by omega)]
          exact l6.imp fun c _ => ⟨fun ⟨k, a1, a2⟩ => ⟨k, by omega, a1, a2⟩, fun ⟨k, a1, a2, a3⟩ => ⟨k, a2, a3⟩⟩
        · rw [h34, gI_nk (by omega), l4]
          exact Bs.zero.imp fun c _ => ⟨fun h => h.elim, fun ⟨k, a1, a2, a3, _⟩ => a2 a3⟩
      · rw [w107]
        refine wp_vv ?_; intro s35 h35
        rw [show gI s35 107 0 = nI (ordQ D n 0) by rw [h35, gI_ne (by omega)]; exact w107]
        refine wp_vv ?_; intro s36 h36
        refine hj _ ⟨1, Or.inl ⟨⟨h1, hgt1, h4⟩, rfl⟩, by rw [h36, h35]; exact l1, fun c k hc => by rw [h36, gI_nk (by omega), h35, gI_nk (by omega)]; exact l2 c k hc, by rw [h36, gI_nk (by omega), h35, gI_nk (by omega)]; exact l3, ?_, ?_, Or.inr ⟨fun h => h4 h.2.2, by rw [h36, gI_nk (by omega), h35, gI_nk (by omega), hst]; exact l5⟩⟩
        · rw [h36, gI_eq]
          refine Bs.one (by omega) fun c _ => ⟨?_, fun e => ⟨0, by omega, by omega, e.symm⟩⟩
          rintro ⟨k, a1, a2, a3⟩
          have : k = 0 := by omega
          subst this
          exact a3.symm
        · rw [h36, gI_nk (by omega), h35, gI_eq]
          refine l6.sub (by omega) fun c _ => ⟨fun ⟨k, a1, a2, a3, a4⟩ => ⟨⟨k, a3, a4⟩, fun e => ?_⟩, fun ⟨⟨k, a1, a2⟩, e⟩ => ⟨k, by omega, fun h => ?_, a1, a2⟩⟩
          · have := srt_inj n k 0 a1 (by omega) (a4.trans e); omega
          · have : k = 0 := by omega
            subst this; exact e a2.symm
    by_cases c1 : nI ah ≤ nI (ahQ D P n m)
    · rw [if_pos c1]; exact tail
    · rw [if_neg c1, l3]
      have hm : step < m := Classical.byContradiction fun h => c1 (by rw [eah, if_neg h]; exact nI_le (Nat.le_refl _) (by omega))
      rw [if_pos hm]; exact tail
  · refine wp_v ?_
    dsimp only
    rw [b58]
    refine wp_if (fun h => hj _ (by rw [if_neg fun h2 => Int32.not_lt.mpr h h2.1])) fun h => wp_if (fun h2 => hj _ (by rw [if_neg fun h3 => h3.2 h2])) fun h2 => hj _ (by rw [if_pos ⟨Int32.not_le.mp h, h2⟩])
end JUDGE8
