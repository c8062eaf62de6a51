/-! The pile: telling, take. -/
theorem right7_fr {σ σ' : SS} {f : Nat} {t q : Int32} (h4 : gI σ' (f + 4) = gI σ (f + 4)) (h0 : gI σ' 60 = gI σ 60) (h1 : gI σ' 61 = gI σ 61) (h2 : gI σ' 62 = gI σ 62) : fX4_isRight σ' f t q = fX4_isRight σ f t q := by
  unfold fX4_isRight fX4_answer
  rw [h4, h0, h1, h2]
theorem op39 : ∀ a σ, Rel σ → st39 Rel a σ := by
  intro a σ ⟨s, f, h⟩
  obtain ⟨hs, hf, -, -, hR5, -⟩ := id h.1
  obtain ⟨b, Q, N, hb, hQ, e11, e5, -, eq, hqs⟩ := h.2.2.2.2.2.2.2.1.q
  obtain ⟨S, hS, p1, p2, hp⟩ := h.2.2.2.2.2.2.2.2.2.at hQ e5
  have c7 := hasQ_eq hQ e5 (a 1)
  unfold st39
  by_cases hc : 0 ≤ (a 1).toInt ∧ (a 1).toInt < Q
  · obtain ⟨q, hqQ, eqq⟩ := in_of (x := a 1) (by omega) hc
    obtain ⟨⟨n1, n2⟩, g2, g3, g77, ⟨g4, -⟩, -⟩ := hqs q hqQ
    obtain ⟨d, x1, x2⟩ := sort7 hS p1
    obtain ⟨d', y1, y2⟩ := sort8 (σ := sA σ 63 d) hS (by rw [gI_A_ne (by omega)]; exact p2)
    have z : ∀ k, k < S → d' k = nI (srt (gI σ 59) S k) := fun k hk => by
      rw [y2 k hk, gI_A_ne (by omega)]
      exact congrArg nI (srt_congr S (fun j hj => ((hp j hj).1).symm) k hk)
    have zl : ∀ k, k < S → srt (gI σ 59) S k < S := fun k hk => srt_lt S k hk
    have hd2 : nI S / 2 = nI (S / 2) := pk_div (d := 2) (by omega) (by omega) (by omega)
    have hr : ∀ k, k < S → ∃ v, fX4_isRight (sA σ 63 d) f (gI (sA σ 63 d) 63 k) (nI q) = some v ∧ fX8_isRight (sA (sA σ 63 d) 113 d') (gI (sA (sA σ 63 d) 113 d') 113 k) (nI q) = some v := fun k hk => by
      have hl := zl k hk
      obtain ⟨h59, h60, h61, h62⟩ := hp _ hl
      rw [gI_A, gI_A, x2 k hk, z k hk]
      obtain ⟨v, r1, r2⟩ := right_eq (σ := sA (sA σ 63 d) 113 d') (f := f) hb (by rw [gI_A_ne (by omega), gI_A_ne (by omega)]; exact e11) (show q < 12 by omega) (show srt (gI σ 59) S k < 16 by omega) (by rw [gI_A_ne (by omega), gI_A_ne (by omega), gI_A_ne (by omega), gI_A_ne (by omega)]; exact g4) (by rw [gI_A_ne (by omega), gI_A_ne (by omega), gI_A_ne (by omega), gI_A_ne (by omega)]; exact h60) (by rw [gI_A_ne (by omega), gI_A_ne (by omega), gI_A_ne (by omega), gI_A_ne (by omega)]; exact h61) (by rw [gI_A_ne (by omega), gI_A_ne (by omega), gI_A_ne (by omega), gI_A_ne (by omega)]; exact h62 q hqQ)
      refine ⟨v, ?_, r2⟩
      rw [← r1]
      exact (right7_fr (by rw [gI_A_ne (by omega)]) (by rw [gI_A_ne (by omega)]) (by rw [gI_A_ne (by omega)]) (by rw [gI_A_ne (by omega)])).symm
    suffices hh : W2 (fX7_telling σ (a 1)) (fX8_telling (sA σ 63 d) (a 1)) (fun v w => v.2 = sA σ 63 d ∧ w = (v.1, sA (sA σ 63 d) 113 d')) by
      obtain ⟨⟨v, σ1⟩, w, q1, q2, q3, rfl⟩ := hh
      cases q3
      exact ⟨v, _, _, q1, q2, Rel.scr2 h d d'⟩
    obtain ⟨bb, i1, i2⟩ := isQ_eq (σ := sA σ 63 d) hQ (by rw [← eq]; unfold fX8_questions fX8_headOf; rw [gI_A_ne (by omega), gI_A_ne (by omega)]) (a 1)
    unfold fX7_telling fX8_telling fX4_tellingOf
    rw [hR5, if_pos (by rw [c7]; exact hc), bnd1_of _ i1, if_pos (by rw [i2]; exact hc), bnd1_of _ x1, bnd1_of _ y1, vthen_eq, gI_A_ne (c' := 58) (by omega), p1, hd2, eqq]
    suffices hh : W2 (X4_tellingOf_L17 (sA σ 63 d) f (nI q) (nI (S / 2)) fuel (0 : Int32) (0 : Int32)) (X8_telling_L20 (sA (sA σ 63 d) 113 d') (nI q) fuel (0 : Int32) (0 : Int32)) (fun v w => v.2 = sA σ 63 d ∧ w = (v.1, sA (sA σ 63 d) 113 d')) by
      obtain ⟨⟨v, σ1⟩, w, q1, q2, q3, rfl⟩ := hh
      cases q3
      rw [bnd_of _ q1, q2]
      exact ⟨_, _, rfl, rfl, rfl, rfl⟩
    unfold X4_tellingOf_L17 X8_telling_L20
    refine w2f_2 (S / 2) (fun i x y x' y' => x' = x ∧ y = nI i ∧ y' = nI i) ⟨rfl, rfl, rfl⟩ (by omega) ?_ ?_
    · rintro i x _ _ _ rec rec' hi ⟨rfl, rfl, rfl⟩ hr2
      have e1 : nI S - 1 - nI i = nI (S - 1 - i) := by rw [show nI S - 1 = nI (S - 1) from nI_sub (a := S) (b := 1) (by omega), nI_sub (by omega)]
      rw [gI_A_ne (c' := 58) (by omega), gI_A_ne (c' := 73) (by omega), gI_A_ne (c' := 73) (by omega), p1, p2, hd2, if_neg (nI_ge hi (by omega)), if_neg (nI_ge hi (by omega)), e1, nI_1, nI_clamp (by omega), nI_clamp (by omega)]
      obtain ⟨v, r1, r2⟩ := hr i (by omega)
      obtain ⟨v', r3, r4⟩ := hr (S - 1 - i) (by omega)
      refine w2_gl (inb_nI (by omega) (by decide)) (w2_gr (inb_nI (by omega) (by decide)) ?_)
      rw [bnd1_of _ r1, bnd1_of _ r2]
      simp only [vthen_eq, Int32.add_zero]
      refine w2_if Iff.rfl (fun _ _ => ?_) fun _ _ => ?_
      all_goals
        refine w2_gl (inb_nI (by omega) (by decide)) (w2_gr (inb_nI (by omega) (by decide)) ?_)
        rw [bnd1_of _ r3, bnd1_of _ r4]
        refine w2_if Iff.rfl (fun _ _ => hr2 _ _ _ _ ⟨?_, rfl, rfl⟩) fun _ _ => hr2 _ _ _ _ ⟨?_, rfl, rfl⟩
      · exact Int32.sub_eq_add_neg _ _
      · exact Int32.sub_zero _
      · exact Int32.sub_eq_add_neg _ _
      · exact Int32.sub_zero _
    · rintro x _ _ _ rec rec' ⟨rfl, rfl, rfl⟩
      rw [gI_A_ne (c' := 73) (by omega), gI_A_ne (c' := 73) (by omega), p2, hd2, if_pos (nI_le (Nat.le_refl _) (by omega)), if_pos (nI_le (Nat.le_refl _) (by omega))]
      exact w2_some ⟨rfl, rfl⟩
  · obtain ⟨bb, i1, i2⟩ := isQ_eq (σ := σ) hQ eq (a 1)
    refine ⟨-2147483648, σ, σ, ?_, ?_, s, f, h⟩
    · unfold fX7_telling
      rw [hR5, if_neg (by rw [c7]; exact hc)]
    · unfold fX8_telling
      rw [bnd1_of _ i1, if_neg (by rw [i2]; exact hc)]
/-- sheets moved down, by n places of three rows, by (m, q) places of the answers -/
def Mv (c s0 : Nat) (σ : SS) (n m q : Nat) (σ' : SS) : Prop := gR σ' = gR σ ∧ (∀ c' k, ¬ (c ≤ c' ∧ c' ≤ c + 3) → gI σ' c' k = gI σ c' k) ∧ (∀ j, j < 3 → ∀ t, gI σ' (c + j) t = if s0 ≤ t ∧ t < s0 + n then gI σ (c + j) (t + 1) else gI σ (c + j) t) ∧ ∀ t p, p < 12 → gI σ' (c + 3) (12 * t + p) = if s0 ≤ t ∧ (t < s0 + m ∨ t = s0 + m ∧ p < q) then gI σ (c + 3) (12 * (t + 1) + p) else gI σ (c + 3) (12 * t + p)
theorem Mv.z (c s0 : Nat) (σ : SS) : Mv c s0 σ 0 0 0 σ := ⟨rfl, fun _ _ _ => rfl, fun j hj t => by rw [if_neg (by omega)], fun t p hp => by rw [if_neg (by omega)]⟩
theorem Mv.row {c s0 n : Nat} {σ σ' : SS} (h : Mv c s0 σ n n 0 σ') : Mv c s0 σ (n + 1) n 0 (sI (sI (sI σ' c (s0 + n) (gI σ' c (s0 + n + 1))) (c + 1) (s0 + n) (gI (sI σ' c (s0 + n) (gI σ' c (s0 + n + 1))) (c + 1) (s0 + n + 1))) (c + 2) (s0 + n) (gI (sI (sI σ' c (s0 + n) (gI σ' c (s0 + n + 1))) (c + 1) (s0 + n) (gI (sI σ' c (s0 + n) (gI σ' c (s0 + n + 1))) (c + 1) (s0 + n + 1))) (c + 2) (s0 + n + 1))) := by
  obtain ⟨h1, h2, h3, h4⟩ := h
  refine ⟨h1, fun c' k hk => ?_, fun j hj t => ?_, fun t p hp => ?_⟩
  · rw [gI_nk (by omega), gI_nk (by omega), gI_nk (by omega)]; exact h2 c' k hk
  · by_cases ht : t = s0 + n
    · subst ht
      rw [if_pos (by omega)]
      rcases (show j = 0 ∨ j = 1 ∨ j = 2 by omega) with rfl | rfl | rfl
      · rw [gI_nk (by omega), gI_nk (by omega)]
        refine (gI_eq σ' c (s0 + n) _).trans ?_
        exact (h3 0 (by omega) _).trans (if_neg (by omega))
      · rw [gI_nk (by omega), gI_eq, gI_nk (by omega), h3 1 (by omega), if_neg (by omega)]
      · rw [gI_eq, gI_nk (by omega), gI_nk (by omega), h3 2 (by omega), if_neg (by omega)]
    · rw [gI_nk (by omega), gI_nk (by omega), gI_nk (by omega), h3 j hj]
      by_cases c1 : s0 ≤ t ∧ t < s0 + n
      · rw [if_pos c1, if_pos (by omega)]
      · rw [if_neg c1, if_neg (by omega)]
  · rw [gI_nk (by omega), gI_nk (by omega), gI_nk (by omega), h4 t p hp]
theorem Mv.ans {c s0 n q : Nat} {σ σ' : SS} (h : Mv c s0 σ (n + 1) n q σ') (hq : q < 12) : Mv c s0 σ (n + 1) n (q + 1) (sI σ' (c + 3) (12 * (s0 + n) + q) (gI σ' (c + 3) (12 * (s0 + n + 1) + q))) := by
  obtain ⟨h1, h2, h3, h4⟩ := h
  refine ⟨h1, fun c' k hk => ?_, fun j hj t => ?_, fun t p hp => ?_⟩
  · rw [gI_nk (by omega)]; exact h2 c' k hk
  · rw [gI_nk (by omega)]; exact h3 j hj t
  · by_cases ht : 12 * t + p = 12 * (s0 + n) + q
    · have a1 : t = s0 + n := by omega
      have a2 : p = q := by omega
      subst a1; subst a2
      rw [gI_eq, if_pos (by omega), h4 (s0 + n + 1) p hp, if_neg (by omega)]
    · rw [gI_nk (by omega), h4 t p hp]
      by_cases c1 : s0 ≤ t ∧ (t < s0 + n ∨ t = s0 + n ∧ p < q)
      · rw [if_pos c1, if_pos (by omega)]
      · rw [if_neg c1, if_neg (by omega)]
theorem Mv.wrap {c s0 n : Nat} {σ σ' : SS} (h : Mv c s0 σ (n + 1) n 12 σ') : Mv c s0 σ (n + 1) (n + 1) 0 σ' := by
  obtain ⟨h1, h2, h3, h4⟩ := h
  refine ⟨h1, h2, h3, fun t p hp => ?_⟩
  rw [h4 t p hp]
  by_cases c1 : s0 ≤ t ∧ t < s0 + (n + 1)
  · rw [if_pos (by omega), if_pos (by omega)]
  · rw [if_neg (by omega), if_neg (by omega)]
theorem remove_eq {σ : SS} {S t : Nat} (hS : S ≤ 16) (ht : t < S) (e : gI σ 58 0 = nI S) : ∃ σ', fX4_remove σ (nI t) = some (sI σ' 58 0 (nI (S - 1))) ∧ Mv 59 t σ (S - 1 - t) (S - 1 - t) 0 σ' := by
  suffices hh : WP (fX4_remove σ (nI t)) (fun r => ∃ σ', r = sI σ' 58 0 (nI (S - 1)) ∧ Mv 59 t σ (S - 1 - t) (S - 1 - t) 0 σ') by
    obtain ⟨r, h1, σ', rfl, h2⟩ := hh
    exact ⟨σ', h1, h2⟩
  unfold fX4_remove X4_remove_L2
  refine wf_2 (S - 1 - t) (fun n v s => v = nI (t + n) ∧ Mv 59 t σ n n 0 s) ⟨rfl, Mv.z _ _ _⟩ (by omega) ?_ ?_
  · rintro n _ s rec hn ⟨rfl, hm⟩ hr
    have e' : gI s 58 0 = nI S := (hm.2.1 58 0 (by omega)).trans e
    rw [e', nI_1, if_neg (nI_ge (by omega) (by omega)), grd_eq _ (inb_nI (by omega) (by decide)), grd_eq _ (inb_nI (by omega) (by decide))]
    simp only [vthen_eq]
    rw [nI_clamp (by omega), nI_clamp (by omega)]
    have hm2 := hm.row
    unfold X4_remove_L56
    refine wf_2 12 (fun q v s => v = nI q ∧ Mv 59 t σ (n + 1) n q s) ⟨rfl, hm2⟩ (by omega) ?_ ?_
    · rintro q _ s2 rec2 hq ⟨rfl, hm3⟩ hr2
      have i1 : nI (t + n + 1) * 12 + nI q = nI (12 * (t + n + 1) + q) := by rw [show (12 : Int32) = nI 12 from rfl, nI_mul, nI_add, Nat.mul_comm]
      have i2 : nI (t + n) * 12 + nI q = nI (12 * (t + n) + q) := by rw [show (12 : Int32) = nI 12 from rfl, nI_mul, nI_add, Nat.mul_comm]
      rw [if_neg (by show ¬ nI 12 ≤ nI q; exact nI_ge hq (by decide)), nI_1, i1, i2, grd_eq _ (inb_nI (by omega) (by decide)), grd_eq _ (inb_nI (by omega) (by decide)), vthen_eq, nI_clamp (by omega), nI_clamp (by omega), nI_1]
      exact hr2 _ _ ⟨rfl, hm3.ans hq⟩
    · rintro _ s2 rec2 ⟨rfl, hm3⟩
      rw [if_pos (by show nI 12 ≤ nI 12; exact nI_le (Nat.le_refl _) (by decide))]
      exact hr _ _ ⟨rfl, hm3.wrap⟩
  · rintro _ s rec ⟨rfl, hm⟩
    have e' : gI s 58 0 = nI S := (hm.2.1 58 0 (by omega)).trans e
    rw [e', nI_1, if_pos (nI_le (by omega) (by omega)), vthen_eq, show nI S - 1 = nI (S - 1) from nI_sub (a := S) (b := 1) (by omega)]
    exact wp_some ⟨s, rfl, hm⟩
theorem take8_eq {σ : SS} {S t : Nat} (hS : S ≤ 16) (ht : t < S) (e : gI σ 73 65 = nI (S - 1)) : ∃ σ', X8_take_L28 fuel (nI t) σ = some (nI (S - 1), σ') ∧ Mv 109 t σ (S - 1 - t) (S - 1 - t) 0 σ' := by
  suffices hh : WP (X8_take_L28 fuel (nI t) σ) (fun r => r.1 = nI (S - 1) ∧ Mv 109 t σ (S - 1 - t) (S - 1 - t) 0 r.2) by
    obtain ⟨⟨v, r⟩, h1, h2, h3⟩ := hh
    cases h2
    exact ⟨r, h1, h3⟩
  unfold X8_take_L28
  refine wf_2 (S - 1 - t) (fun n v s => v = nI (t + n) ∧ Mv 109 t σ n n 0 s) ⟨rfl, Mv.z _ _ _⟩ (by omega) ?_ ?_
  · rintro n _ s rec hn ⟨rfl, hm⟩ hr
    have e' : gI s 73 65 = nI (S - 1) := (hm.2.1 73 65 (by omega)).trans e
    rw [e', nI_1, if_neg (nI_ge (by omega) (by omega)), grd_eq _ (inb_nI (by omega) (by decide)), grd_eq _ (inb_nI (by omega) (by decide))]
    simp only [vthen_eq]
    rw [nI_clamp (by omega), nI_clamp (by omega)]
    have hm2 := hm.row
    unfold X8_take_L80
    refine wf_2 12 (fun q v s => v = nI q ∧ Mv 109 t σ (n + 1) n q s) ⟨rfl, hm2⟩ (by omega) ?_ ?_
    · rintro q _ s2 rec2 hq ⟨rfl, hm3⟩ hr2
      have i1 : (12 : Int32) * nI (t + n) + 12 + nI q = nI (12 * (t + n + 1) + q) := by rw [show (12 : Int32) = nI 12 from rfl, nI_mul, nI_add, nI_add]; congr 1
      have i2 : (12 : Int32) * nI (t + n) + nI q = nI (12 * (t + n) + q) := by rw [show (12 : Int32) = nI 12 from rfl, nI_mul, nI_add]
      rw [if_neg (by show ¬ nI 12 ≤ nI q; exact nI_ge hq (by decide)), i1, i2, grd_eq _ (inb_nI (by omega) (by decide)), grd_eq _ (inb_nI (by omega) (by decide)), vthen_eq, nI_clamp (by omega), nI_clamp (by omega), nI_1]
      exact hr2 _ _ ⟨rfl, hm3.ans hq⟩
    · rintro _ s2 rec2 ⟨rfl, hm3⟩
      rw [if_pos (by show nI 12 ≤ nI 12; exact nI_le (Nat.le_refl _) (by decide))]
      exact hr _ _ ⟨rfl, hm3.wrap⟩
  · rintro _ s rec ⟨rfl, hm⟩
    have e' : gI s 73 65 = nI (S - 1) := (hm.2.1 73 65 (by omega)).trans e
    rw [e', if_pos (nI_le (by omega) (by omega))]
    exact wp_some ⟨rfl, hm⟩
theorem op41 : ∀ a σ, Rel σ → st41 Rel a σ := by
  intro a σ ⟨s, f, h⟩
  obtain ⟨hs, hf, -, -, hR5, -⟩ := id h.1
  obtain ⟨S, hS, p1, p2, hp⟩ := h.2.2.2.2.2.2.2.2.2
  have c7 := hasS_eq hS p1 (a 1)
  by_cases hc : 0 ≤ (a 1).toInt ∧ (a 1).toInt < S
  · obtain ⟨t, ht, et⟩ := in_of (x := a 1) (by omega) hc
    obtain ⟨σ1, r1, m1⟩ := remove_eq (t := t) hS ht p1
    have q2 : gI (sI σ1 58 0 (nI (S - 1))) 73 65 = nI S := by rw [gI_ne (by omega), m1.2.1 73 65 (by omega)]; exact p2
    have sb : nI S - 1 = nI (S - 1) := nI_sub (a := S) (b := 1) (by omega)
    obtain ⟨σ2, r2, m2⟩ := take8_eq (σ := sI (sI σ1 58 0 (nI (S - 1))) 73 65 (nI (S - 1))) (t := t) hS ht (gI_eq _ _ _ _)
    refine ⟨nI (S - 1), sI σ1 58 0 (nI (S - 1)), σ2, ?_, ?_, s, f, ?_⟩
    · unfold fX7_take
      rw [if_pos (by rw [c7]; exact hc), et, bnd1_of _ r1, gI_eq]
    · unfold fX8_take
      simp only [in_eq, le_i, Int32.reduceToInt]
      rw [q2, sb, nI_toInt (by omega), if_pos (by omega), vthen_eq, et]
      exact r2
    · have k2 : ∀ c k, ¬ (109 ≤ c ∧ c ≤ 112) → ¬ (c = 73 ∧ k = 65) → ¬ (c = 58 ∧ k = 0) → ¬ (59 ≤ c ∧ c ≤ 62) → gI σ2 c k = gI σ c k := fun c k w1 w2 w3 w4 => by
        rw [m2.2.1 c k (by omega), gI_nk w2, gI_nk w3, m1.2.1 c k (by omega)]
      refine h.of ?hR ?h1 ?h2 ?h3 ?h4 ?h5 ?h6 ?h7 ?h8 ?h9
      case hR => exact m2.1.trans m1.1
      case h9 =>
        refine Or.inl ⟨S - 1, by omega, ?_, ?_, fun u hu => ?_⟩
        · rw [m2.2.1 58 0 (by omega), gI_ne (by omega), gI_eq]
        · rw [m2.2.1 73 65 (by omega), gI_eq]
        · have e1 : ∀ j, j < 3 → ∀ t', gI (sI (sI σ1 58 0 (nI (S - 1))) 73 65 (nI (S - 1))) (109 + j) t' = gI σ (109 + j) t' := fun j hj t' => by
            rw [gI_ne (by omega), gI_ne (by omega), m1.2.1 _ _ (by omega)]
          have e2 : ∀ k, gI (sI (sI σ1 58 0 (nI (S - 1))) 73 65 (nI (S - 1))) 112 k = gI σ 112 k := fun k => by
            rw [gI_ne (by omega), gI_ne (by omega), m1.2.1 _ _ (by omega)]
          have e3 : ∀ j, j < 3 → gI σ2 (59 + j) u = if t ≤ u ∧ u < t + (S - 1 - t) then gI σ (59 + j) (u + 1) else gI σ (59 + j) u := fun j hj => by
            rw [m2.2.1 _ _ (by omega), gI_ne (by omega), gI_ne (by omega)]
            exact m1.2.2.1 j hj u
          have e4 : ∀ j, j < 3 → gI σ2 (109 + j) u = if t ≤ u ∧ u < t + (S - 1 - t) then gI σ (109 + j) (u + 1) else gI σ (109 + j) u := fun j hj => by
            rw [m2.2.2.1 j hj u, e1 j hj, e1 j hj]
          have e5 : ∀ p, p < 12 → gI σ2 62 (12 * u + p) = if t ≤ u ∧ u < t + (S - 1 - t) then gI σ 62 (12 * (u + 1) + p) else gI σ 62 (12 * u + p) := fun p hp' => by
            rw [m2.2.1 _ _ (by omega), gI_ne (by omega), gI_ne (by omega)]
            refine (m1.2.2.2 u p hp').trans ?_
            by_cases w : t ≤ u ∧ u < t + (S - 1 - t)
            · rw [if_pos (by omega), if_pos w]
            · rw [if_neg (by omega), if_neg w]
          have e6 : ∀ p, p < 12 → gI σ2 112 (12 * u + p) = if t ≤ u ∧ u < t + (S - 1 - t) then gI σ 112 (12 * (u + 1) + p) else gI σ 112 (12 * u + p) := fun p hp' => by
            refine (m2.2.2.2 u p hp').trans ?_
            by_cases w : t ≤ u ∧ u < t + (S - 1 - t)
            · rw [if_pos (by omega), if_pos w]; exact e2 _
            · rw [if_neg (by omega), if_neg w]; exact e2 _
          have hf5 : gI σ2 f 5 = gI σ f 5 := k2 f 5 (by omega) (by omega) (by omega) (by omega)
          rw [hf5, show gI σ2 59 u = gI σ2 (59 + 0) u from rfl, show gI σ2 60 u = gI σ2 (59 + 1) u from rfl, show gI σ2 61 u = gI σ2 (59 + 2) u from rfl, show gI σ2 109 u = gI σ2 (109 + 0) u from rfl, show gI σ2 110 u = gI σ2 (109 + 1) u from rfl, show gI σ2 111 u = gI σ2 (109 + 2) u from rfl, e3 0 (by omega), e3 1 (by omega), e3 2 (by omega), e4 0 (by omega), e4 1 (by omega), e4 2 (by omega)]
          by_cases w : t ≤ u ∧ u < t + (S - 1 - t)
          · obtain ⟨a1, a2, a3, a4⟩ := hp (u + 1) (by omega)
            simp only [if_pos w]
            exact ⟨a1, a2, a3, fun p hp1 hp2 => by rw [e5 p hp2, e6 p hp2, if_pos w, if_pos w]; exact a4 p hp1 hp2⟩
          · obtain ⟨a1, a2, a3, a4⟩ := hp u (by omega)
            simp only [if_neg w]
            exact ⟨a1, a2, a3, fun p hp1 hp2 => by rw [e5 p hp2, e6 p hp2, if_neg w, if_neg w]; exact a4 p hp1 hp2⟩
      all_goals exact Or.inr fun c k hp => k2 c k (by omega) (by omega) (by omega) (by omega)
  · refine ⟨-1, σ, σ, ?_, ?_, s, f, h⟩
    · unfold fX7_take
      rw [if_neg (by rw [c7]; exact hc)]
    · unfold fX8_take
      simp only [in_eq, le_i, Int32.reduceToInt]
      rw [p2, sub1z (by omega), if_neg (by omega)]
