/-! The form, asked. -/
theorem sub1z {w : Nat} (h2 : w ≤ 1000000) : (nI w - 1).toInt = (w : Int) - 1 := by
  rcases Nat.eq_zero_or_pos w with rfl | h
  · rfl
  · exact sub1 h h2
theorem RForm.q {f : Nat} {σ : SS} (h : RForm f σ) : ∃ (b Q : Nat) (N : Nat → Nat), b < 2 ∧ Q ≤ 12 ∧ gI σ 73 11 = nI b ∧ gI σ f 5 = nI Q ∧ gI σ f 6 = nI (psum N Q) ∧ fX8_questions σ = some (nI Q) ∧ ∀ q, q < Q → (1 ≤ N q ∧ N q ≤ 6) ∧ gI σ (f + 2) q = nI (psum N q) ∧ gI σ (f + 3) q = nI (N q) ∧ gI σ 77 (12 * b + q) = nI (N q) ∧
    (gI σ (f + 4) q = gI σ 78 (12 * b + q) ∧ inR (gI σ 78 (12 * b + q)) 0 63) ∧ (gI σ (f + 5) q = gI σ 79 (12 * b + q) ∧ inR (gI σ 79 (12 * b + q)) 0 99) ∧
    ((gI σ (f + 1) q = 0 ∧ gI σ 76 (12 * b + q) = 1) ∨ (gI σ (f + 1) q = 1 ∧ gI σ 76 (12 * b + q) = 2)) ∧
    ∀ i, i < N q → gI σ (f + 6) (psum N q + i) = gI σ 80 (6 * (12 * b + q) + i) ∧ gI σ (f + 7) (psum N q + i) = gI σ 81 (6 * (12 * b + q) + i) := by
  obtain ⟨b, hb, e, ⟨o1, o2, o3, o4, o5, o6⟩ | ⟨o1, o2, W, H, A, B, Q, N, r1, r2, r3, r4, r5, r6, r7, r8⟩⟩ := h
  · refine ⟨b, 0, fun _ => 0, hb, by omega, e, o5, o6, ?_, fun q hq => absurd hq (by omega)⟩
    unfold fX8_questions fX8_headOf
    rw [if_pos o2]
    rfl
  · refine ⟨b, Q, N, hb, r5, e, r6.2.2.2.2.1, r6.2.2.2.2.2, ?_, fun q hq => ?_⟩
    · unfold fX8_questions fX8_headOf
      have e5 : (5 : Int32) * nI b + 4 = nI (5 * b + 4) := by rw [show (5 : Int32) = nI 5 from rfl, nI_mul]; exact nI_add (5 * b) 4
      rw [o2, if_neg (by decide), e, e5, grd_eq _ (inb_nI (by omega) (by decide)), nI_clamp (by omega), r7.2.2.2.2]
      rfl
    · obtain ⟨p1, p2, p3, p4, p5, p6, p7, p8⟩ := r8 q hq
      exact ⟨p1, p2, p3, p4, p5, p6, p7, fun i hi => ⟨(p8 i hi).1.1, (p8 i hi).2.1⟩⟩
theorem hasQ_eq {σ : SS} {f Q : Nat} (hQ : Q ≤ 12) (e : gI σ f 5 = nI Q) (q : Int32) : (fX1_hasQuestion σ f q = true) = (0 ≤ q.toInt ∧ q.toInt < Q) := by
  unfold fX1_hasQuestion
  rw [e]
  simp only [vthen_eq, lt_i, le_i, nI_toInt (show Q < 2 ^ 31 by omega), Int32.reduceToInt]
  by_cases c1 : q.toInt < 0
  · rw [if_pos c1]; simp; omega
  rw [if_neg c1]
  by_cases c2 : (Q : Int) ≤ q.toInt
  · rw [if_pos c2]; simp; omega
  rw [if_neg c2]; simp; omega
theorem isQ_eq {σ : SS} {Q : Nat} (hQ : Q ≤ 12) (e : fX8_questions σ = some (nI Q)) (q : Int32) : ∃ b, fX8_isQuestion σ q = some b ∧ (b = true) = (0 ≤ q.toInt ∧ q.toInt < Q) := by
  unfold fX8_isQuestion
  rw [bnd1_of _ e]
  refine ⟨_, rfl, ?_⟩
  rw [in_eq, le_i, le_i, sub1z (by omega)]
  have : (0 : Int32).toInt = 0 := rfl
  exact propext ⟨fun h => by omega, fun h => by omega⟩
theorem boxesOf_eq {σ : SS} {b q n : Nat} (hb : b < 2) (e : gI σ 73 11 = nI b) (hq : q < 12) (h : gI σ 77 (12 * b + q) = nI n) : fX8_boxesOf σ (nI q) = some (nI n) := by
  unfold fX8_boxesOf
  have e5 : (12 : Int32) * nI b + nI q = nI (12 * b + q) := by rw [show (12 : Int32) = nI 12 from rfl, nI_mul, nI_add]
  rw [e, e5, grd_eq _ (inb_nI (by omega) (by decide)), nI_clamp (by omega), h]
theorem shl_n : ∀ n, n ≤ 6 → ((1 : Int32) <<< (nI n &&& 31)).toInt = (2 ^ n : Nat) ∧ ((1 : Int32) <<< (nI n &&& 31) - 1).toInt = (2 ^ n : Nat) - 1 ∧ 2 ^ n ≤ 64 := by decide +kernel
theorem op31 : ∀ a σ, Rel σ → st31 Rel a σ := by
  intro a σ ⟨s, f, h⟩
  obtain ⟨hs, hf, -, -, hR5, -⟩ := id h.1
  have h9 := h.2.2.2.2.2.2.2.2.1
  obtain ⟨b, Q, N, hb, hQ, e11, e5, -, eq, hq⟩ := h.2.2.2.2.2.2.2.1.q
  have c7 := hasQ_eq hQ e5 (a 1)
  by_cases hc : (0 ≤ (a 1).toInt ∧ (a 1).toInt < Q)
  · obtain ⟨q, hqQ, eqq⟩ := in_of (x := a 1) (by omega) hc
    obtain ⟨⟨n1, n2⟩, -, g3, g77, -⟩ := hq q hqQ
    obtain ⟨s1, s2, s3⟩ := shl_n (N q) n2
    by_cases hv : 0 ≤ (a 2).toInt ∧ (a 2).toInt < (2 ^ N q : Nat)
    · refine ⟨gI σ 30 q, sI σ 30 q (a 2), sI (sI σ 30 q (a 2)) 82 q (a 2), ?_, ?_, s, f, ?_⟩
      · unfold fX7_tick
        simp only [lt_i, Int32.reduceToInt, vthen_eq]
        rw [hR5, if_pos (by rw [c7]; exact hc), if_neg (by omega), eqq, grd_eq _ (inb_nI (by omega) (by decide)), nI_clamp (by omega), g3, s1, if_pos hv.2]
      · obtain ⟨bb, i1, i2⟩ := isQ_eq (σ := sI σ 30 q (a 2)) hQ (by rw [← eq]; rfl) (a 1)
        unfold fX8_tick
        rw [bnd1_of _ i1, if_pos (by rw [i2]; exact hc), eqq, bnd1_of _ (boxesOf_eq hb (by rw [gI_ne (by omega)]; exact e11) (by omega) (by rw [gI_ne (by omega)]; exact g77))]
        simp only [in_eq, le_i, Int32.reduceToInt, vthen_eq]
        rw [s2, if_pos (by omega), grd_eq _ (inb_nI (by omega) (by decide)), nI_clamp (by omega), gI_ne (c' := 82) (by omega), (h9 q (by omega)).1]
      · refine h.of rfl ?h1 ?h2 ?h3 ?h4 ?h5 ?h6 ?h7 ?h8 ?h9
        case h8 =>
          refine Or.inl fun k hk => ?_
          by_cases hk2 : k = q
          · subst hk2
            rw [gI_nk (by omega), gI_eq, gI_eq]
            exact ⟨rfl, hv.1, by omega⟩
          · rw [gI_nk (by omega), gI_nk (by omega), gI_nk (c' := 82) (by omega), gI_nk (c' := 82) (by omega)]
            exact h9 k hk
        all_goals exact Or.inr fun c k hp => by rw [gI_nk (by omega), gI_nk (by omega)]
    · refine ⟨-1, σ, σ, ?_, ?_, s, f, h⟩
      · unfold fX7_tick
        simp only [lt_i, Int32.reduceToInt, vthen_eq]
        rw [hR5, if_pos (by rw [c7]; exact hc)]
        by_cases c0 : (a 2).toInt < 0
        · rw [if_pos c0]
        · rw [if_neg c0, eqq, grd_eq _ (inb_nI (by omega) (by decide)), nI_clamp (by omega), g3, s1, if_neg (by omega)]
      · obtain ⟨bb, i1, i2⟩ := isQ_eq (σ := σ) hQ eq (a 1)
        unfold fX8_tick
        rw [bnd1_of _ i1, if_pos (by rw [i2]; exact hc), eqq, bnd1_of _ (boxesOf_eq hb e11 (by omega) g77)]
        simp only [in_eq, le_i, Int32.reduceToInt, vthen_eq]
        rw [s2, if_neg (by omega)]
  · refine ⟨-1, σ, σ, ?_, ?_, s, f, h⟩
    · unfold fX7_tick
      rw [hR5, if_neg (by rw [c7]; exact hc)]
    · obtain ⟨bb, i1, i2⟩ := isQ_eq (σ := σ) hQ eq (a 1)
      unfold fX8_tick
      rw [bnd1_of _ i1, if_neg (by rw [i2]; exact hc)]
