/-! A question, asked. -/
theorem psum_le {N : Nat → Nat} : ∀ q, (∀ p, p < q → N p ≤ 6) → psum N q ≤ 6 * q
  | 0, _ => Nat.le_refl _
  | q + 1, h => by
    have := psum_le q (fun p hp => h p (by omega))
    have := h q (by omega)
    show psum N q + N q ≤ _
    omega
theorem hasBox_eq {σ : SS} {f Q q n : Nat} (hQ : Q ≤ 12) (e : gI σ f 5 = nI Q) (hq : q < Q) (hn : n ≤ 6) (g3 : gI σ (f + 3) q = nI n) (x : Int32) : ∃ bb, fX1_hasBox σ f (nI q) x = some bb ∧ (bb = true) = (0 ≤ x.toInt ∧ x.toInt < n) := by
  unfold fX1_hasBox
  simp only [vthen_eq, lt_i, le_i, Int32.reduceToInt]
  rw [if_pos (by rw [hasQ_eq hQ e, nI_toInt (by omega)]; omega), grd_eq _ (inb_nI (by omega) (by decide)), nI_clamp (by omega), g3, nI_toInt (by omega)]
  by_cases c1 : x.toInt < 0
  · rw [if_pos c1]; exact ⟨_, rfl, by simp; omega⟩
  rw [if_neg c1]
  by_cases c2 : (n : Int) ≤ x.toInt
  · rw [if_pos c2]; exact ⟨_, rfl, by simp; omega⟩
  rw [if_neg c2]; exact ⟨_, rfl, by simp; omega⟩
theorem subc {x : Int32} {c m : Nat} (h : x = nI m) (hc : c ≤ m) (hm : m ≤ 1000) : (x - nI c).toInt = (m : Int) - c := by
  rw [h, nI_sub hc, nI_toInt (by omega)]; omega
theorem op3 : ∀ a σ, Rel σ → st3 Rel a σ := by
  intro a σ ⟨s, f, h⟩
  obtain ⟨hs, hf, -, -, hR5, -⟩ := id h.1
  obtain ⟨b, Q, N, hb, hQ, e11, e5, -, eq, hq⟩ := h.2.2.2.2.2.2.2.1.q
  have c7 := hasQ_eq hQ e5 (a 1)
  obtain ⟨bb, i1, i2⟩ := isQ_eq (σ := σ) hQ eq (a 1)
  by_cases hc : (0 ≤ (a 1).toInt ∧ (a 1).toInt < Q)
  · obtain ⟨q, hqQ, eqq⟩ := in_of (x := a 1) (by omega) hc
    obtain ⟨⟨n1, n2⟩, g2, g3, g77, ⟨g4, -⟩, ⟨g5, -⟩, gm, gx⟩ := hq q hqQ
    have hps := psum_le (N := N) q (fun p hp => (hq p (by omega)).1.2)
    have ek : (12 : Int32) * gI σ 73 11 + a 1 = nI (12 * b + q) := by rw [e11, eqq, show (12 : Int32) = nI 12 from rfl, nI_mul, nI_add]
    have m8 : ∀ v, (if (10 ≤ (a 2).toInt ∧ (a 2).toInt < 10 + (N q : Nat)) then v = gI σ 80 (6 * (12 * b + q) + ((a 2).toInt.toNat - 10)) else if (20 ≤ (a 2).toInt ∧ (a 2).toInt < 20 + (N q : Nat)) then v = gI σ 81 (6 * (12 * b + q) + ((a 2).toInt.toNat - 20)) else v = (if a 2 = 0 then gI σ 76 (12 * b + q) else if a 2 = 1 then gI σ 77 (12 * b + q) else if a 2 = 2 then gI σ 78 (12 * b + q) else if a 2 = 3 then gI σ 79 (12 * b + q) else -1)) → fX8_question σ (a 1) (a 2) = some v := by
      intro v hv
      unfold fX8_question
      rw [bnd1_of _ i1, if_pos (by rw [i2]; exact hc), ek, vthen_eq, grd_eq _ (inb_nI (by omega) (by decide))]
      have b9 : (9 + nI (N q)).toInt = 9 + (N q : Int) := by rw [show (9 : Int32) + nI (N q) = nI (9 + N q) from nI_add 9 _, nI_toInt (by omega)]; omega
      have b19 : (19 + nI (N q)).toInt = 19 + (N q : Int) := by rw [show (19 : Int32) + nI (N q) = nI (19 + N q) from nI_add 19 _, nI_toInt (by omega)]; omega
      simp only [in_eq, le_i, Int32.reduceToInt]
      rw [nI_clamp (by omega), g77, b9, b19]
      by_cases d1 : 10 ≤ (a 2).toInt ∧ (a 2).toInt < 10 + (N q : Nat)
      · rw [if_pos d1] at hv
        obtain ⟨m, hm, em⟩ := in_of (x := a 2) (w := 16) (by decide) (by omega)
        have tm : (a 2).toInt = m := by rw [em, nI_toInt (by omega)]
        have ei : (6 : Int32) * nI (12 * b + q) + a 2 - 10 = nI (6 * (12 * b + q) + (m - 10)) := by
          rw [em, show (6 : Int32) = nI 6 from rfl, nI_mul, nI_add]
          exact (nI_sub (a := 6 * (12 * b + q) + m) (b := 10) (by omega)).trans (by congr 1; omega)
        rw [if_pos (by omega), ei, grd_eq _ (inb_nI (by omega) (by decide)), nI_clamp (by omega), hv, tm]
        rfl
      · rw [if_neg d1] at hv
        rw [if_neg (by omega)]
        by_cases d2 : 20 ≤ (a 2).toInt ∧ (a 2).toInt < 20 + (N q : Nat)
        · rw [if_pos d2] at hv
          obtain ⟨m, hm, em⟩ := in_of (x := a 2) (w := 26) (by decide) (by omega)
          have tm : (a 2).toInt = m := by rw [em, nI_toInt (by omega)]
          have ei : (6 : Int32) * nI (12 * b + q) + a 2 - 20 = nI (6 * (12 * b + q) + (m - 20)) := by
            rw [em, show (6 : Int32) = nI 6 from rfl, nI_mul, nI_add]
            exact (nI_sub (a := 6 * (12 * b + q) + m) (b := 20) (by omega)).trans (by congr 1; omega)
          rw [if_pos (by omega), ei, grd_eq _ (inb_nI (by omega) (by decide)), nI_clamp (by omega), hv, tm]
          rfl
        · rw [if_neg d2] at hv
          rw [if_neg (by omega), hv]
          repeat' split
          all_goals first | rfl | exact congrArg some g77.symm
    have ne : ∀ c : Int32, ¬ (a 2).toInt = c.toInt → ¬ a 2 = c := fun c q1 q2 => q1 (congrArg Int32.toInt q2)
    by_cases d1 : 10 ≤ (a 2).toInt ∧ (a 2).toInt < 10 + (N q : Nat)
    · obtain ⟨m, hm, em⟩ := in_of (x := a 2) (w := 16) (by decide) (by omega)
      have tm : (a 2).toInt = m := by rw [em, nI_toInt (by omega)]
      obtain ⟨b1, u1, u2⟩ := hasBox_eq hQ e5 hqQ n2 g3 (a 2 - 10)
      have t10 : (a 2 - 10).toInt = (m : Int) - 10 := subc (c := 10) em (by omega) (by omega)
      have ei : nI (psum N q) + a 2 - 10 = nI (psum N q + (m - 10)) := by
        rw [em, nI_add]; exact (nI_sub (a := psum N q + m) (b := 10) (by omega)).trans (by congr 1; omega)
      refine ⟨gI σ 80 (6 * (12 * b + q) + ((a 2).toInt.toNat - 10)), ?_, m8 _ (by rw [if_pos d1]), s, f, h⟩
      unfold fX7_question
      simp only [vthen_eq]
      rw [hR5, if_pos (by rw [c7]; exact hc), if_neg (ne 0 (by show ¬ (a 2).toInt = 0; omega)), if_neg (ne 1 (by show ¬ (a 2).toInt = 1; omega)), if_neg (ne 2 (by show ¬ (a 2).toInt = 2; omega)), if_neg (ne 3 (by show ¬ (a 2).toInt = 3; omega)), if_neg (by rw [lt_i]; show ¬ (a 2).toInt < 10; omega), if_neg (by rw [le_i]; show ¬ 20 ≤ (a 2).toInt; omega), eqq, bnd1_of _ u1, if_pos (by rw [u2, t10]; omega), grd_eq _ (inb_nI (by omega) (by decide)), nI_clamp (by omega), g2, ei, grd_eq _ (inb_nI (by omega) (by decide)), nI_clamp (by omega), (gx (m - 10) (by omega)).1, tm]
      rfl
    by_cases d2 : 20 ≤ (a 2).toInt ∧ (a 2).toInt < 20 + (N q : Nat)
    · obtain ⟨m, hm, em⟩ := in_of (x := a 2) (w := 26) (by decide) (by omega)
      have tm : (a 2).toInt = m := by rw [em, nI_toInt (by omega)]
      obtain ⟨b1, u1, u2⟩ := hasBox_eq hQ e5 hqQ n2 g3 (a 2 - 20)
      have t20 : (a 2 - 20).toInt = (m : Int) - 20 := subc (c := 20) em (by omega) (by omega)
      have ei : nI (psum N q) + a 2 - 20 = nI (psum N q + (m - 20)) := by
        rw [em, nI_add]; exact (nI_sub (a := psum N q + m) (b := 20) (by omega)).trans (by congr 1; omega)
      refine ⟨gI σ 81 (6 * (12 * b + q) + ((a 2).toInt.toNat - 20)), ?_, m8 _ (by rw [if_neg d1, if_pos d2]), s, f, h⟩
      unfold fX7_question
      simp only [vthen_eq]
      rw [hR5, if_pos (by rw [c7]; exact hc), if_neg (ne 0 (by show ¬ (a 2).toInt = 0; omega)), if_neg (ne 1 (by show ¬ (a 2).toInt = 1; omega)), if_neg (ne 2 (by show ¬ (a 2).toInt = 2; omega)), if_neg (ne 3 (by show ¬ (a 2).toInt = 3; omega)), if_neg (by rw [lt_i]; show ¬ (a 2).toInt < 10; omega), if_pos (by rw [le_i]; show 20 ≤ (a 2).toInt; omega), if_neg (by rw [lt_i]; show ¬ (a 2).toInt < 20; omega), if_neg (by rw [le_i]; show ¬ 30 ≤ (a 2).toInt; omega), eqq, bnd1_of _ u1, if_pos (by rw [u2, t20]; omega), grd_eq _ (inb_nI (by omega) (by decide)), nI_clamp (by omega), g2, ei, grd_eq _ (inb_nI (by omega) (by decide)), nI_clamp (by omega), (gx (m - 20) (by omega)).2, tm]
      rfl
    refine ⟨_, ?_, m8 (if a 2 = 0 then gI σ 76 (12 * b + q) else if a 2 = 1 then gI σ 77 (12 * b + q) else if a 2 = 2 then gI σ 78 (12 * b + q) else if a 2 = 3 then gI σ 79 (12 * b + q) else -1) (by rw [if_neg d1, if_neg d2]), s, f, h⟩
    unfold fX7_question
    simp only [vthen_eq]
    rw [hR5, if_pos (by rw [c7]; exact hc), eqq]
    by_cases z0 : a 2 = 0
    · rw [if_pos z0, if_pos z0, grd_eq _ (inb_nI (by omega) (by decide)), nI_clamp (by omega)]
      rcases gm with ⟨m1, m2⟩ | ⟨m1, m2⟩
      · rw [m1, m2]; rfl
      · rw [m1, m2]; rfl
    rw [if_neg z0, if_neg z0]
    by_cases z1 : a 2 = 1
    · rw [if_pos z1, if_pos z1, grd_eq _ (inb_nI (by omega) (by decide)), nI_clamp (by omega), g3, g77]
    rw [if_neg z1, if_neg z1]
    by_cases z2 : a 2 = 2
    · rw [if_pos z2, if_pos z2, grd_eq _ (inb_nI (by omega) (by decide)), nI_clamp (by omega), g4]
    rw [if_neg z2, if_neg z2]
    by_cases z3 : a 2 = 3
    · rw [if_pos z3, if_pos z3, grd_eq _ (inb_nI (by omega) (by decide)), nI_clamp (by omega), g5]
    rw [if_neg z3, if_neg z3]
    simp only [lt_i, le_i, Int32.reduceToInt]
    have box : ∀ x : Int32, ¬ (0 ≤ x.toInt ∧ x.toInt < (N q : Nat)) → fX1_hasBox σ f (nI q) x = some false := fun x hx => by
      obtain ⟨b1, u1, u2⟩ := hasBox_eq hQ e5 hqQ n2 g3 x
      rw [u1]; cases b1 with
      | false => rfl
      | true => exact absurd (u2.mp rfl) hx
    by_cases w1 : (a 2).toInt < 10
    · rw [if_pos w1, if_pos (by omega)]
    rw [if_neg w1]
    by_cases w2 : 20 ≤ (a 2).toInt
    · rw [if_pos w2, if_neg (by omega)]
      by_cases w3 : 30 ≤ (a 2).toInt
      · rw [if_pos w3]
      · obtain ⟨m, hm, em⟩ := in_of (x := a 2) (w := 30) (by decide) (by omega)
        have tm : (a 2).toInt = m := by rw [em, nI_toInt (by omega)]
        have t20 : (a 2 - 20).toInt = (m : Int) - 20 := subc (c := 20) em (by omega) (by omega)
        rw [if_neg w3, bnd1_of _ (box _ (by rw [t20]; omega)), if_neg (by decide)]
    · obtain ⟨m, hm, em⟩ := in_of (x := a 2) (w := 20) (by decide) (by omega)
      have tm : (a 2).toInt = m := by rw [em, nI_toInt (by omega)]
      have t10 : (a 2 - 10).toInt = (m : Int) - 10 := subc (c := 10) em (by omega) (by omega)
      rw [if_neg w2, bnd1_of _ (box _ (by rw [t10]; omega)), if_neg (by decide), if_pos (by omega)]
  · refine ⟨-1, ?_, ?_, s, f, h⟩
    · unfold fX7_question
      rw [hR5, if_neg (by rw [c7]; exact hc)]
    · unfold fX8_question
      rw [bnd1_of _ i1, if_neg (by rw [i2]; exact hc)]
