/-! Shape kept. -/
theorem slope_l {a b : Nat} (ha : a ≤ 102400000) (hb : b ≤ 102400000) (σ : SS) : (if lg_cmp (lN a) (lN b) = 0 then some (0 : Int32) else if lg_cmp (lN b) (lN a) ≤ 0 then some 2 else some 1) = some (if a = b then 0 else if b ≤ a then 2 else 1) ∧ (if lg_cmp (lN b - lN a) (0 : Int64) = 0 then some ((0 : Int32), σ) else if lg_cmp (lN b - lN a) (0 : Int64) ≤ 0 then some (2, σ) else some (1, σ)) = some (if a = b then 0 else if b ≤ a then 2 else 1, σ) := by
  have va : (lN a).toInt = a := l_val (n := a) (by omega)
  have vb : (lN b).toInt = b := l_val (n := b) (by omega)
  have z : (0 : Int64).toInt = 0 := rfl
  have ed : lN b - lN a = Int64.ofInt ((b : Int) - a) := by rw [l_nat, l_nat, l_sub]
  have vd : (lN b - lN a).toInt = (b : Int) - a := by rw [ed, l_val (by omega)]
  have e1 : lg_cmp (lN a) (lN b) = 0 ↔ a = b := by
    rw [lg_cmp_eq]
    exact ⟨fun q => by have := congrArg Int64.toInt q; omega, fun q => by rw [q]⟩
  have e2 : lg_cmp (lN b) (lN a) ≤ 0 ↔ b ≤ a := by rw [cmp_le, va, vb]; omega
  have e3 : lg_cmp (lN b - lN a) 0 = 0 ↔ a = b := by
    rw [lg_cmp_eq]
    exact ⟨fun q => by have := congrArg Int64.toInt q; omega, fun q => by apply Int64.toInt_inj.mp; omega⟩
  have e4 : lg_cmp (lN b - lN a) 0 ≤ 0 ↔ b ≤ a := by rw [cmp_le, vd, z]; omega
  by_cases c : a = b
  · rw [if_pos (e1.mpr c), if_pos (e3.mpr c), if_pos c]; exact ⟨rfl, rfl⟩
  · rw [if_neg (fun q => c (e1.mp q)), if_neg (fun q => c (e3.mp q)), if_neg c]
    by_cases c2 : b ≤ a
    · rw [if_pos (e2.mpr c2), if_pos (e4.mpr c2), if_pos c2]; exact ⟨rfl, rfl⟩
    · rw [if_neg (fun q => c2 (e2.mp q)), if_neg (fun q => c2 (e4.mp q)), if_neg c2]; exact ⟨rfl, rfl⟩
theorem op22 : ∀ a σ, Rel σ → st22 Rel a σ := by
  intro a σ ⟨s, f, h⟩
  obtain ⟨hs, hf, hR1, -⟩ := id h.1
  obtain ⟨w, q, hw, hq, e1, e2, e3, e4, hd⟩ := h.2.2.1
  obtain ⟨spk, hspk, e88⟩ := h.2.2.2.2.1.spk
  have z2 : (2 : Int32).toInt = 2 := rfl
  have z0 : (0 : Int32).toInt = 0 := rfl
  by_cases hc : 0 ≤ (a 1).toInt ∧ (a 1).toInt ≤ 2
  · obtain ⟨⟨bb, r1⟩, x1, m0, m1, m2, m3, m4⟩ := loc7 h hw hq e1 e2 hd e88 hspk
    dsimp only at m0 m1 m2 m3 m4
    obtain ⟨r2, x2, b1, b2, b3⟩ := loc8 (σ := σ) (σ' := r1) (fun c k hc => m2 c k (by omega)) hw hq e3 e4 e88 hspk
    have hrel : Rel r2 := Rel.jd h (b1.trans m1) fun c j hc => by rw [b2 c j (by omega) (by omega), m2 c j (by omega)]
    suffices hh : ∃ v, fX7_shape σ (a 1) = some (v, r1) ∧ fX8_shape r1 (a 1) = some (v, r2) by
      obtain ⟨v, v1, v2⟩ := hh
      exact ⟨v, r1, r2, v1, v2, hrel⟩
    unfold fX7_shape fX8_shape
    rw [if_neg (show ¬ a 1 < 0 by rw [lt_i]; omega), if_pos (show a 1 ≤ 2 by rw [le_i]; omega), if_pos (by rw [in_eq, le_i, le_i]; omega), hR1, bnd_of _ x1, bnd1_of _ x2]
    rcases b3.2.1 with ⟨hm, e49⟩ | ⟨hm, e49⟩
    · rw [if_pos (m0.mpr hm), e49, if_neg (show ¬ (1 : Int32) = 0 by decide)]
      have m7 := mk7_of hw.2 hq.2 (m4 hm)
      have m8 := mk8_of hw hq b3 hm
      have hS := mS_bd hw hq hspk.1 hm
      have hX : ∀ k, k < 4 → mX w q spk (gI σ 88 2) (inkO σ) k ≤ 64000 ∧ mY w q spk (gI σ 88 2) (inkO σ) k ≤ 64000 := fun k hk => (z_bd ⟨by omega, hw.2⟩ ⟨by omega, hq.2⟩ hspk.1 (mk_b hw hq hm hk).1).2
      unfold Mk7 at m7
      unfold Mk8 at m8
      generalize mX w q spk (gI σ 88 2) (inkO σ) = X at *
      generalize mY w q spk (gI σ 88 2) (inkO σ) = Y at *
      generalize mS w q spk (gI σ 88 2) (inkO σ) = S at *
      by_cases c0 : a 1 = 0
      · obtain ⟨tb, t1, t2⟩ := oneway7 m7 hX hS
        have g0 : fX8_turnAt r2 0 1 3 = some (sgs X Y S 0) := turn8_at (a := 0) (b := 1) (c := 3) m8 hX hS (by omega) (by omega) (by omega)
        have g1 : fX8_turnAt r2 1 3 2 = some (sgs X Y S 1) := turn8_at (a := 1) (b := 3) (c := 2) m8 hX hS (by omega) (by omega) (by omega)
        have g2 : fX8_turnAt r2 3 2 0 = some (sgs X Y S 2) := turn8_at (a := 3) (b := 2) (c := 0) m8 hX hS (by omega) (by omega) (by omega)
        have g3 : fX8_turnAt r2 2 0 1 = some (sgs X Y S 3) := turn8_at (a := 2) (b := 0) (c := 1) m8 hX hS (by omega) (by omega) (by omega)
        rw [if_pos c0, if_pos c0, bnd1_of _ t1, g0, g1, g2, g3, bnd1_some]
        simp only [vthen_q, bnd1_some]
        by_cases d0 : sgs X Y S 0 = 0
        · rw [if_pos d0, if_neg fun q => (t2.mp q).1 d0]; exact ⟨_, rfl, rfl⟩
        rw [if_neg d0]
        by_cases d1 : sgs X Y S 1 = sgs X Y S 0
        · rw [if_pos d1]
          by_cases d2 : sgs X Y S 2 = sgs X Y S 0
          · rw [if_pos d2]
            by_cases d3 : sgs X Y S 3 = sgs X Y S 0
            · rw [if_pos d3, if_pos (t2.mpr ⟨d0, d1, d2, d3⟩)]; exact ⟨_, rfl, rfl⟩
            · rw [if_neg d3, if_neg fun q => d3 (t2.mp q).2.2.2]; exact ⟨_, rfl, rfl⟩
          · rw [if_neg d2, if_neg fun q => d2 (t2.mp q).2.2.1]; exact ⟨_, rfl, rfl⟩
        · rw [if_neg d1, if_neg fun q => d1 (t2.mp q).2.1]; exact ⟨_, rfl, rfl⟩
      rw [if_neg c0, if_neg c0]
      by_cases c1 : a 1 = 1
      · obtain ⟨d1, d2⟩ := den_b hS
        have g0 : fX8_side r2 0 1 2 3 = some _ := side8 (a := 0) (b := 1) (c := 2) (d := 3) m8 (by omega) (by omega) (by omega) (by omega)
        have g1 : fX8_side r2 1 3 0 2 = some _ := side8 (a := 1) (b := 3) (c := 0) (d := 2) m8 (by omega) (by omega) (by omega) (by omega)
        have g2 : fX8_side r2 3 2 0 1 = some _ := side8 (a := 3) (b := 2) (c := 0) (d := 1) m8 (by omega) (by omega) (by omega) (by omega)
        have g3 : fX8_side r2 2 0 1 3 = some _ := side8 (a := 2) (b := 0) (c := 1) (d := 3) m8 (by omega) (by omega) (by omega) (by omega)
        rw [if_pos c1, if_pos c1, bnd1_of _ (area7 m7 hS), g0, g1, g2, g3]
        simp only [vthen_q, bnd1_some]
        rw [← ar_4, (m8 0 (by omega)).2.2, (m8 1 (by omega)).2.2, (m8 2 (by omega)).2.2, (m8 3 (by omega)).2.2, show (2 : Int64) = lN 2 from rfl, lN_mul, lN_mul, lN_mul, lN_mul, grd_eq _ (nzl_lN d1 (by omega)), grd_eq _ (nzl_lN d1 (by omega)), abs_l]
        by_cases c : 0 ≤ lg_cmp (arS X Y S 4) 0
        · rw [if_pos c, if_pos c]; exact ⟨_, rfl, rfl⟩
        · rw [if_neg c, if_neg c]; exact ⟨_, rfl, rfl⟩
      · rw [if_neg c1, if_neg c1]
        have p1 : Y 0 * S 1 ≤ 102400000 := Nat.mul_le_mul (hX 0 (by omega)).2 (hS 1 (by omega)).2
        have p2 : Y 1 * S 0 ≤ 102400000 := Nat.mul_le_mul (hX 1 (by omega)).2 (hS 0 (by omega)).2
        obtain ⟨s1, s2⟩ := slope_l p1 p2 r2
        have g : fX5_slope r1 = some (if Y 0 * S 1 = Y 1 * S 0 then 0 else if Y 1 * S 0 ≤ Y 0 * S 1 then 2 else 1) := by
          unfold fX5_slope
          rw [vthen_q, vthen_q, (m7 0 (by omega)).2.1, (m7 1 (by omega)).2.1, (m7 0 (by omega)).2.2, (m7 1 (by omega)).2.2, lN_mul, lN_mul]
          exact s1
        rw [bnd1_of _ g, vthen_q, (m8 0 (by omega)).2.1, (m8 1 (by omega)).2.1, (m8 0 (by omega)).2.2, (m8 1 (by omega)).2.2, lN_mul, lN_mul, s2]
        exact ⟨_, rfl, rfl⟩
    · rw [if_neg fun q => hm (m0.mp q), e49, if_pos rfl]
      exact ⟨_, rfl, rfl⟩
  · refine ⟨-1, σ, σ, ?_, ?_, s, f, h⟩
    · unfold fX7_shape
      simp only [lt_i, le_i]
      by_cases c1 : (a 1).toInt < (0 : Int32).toInt
      · rw [if_pos c1]
      · rw [if_neg c1, if_neg (by omega)]
    · unfold fX8_shape
      rw [if_neg (by rw [in_eq, le_i, le_i]; omega)]
