/-! Lay kept. -/
theorem nI_ltN {a b : Nat} (h : nI a < nI b) (ha : a < 2 ^ 31) (hb : b < 2 ^ 31) : a < b := by
  rw [lt_i, nI_toInt ha, nI_toInt hb] at h; omega
theorem nI_injN {a b : Nat} (ha : a < 2 ^ 31) (hb : b < 2 ^ 31) (h : nI a = nI b) : a = b := by
  have h := congrArg Int32.toInt h
  rw [nI_toInt ha, nI_toInt hb] at h; omega
theorem op35 : ∀ a σ, Rel σ → st35 Rel a σ := by
  intro a σ ⟨s, f, h⟩
  obtain ⟨hs, hf, hR1, -, hR5, -⟩ := id h.1
  rcases h.2.2.2.2.2.2.2.1.told with ⟨t1, t2, t3, t4⟩ | ⟨t1, t2⟩
  · refine ⟨-1, σ, σ, ?_, ?_, s, f, h⟩
    · unfold fX7_lay; rw [hR5, t1, if_pos rfl]
    · unfold fX8_lay; rw [t2, if_pos rfl]
  obtain ⟨w, q, spk, b, U, V, A, B, Q, N, cx, cy, D, P, m, h8, e5, -, hT, -, ⟨mb, r1, x1, m1, m2, hK1, m3, m4⟩, hfin⟩ := h.readR t1
  obtain ⟨-, -, -, -, -, -, -, -, -, -, -, -, -, hQ, hHd, hN⟩ := id h8
  obtain ⟨S, hS, s58, s65, hrow⟩ := h.2.2.2.2.2.2.2.2.2.at hQ e5
  have hf1 : gR r1 1 5 = f := by rw [m2]; exact hR5
  have e5' : gI r1 f 5 = nI Q := by rw [hK1 f 5 (by omega)]; exact e5
  have e58 : gI r1 58 0 = nI S := by rw [hK1 58 0 (by omega)]; exact s58
  have c7 : fX7_lay σ = if mb = true then (if gI r1 58 0 < (16 : Int32) then (bnd (fX4_add r1 f) fun v5 σ8 => some (v5, σ8)) else some ((-3 : Int32), r1)) else some ((-2 : Int32), r1) := by
    unfold fX7_lay
    rw [hR5, hR1, t1, if_neg (by decide), bnd_of _ x1, hf1]
  unfold st35
  by_cases hm : m
  · obtain ⟨d1, jq⟩ := m4 hm
    by_cases hS2 : S < 16
    · obtain ⟨⟨v, s1⟩, y1, rfl, y3, y4, y5, y6⟩ := add7 (r := r1) hQ hS2 hf e5' e58
      dsimp only at y3 y4 y5 y6
      have h8s := h8.fr (σ' := s1) fun c k hc => by rw [y4 c k (by omega)]; exact m3 c k (by omega)
      obtain ⟨⟨fb, r2⟩, x2, k1, k2, hK2, k3, k4⟩ := hfin s1 s1 h8s fun c k hc => rfl
      dsimp only at k1 k2 hK2 k3 k4
      have hG8 := k4 hm
      have hG9 : G9 Q N D P σ r2 := ⟨fun c k hc => by rw [hK2 c k (by omega), y4 c k (by omega)]; exact hK1 c k (by omega), hG8.2.1, hG8.2.2⟩
      obtain ⟨⟨v, r3⟩, z1, rfl, z3, z4, z5, z6, z7⟩ := lay8 (S := S) h8 jq hG9 hS2
      dsimp only at z3 z4 z5 z6 z7
      have e65 : gI r2 73 65 = nI S := by rw [hK2 73 65 (by omega), y4 73 65 (by omega), m3 73 65 (by omega)]; exact s65
      refine ⟨nI S, s1, r3, ?_, ?_, s, f, h.of (z3.trans (k2.trans (y3.trans m2))) (Or.inr fun c k hc => z4 c k (by omega)) (Or.inr fun c k hc => z4 c k (by omega)) (Or.inr fun c k hc => z4 c k (by omega)) (Or.inr fun c k hc => z4 c k (by omega)) (Or.inr fun c k hc => z4 c k (by omega)) (Or.inr fun c k hc => z4 c k (by omega)) (Or.inr fun c k hc => z4 c k (by omega)) (Or.inr fun c k hc => z4 c k (by omega)) (Or.inl ?_)⟩
      · rw [c7, if_pos (m1.mpr hm), e58, if_pos (show nI S < (16 : Int32) from (nI_lt hS2 (by decide) : nI S < nI 16)), bnd_of _ y1]
      · unfold fX8_lay
        rw [y4 73 12 (by omega), m3 73 12 (by omega), t2, if_neg (by decide), bnd_of _ x2, if_pos (k1.mpr hm), e65, if_neg (fun e => by have := nI_injN (a := S) (b := 16) (by omega) (by omega) e; omega), vthen_q, vthen_q, grd_eq _ (inb_nI (by omega) (by decide)), vthen_q, vthen_q, vthen_q, nI_clamp (by omega)]
        exact z1
      · obtain ⟨a0, b0, a1, b1, a2, b2, a3, b3⟩ := y6
        obtain ⟨c0, d0, c1, d1, c2, d2, c3, d3⟩ := z7
        have g58 : ∀ c k, 58 ≤ c ∧ c ≤ 62 → gI r3 c k = gI s1 c k := fun c k hc => (z6 c k hc).trans (k3 c k (by omega))
        have g109 : ∀ c k, 109 ≤ c ∧ c ≤ 112 → gI r2 c k = gI σ c k := fun c k hc => by rw [hK2 c k (by omega), y4 c k (by omega)]; exact m3 c k (by omega)
        refine ⟨S + 1, by omega, by rw [g58 58 0 (by omega)]; exact y5, z5, fun t ht => ?_⟩
        rw [g58 59 t (by omega), g58 60 t (by omega), g58 61 t (by omega), z4 f 5 (by omega), e5]
        by_cases ct : t = S
        · subst ct
          refine ⟨a0.trans c0.symm, a1.trans c1.symm, a2.trans c2.symm, fun q' hq hq12 => ?_⟩
          have hq' : q' < Q := nI_ltN hq (by omega) (by omega)
          rw [g58 62 _ (by omega)]
          exact (a3 q' hq').trans (c3 q' hq').symm
        · obtain ⟨o1, o2, o3, o4⟩ := hrow t (by omega)
          refine ⟨?_, ?_, ?_, fun q' hq hq12 => ?_⟩
          · rw [b0 t ct, d0 t ct, g109 109 t (by omega), hK1 59 t (by omega)]; exact o1
          · rw [b1 t ct, d1 t ct, g109 110 t (by omega), hK1 60 t (by omega)]; exact o2
          · rw [b2 t ct, d2 t ct, g109 111 t (by omega), hK1 61 t (by omega)]; exact o3
          · have hq' : q' < Q := nI_ltN hq (by omega) (by omega)
            rw [g58 62 _ (by omega), b3 _ (by omega), d3 _ (by omega), g109 112 _ (by omega), hK1 62 _ (by omega)]; exact o4 q' hq'
    · have hS3 : S = 16 := by omega
      subst hS3
      obtain ⟨⟨fb, r2⟩, x2, k1, k2, hK2, k3, k4⟩ := hfin σ r1 h8 hK1
      dsimp only at k1 k2 hK2 k3 k4
      refine ⟨-3, r1, r2, ?_, ?_, Rel.kj h (k2.trans m2) hK2⟩
      · rw [c7, if_pos (m1.mpr hm), e58, if_neg (by decide)]
      · unfold fX8_lay
        rw [m3 73 12 (by omega), t2, if_neg (by decide), bnd_of _ x2, if_pos (k1.mpr hm), hK2 73 65 (by omega), s65, if_pos (show nI 16 = (16 : Int32) from rfl)]
  · obtain ⟨⟨fb, r2⟩, x2, k1, k2, hK2, k3, k4⟩ := hfin σ r1 h8 hK1
    dsimp only at k1 k2 hK2 k3 k4
    refine ⟨-2, r1, r2, ?_, ?_, Rel.kj h (k2.trans m2) hK2⟩
    · rw [c7, if_neg fun e => hm (m1.mp e)]
    · unfold fX8_lay
      rw [m3 73 12 (by omega), t2, if_neg (by decide), bnd_of _ x2, if_neg fun e => hm (k1.mp e)]
