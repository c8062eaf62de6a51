/-! Rank kept. -/
/-- the rank by so many boxes -/
def rkW (D : Nat → Nat) (k0 k : Nat) (n : Int32) : Int32 := if nI (D k) ≤ nI (D k0) then n else n + 1
theorem rankQ7 {r : SS} {f T k0 : Nat} {D : Nat → Nat} (hT : T ≤ 72) (hk : k0 < T) (e6 : gI r f 6 = nI T) (hD : ∀ k, k < T → gI r 51 k = nI (D k)) : fX3_rankOf r f (nI k0) = some (itr (rkW D k0) 1 T) := by
  unfold fX3_rankOf X3_rankOf_L5
  refine lp_2 (fun i => itr (rkW D k0) 1 i) (fun i => nI i) T _ (fun i hi rec => ?_) (fun rec => ?_) fuel (fuel_gt (by omega))
  · rw [e6, if_neg (nI_ge hi (by omega)), grd_eq _ (inb_nI (by omega) (by decide)), grd_eq _ (inb_nI (by omega) (by decide)), nI_clamp (by omega), nI_clamp (by omega), hD i hi, hD k0 hk, nI_1]
    show _ = rec (if nI (D i) ≤ nI (D k0) then _ else _) _
    by_cases c : nI (D i) ≤ nI (D k0)
    · rw [if_pos c, if_pos c]
    · rw [if_neg c, if_neg c]
  · rw [e6, if_pos (nI_le (Nat.le_refl _) (by omega))]
theorem rankQ8 {r : SS} {b Q p0 i0 : Nat} {N D : Nat → Nat} (hb : b < 2) (hQ : Q ≤ 12) (eq : fX8_questions r = some (nI Q)) (e11 : gI r 73 11 = nI b) (hN : ∀ p, p < Q → N p ≤ 6 ∧ gI r 77 (12 * b + p) = nI (N p)) (hD : ∀ p, p < Q → ∀ i, i < N p → gI r 106 (6 * p + i) = nI (D (psum N p + i))) (hp0 : p0 < Q) (hi0 : i0 < N p0) : X8_rank_L26 r (nI p0) (nI i0) fuel (1 : Int32) (0 : Int32) = some (itr (rkW D (psum N p0 + i0)) 1 (psum N Q), r) := by
  unfold X8_rank_L26
  refine lp_2 (fun q => itr (rkW D (psum N p0 + i0)) 1 (psum N q)) (fun q => nI q) Q _ (fun q hq rec => ?_) (fun rec => ?_) fuel (fuel_gt (by omega))
  · rw [eq, bnd1_some, if_neg (nI_ge hq (by omega))]
    obtain ⟨n2, g77⟩ := hN q hq
    obtain ⟨n2', -⟩ := hN p0 hp0
    unfold X8_rank_L38
    refine (lp_2 (fun i => itr (rkW D (psum N p0 + i0)) 1 (psum N q + i)) (fun i => nI i) (N q) (rec (itr (rkW D (psum N p0 + i0)) 1 (psum N q + N q)) (nI (q + 1))) (fun i hi rec2 => ?_) (fun rec2 => ?_) fuel (fuel_gt (by omega)))
    · rw [boxesOf_eq hb e11 (by omega) g77, bnd1_some, if_neg (nI_ge hi (by omega)), e6p, e6p, grd_eq _ (inb_nI (by omega) (by decide)), grd_eq _ (inb_nI (by omega) (by decide)), nI_clamp (by omega), nI_clamp (by omega), hD q hq i hi, hD p0 hp0 i0 hi0, nI_1]
      show _ = rec2 (if nI (D (psum N q + i)) ≤ nI (D (psum N p0 + i0)) then itr (rkW D (psum N p0 + i0)) 1 (psum N q + i) else itr (rkW D (psum N p0 + i0)) 1 (psum N q + i) + 1) _
      by_cases c : nI (D (psum N q + i)) ≤ nI (D (psum N p0 + i0))
      · rw [if_pos c, if_pos c, vthen_q, Int32.add_zero]
      · rw [if_neg c, if_neg c, vthen_q]
    · rw [boxesOf_eq hb e11 (by omega) g77, bnd1_some, if_pos (nI_le (Nat.le_refl _) (by omega)), nI_1]
  · rw [eq, bnd1_some, if_pos (nI_le (Nat.le_refl _) (by omega))]
theorem op27 : ∀ a σ, Rel σ → st27 Rel a σ := by
  intro a σ ⟨s, f, h⟩
  obtain ⟨hs, hf, hR1, -, hR5, -⟩ := id h.1
  rcases h.2.2.2.2.2.2.2.1.told with ⟨t1, t2, t3, t4⟩ | ⟨t1, t2⟩
  · refine ⟨-1, σ, σ, ?_, ?_, s, f, h⟩
    · unfold fX7_rank fX1_hasBox
      simp only [vthen_q]
      rw [hR5, if_neg (by rw [hasQ_eq (Q := 0) (by omega) t3]; omega), bnd1_some, if_neg (by decide)]
    · obtain ⟨bb, i1, i2⟩ := isQ_eq (σ := σ) (Q := 0) (by omega) t4 (a 1)
      unfold fX8_rank fX8_isBox
      simp only [vthen_q]
      rw [bnd1_of _ i1, if_neg (by rw [i2]; omega), bnd1_some, if_neg (by decide)]
  obtain ⟨w, q, spk, b, U, V, A, B, Q, N, cx, cy, h7, h8, e5, -, hF⟩ := h.ctx t1
  obtain ⟨-, -, -, -, -, -, -, -, -, -, -, -, -, hQ, hHd, hN⟩ := id h8
  have eq := quest8 hHd
  have c7 := hasQ_eq hQ e5 (a 1)
  obtain ⟨bb, i1, i2⟩ := isQ_eq (σ := σ) hQ eq (a 1)
  by_cases hc : 0 ≤ (a 1).toInt ∧ (a 1).toInt < Q
  · obtain ⟨p, hp, ep⟩ := in_of (x := a 1) (by omega) hc
    obtain ⟨⟨n1, n2⟩, g77, -⟩ := hN p hp
    obtain ⟨f2, f3, -⟩ := hF p hp
    obtain ⟨b1, u1, u2⟩ := hasBox_eq hQ e5 hp n2 f3 (a 2)
    by_cases cb : 0 ≤ (a 2).toInt ∧ (a 2).toInt < N p
    · obtain ⟨i, hi, ei⟩ := in_of (x := a 2) (by omega) cb
      obtain ⟨⟨mb, r1⟩, x1, m1, m2, m3, m4⟩ := measure7 h7
      dsimp only at m1 m2 m3 m4
      have mF : ∀ c k, ¬ (33 ≤ c ∧ c ≤ 57) → ¬ (c = 31 ∧ k = 6) → gI r1 c k = gI σ c k := fun c k c1 c2 => m3 c k (by omega) c2
      obtain ⟨⟨fb, r2⟩, x2, k1, k2, k3, k4⟩ := finds8 (h8.mono mF)
      dsimp only at k1 k2 k3 k4
      have kF : ∀ c k, ¬ (91 ≤ c ∧ c ≤ 108) → c ≠ 73 → ¬ (33 ≤ c ∧ c ≤ 57) → c ≠ 31 → gI r2 c k = gI σ c k := fun c k c1 c2 c3 c4 => by rw [k3 c k (by omega) (by omega), mF c k (by omega) (by omega)]
      have eq1 : fX8_questions r1 = some (nI Q) := quest8 (h8.mono mF).2.2.2.2.2.2.2.2.2.2.2.2.2.2.1
      have e11' : gI r1 73 11 = nI b := by rw [mF _ _ (by omega) (by omega)]; exact hHd.2.2.1
      have g77' : gI r1 77 (12 * b + p) = nI (N p) := by rw [mF _ _ (by omega) (by omega)]; exact g77
      have hrel : Rel r2 := Rel.jd3 h (k2.trans m2) fun c k hc => by rw [k3 c k (by omega) (by omega), mF c k (by omega) (by omega)]
      have hT72 : psum N Q ≤ 72 := h7.2.2.2.2.2.2.2.2.2.2.2.2.2.2.2.1
      have e6 : gI σ f 6 = nI (psum N Q) := h7.2.2.2.2.2.2.2.2.2.2.2.2.2.2.2.2.2.2.2.2.1
      have hk := psum_lt hp hi
      obtain ⟨b2, w1, w2⟩ := isBox_eq (σ := r1) hQ eq1 hHd.1 e11' hp g77' n2 (a 2)
      suffices hh : ∃ v, fX7_rank σ (a 1) (a 2) = some (v, r1) ∧ fX8_rank r1 (a 1) (a 2) = some (v, r2) by
        obtain ⟨v, v1, v2⟩ := hh
        exact ⟨v, r1, r2, v1, v2, hrel⟩
      unfold fX7_rank fX8_rank
      rw [hR5, hR1, ep, bnd1_of _ u1, if_pos (by rw [u2]; exact cb), bnd1_of _ w1, if_pos (w2.mpr cb), bnd_of _ x1, bnd_of _ x2]
      by_cases hm : frU (mkB w q spk (gI σ 88 2) (inkP (gI σ 88 0) (gI σ 83))) 4
      · obtain ⟨d1, d2⟩ := m4 hm
        obtain ⟨d3, d4⟩ := k4 hm
        rw [if_pos (m1.mpr hm), if_pos (k1.mpr hm), show gR r1 1 5 = f by rw [m2]; exact hR5, ei, nI_clamp (by omega), grd_eq _ (inb_nI (by omega) (by decide)), mF _ _ (by omega) (by omega), f2, nI_add, bnd1_of _ (rankQ7 hT72 hk (by rw [mF _ _ (by omega) (by omega)]; exact e6) d1), rankQ8 hHd.1 hQ (quest8 (hHd.fr (fun k hk => by rw [k3 _ _ (by omega) (by omega), mF _ _ (by omega) (by omega)]) fun k => kF _ _ (by omega) (by omega) (by omega) (by omega))) (by rw [k3 _ _ (by omega) (by omega)]; exact e11') (fun p hp => ⟨(hN p hp).1.2, by rw [kF _ _ (by omega) (by omega) (by omega) (by omega)]; exact (hN p hp).2.1⟩) d3 hp hi]
        exact ⟨_, rfl, rfl⟩
      · rw [if_neg fun e => hm (m1.mp e), if_neg fun e => hm (k1.mp e)]
        exact ⟨_, rfl, rfl⟩
    · obtain ⟨b2, w1, w2⟩ := isBox_eq (σ := σ) hQ eq hHd.1 hHd.2.2.1 hp g77 n2 (a 2)
      refine ⟨-1, σ, σ, ?_, ?_, s, f, h⟩
      · unfold fX7_rank
        rw [hR5, ep, bnd1_of _ u1, if_neg (by rw [u2]; exact cb)]
      · unfold fX8_rank
        rw [ep, bnd1_of _ w1, if_neg fun e => cb (w2.mp e)]
  · refine ⟨-1, σ, σ, ?_, ?_, s, f, h⟩
    · unfold fX7_rank fX1_hasBox
      simp only [vthen_q]
      rw [hR5, if_neg (by rw [c7]; exact hc), bnd1_some, if_neg (by decide)]
    · unfold fX8_rank fX8_isBox
      simp only [vthen_q]
      rw [bnd1_of _ i1, if_neg (by rw [i2]; exact hc), bnd1_some, if_neg (by decide)]
