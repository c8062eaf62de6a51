/-! Steady kept: the reference's walk, and both. -/
section WALK
variable {w q spk : Nat} {lvl mk : Int32} {pic : Nat → Int32} {b U V A B Q : Nat} {N cx cy D : Nat → Nat} {P : Nat} {σ s : SS} {p : Nat}
theorem walk8 (h8 : C8 w q spk lvl mk pic b U V A B Q N cx cy σ) (hG : G8 Q N D P σ s) (hp : p < Q) {an0 se0 u5 : Int32} {nx : Nat → Nat} {K : Nat → Prop} {dist : Nat → Nat} {z : Nat → Prop}
    (hz : ∀ c, c ≤ 201 → ∀ an se ru st, JQ (fun i => D (psum N p + i)) P (N p) (gI σ 76 (12 * b + p) = 1) (nI c) (gI σ 88 4) (gI σ 88 5) an se ru st → ((an = an0 ∧ se = se0) ↔ z c))
    (hx : ∀ c, 1 ≤ c → c ≤ 200 → nI c + u5 = nI (nx c) ∧ nx c ≤ 201 ∧ (1 ≤ nx c → nx c ≤ 200 → dist (nx c) < dist c))
    (hK : ∀ c, K c → 1 ≤ c → c ≤ 200 → 1 ≤ nx c → nx c ≤ 200 → K (nx c)) {m0 : Nat} (hd : dist m0 ≤ 201) (h0 : K m0 ∧ 1 ≤ m0 ∧ m0 ≤ 200 ∧ z m0) :
    WP (X8_steady_L73 (nI p) an0 se0 u5 fuel (nI m0) (1 : Int32) s) (fun w => gR w.2 = gR s ∧ Kj σ w.2 ∧ ∃ c, w.1 = nI c ∧ K c ∧ 1 ≤ c ∧ c ≤ 200 ∧ z c ∧ ¬ (1 ≤ nx c ∧ nx c ≤ 200 ∧ z (nx c))) := by
  unfold X8_steady_L73
  refine wl_3 (fun d (v6 v7 : Int32) t => gR t = gR s ∧ G8 Q N D P σ t ∧ ∃ c, v6 = nI c ∧ K c ∧ 1 ≤ c ∧ c ≤ 200 ∧ z c ∧ ((v7 = 1 ∧ d = dist c + 1) ∨ (v7 = 0 ∧ d = 0 ∧ ¬ (1 ≤ nx c ∧ nx c ≤ 200 ∧ z (nx c))))) ?_ fuel (dist m0 + 1) _ _ _ (fuel_gt (by omega)) ⟨rfl, hG, m0, rfl, h0.1, h0.2.1, h0.2.2.1, h0.2.2.2, Or.inl ⟨rfl, rfl⟩⟩
  rintro d _ v7 t ⟨g1, hG, c, rfl, k1, k2, k3, k4, h⟩ rec hr
  rcases h with ⟨rfl, rfl⟩ | ⟨rfl, rfl, k5⟩
  · obtain ⟨x1, x2, x3⟩ := hx c k2 k3
    rw [if_neg (by decide), x1]
    refine wp_bnd1 (hG.j h8 hp (nI (nx c))) ?_
    rintro r ⟨y1, y2, y3, -⟩
    have hi := hz (nx c) x2 _ _ _ _ y3
    refine wp_vk1 (fun x : Int32 => (x = 1 ∧ (1 ≤ nx c ∧ nx c ≤ 200 ∧ z (nx c))) ∨ (x = 0 ∧ ¬ (1 ≤ nx c ∧ nx c ≤ 200 ∧ z (nx c)))) ?_ fun j hj => ?_
    · rintro x (⟨rfl, hg⟩ | ⟨rfl, hg⟩)
      · rw [if_neg (by decide)]
        exact wp_v (hr (dist (nx c) + 1) _ _ _ (by have := x3 hg.1 hg.2.1; omega) ⟨y1.trans g1, y2, nx c, rfl, hK c k1 k2 k3 hg.1 hg.2.1, hg.1, hg.2.1, hg.2.2, Or.inl ⟨rfl, rfl⟩⟩)
      · rw [if_pos rfl]
        exact wp_v (hr 0 _ _ _ (by omega) ⟨y1.trans g1, y2, c, Int32.add_zero _, k1, k2, k3, k4, Or.inr ⟨rfl, rfl, hg⟩⟩)
    · refine wp_vk1 (fun _ : Unit => ¬ (1 ≤ nx c ∧ nx c ≤ 200 ∧ z (nx c))) (fun _ hg => hj _ (Or.inr ⟨rfl, hg⟩)) fun j2 hj2 => ?_
      have ei : (fX8_in r (nI (nx c)) 1 200 = true) = (1 ≤ nx c ∧ nx c ≤ 200) := by
        rw [in_eq, le_i, le_i, nI_toInt (by omega)]
        simp only [Int32.reduceToInt]
        exact propext (by omega)
      refine wp_if (fun c1 => wp_if (fun c2 => wp_if (fun c3 => hj _ (Or.inl ⟨rfl, ?_⟩)) fun c3 => hj2 _ ?_) fun c2 => hj2 _ ?_) fun c1 => hj2 _ ?_
      · rw [ei] at c1; exact ⟨c1.1, c1.2, hi.mp ⟨c2, c3⟩⟩
      · exact fun q => c3 (hi.mpr q.2.2).2
      · exact fun q => c2 (hi.mpr q.2.2).1
      · rw [ei] at c1; exact fun q => c1 ⟨q.1, q.2.1⟩
  · rw [if_pos rfl]
    exact wp_some ⟨g1, hG.1, c, rfl, k1, k2, k3, k4, k5⟩
end WALK
theorem nI_dn {c : Nat} (h : 1 ≤ c) : nI c + (-1 : Int32) = nI (c - 1) := by
  obtain ⟨k, rfl⟩ : ∃ k, c = k + 1 := ⟨c - 1, by omega⟩
  rw [show nI (k + 1) = nI k + 1 from (nI_1 k).symm, Int32.add_assoc, show (1 : Int32) + (-1) = 0 by decide, Int32.add_zero]
  rfl
theorem op29 : ∀ a σ, Rel σ → st29 Rel a σ := by
  intro a σ ⟨s, f, h⟩
  obtain ⟨hs, hf, hR1, -, hR5, -⟩ := id h.1
  have z1 : (1 : Int32).toInt = 1 := rfl
  have z0 : (0 : Int32).toInt = 0 := rfl
  rcases h.2.2.2.2.2.2.2.1.told with ⟨t1, t2, t3, t4⟩ | ⟨t1, t2⟩
  · refine ⟨-1, σ, σ, ?_, ?_, s, f, h⟩
    · unfold fX7_steady
      rw [hR5, if_neg (by rw [hasQ_eq (Q := 0) (by omega) t3]; omega)]
    · obtain ⟨bb, i1, i2⟩ := isQ_eq (σ := σ) (Q := 0) (by omega) t4 (a 1)
      unfold fX8_steady
      rw [bnd1_of _ i1, if_neg (by rw [i2]; omega)]
  obtain ⟨w, q, spk, b, U, V, A, B, Q, N, cx, cy, D, P, m, h8, e5, -, hT, hDP, ⟨mb, r1, x1, m1, m2, hK1, m3, m4⟩, hfin⟩ := h.readR t1
  obtain ⟨-, -, -, -, -, -, -, -, -, -, -, -, -, hQ, hHd, hN⟩ := id h8
  obtain ⟨m0, hm0, e88⟩ := h.2.2.2.2.1.mg
  have e32 : gI σ 32 3 = nI m0 := (h.2.2.2.2.1 3 (by omega)).1.trans e88
  have eq := quest8 hHd
  have c7 := hasQ_eq hQ e5 (a 1)
  obtain ⟨bb, i1, i2⟩ := isQ_eq (σ := σ) hQ eq (a 1)
  by_cases hc : (0 ≤ (a 1).toInt ∧ (a 1).toInt < Q) ∧ 0 ≤ (a 2).toInt ∧ (a 2).toInt < 2
  · obtain ⟨p, hp, ep⟩ := in_of (x := a 1) (by omega) hc.1
    obtain ⟨what, hwh, ew⟩ := in_of (x := a 2) (w := 2) (by decide) hc.2
    obtain ⟨⟨fb, r2⟩, x2, k1, k2, hK2, k3, k4⟩ := hfin σ r1 h8 hK1
    dsimp only at k1 k2 hK2 k3 k4
    have eq1 : fX8_questions r1 = some (nI Q) := quest8 (hHd.fr (fun k hk => hK1 _ _ (by omega)) fun k => hK1 _ _ (by omega))
    obtain ⟨bb1, i1', i2'⟩ := isQ_eq (σ := r1) hQ eq1 (a 1)
    have c7' : fX7_steady σ (a 1) (a 2) = (if mb = true then (if a 2 = (0 : Int32) then (bnd1 (fX3_leastMargin r1 (a 1)) fun v8 => some (v8, r1)) else (bnd1 (fX3_greatestMargin r1 (a 1)) fun v5 => some (v5, r1))) else some ((-2 : Int32), r1)) := by
      unfold fX7_steady
      rw [hR5, hR1, if_pos (by rw [c7]; exact hc.1)]
      simp only [lt_i, le_i]
      rw [if_neg (by omega), if_pos (by omega), bnd_of _ x1]
    unfold st29
    rw [c7']
    by_cases hm : m
    · rw [if_pos (m1.mpr hm)]
      obtain ⟨d1, jq⟩ := m4 hm
      obtain ⟨j1, -⟩ := jq p hp
      obtain ⟨⟨n1, n2⟩, -⟩ := hN p hp
      have hT0 : psum N p + 0 < psum N Q := psum_lt hp (by omega)
      have hP : P ≤ 324 := by have := (hDP 0).2 (by omega); have := (hDP 0).1; omega
      obtain ⟨t, ht, hst, hs1⟩ := stQ_n (D := fun i => D (psum N p + i)) (P := P) (n := N p) (fun k => (hDP _).1) hP n1 fun k hk => (hDP _).2 (psum_lt hp hk)
      have e56 : gI r1 56 p = nI t := by obtain ⟨y, -, -, -, -, y5⟩ := j1; exact y5.trans hst
      have e32' : gI r1 32 3 = nI m0 := by rw [hK1 32 3 (by omega)]; exact e32
      have hG := k4 hm
      have e3' : gI r2 88 3 = nI m0 := by rw [hK2 88 3 (by omega)]; exact e88
      obtain ⟨r3, y1, y2, y3, y4, -⟩ := hG.j h8 hp (nI m0)
      have e3'' : gI r3 88 3 = nI m0 := by rw [y3.1 88 3 (by omega)]; exact e88
      have hz : ∀ c, c ≤ 201 → ∀ an se ru st, JQ (fun i => D (psum N p + i)) P (N p) (gI σ 76 (12 * b + p) = 1) (nI c) (gI σ 88 4) (gI σ 88 5) an se ru st → ((an = gI r3 73 55 ∧ se = gI r3 73 56) ↔ zN t c = zN t m0) := fun c hc an se ru st hj => y4.zone ⟨n1, n2⟩ ht hst hs1 (by omega) (by omega) hj
      have c8' : fX8_steady r1 (a 1) (a 2) = X8_steady_L73 (nI p) (gI r3 73 55) (gI r3 73 56) (if a 2 = 0 then (-1) else 1) fuel (nI m0) (1 : Int32) r3 := by
        unfold fX8_steady
        rw [bnd1_of _ i1', if_pos (by rw [i2']; exact hc.1), if_pos (by rw [in_eq, le_i, le_i]; omega), bnd_of _ x2, if_pos (k1.mpr hm), ep, e3', bnd1_of _ y1]
        simp only [vthen_q]
        rw [e3'']
        by_cases c : a 2 = 0
        · rw [if_pos c, if_pos c]
        · rw [if_neg c, if_neg c]
      rw [ep]
      rw [ep] at c8'
      by_cases c : a 2 = 0
      · rw [if_pos c, bnd1_of _ (least7 (by omega) e56 e32' ht hm0.2)]
        obtain ⟨⟨v, r4⟩, u1, u2, u3, c', rfl, u4, u5, u6, u7, u8⟩ := walk8 h8 y3 hp (u5 := -1) (nx := fun c => c - 1) (K := fun c => c ≤ m0) (dist := fun c => c) (m0 := m0) hz (fun c c1 c2 => ⟨nI_dn c1, by omega, fun _ _ => by omega⟩) (fun c c1 c2 c3 c4 c5 => by omega) (by omega) ⟨Nat.le_refl _, hm0.1, hm0.2, rfl⟩
        dsimp only at u2 u3
        refine ⟨_, r1, r4, rfl, ?_, Rel.kj h (u2.trans (y2.trans (k2.trans m2))) u3⟩
        rw [c8', if_pos c, u1, zn_lo u5 u4 hm0.2 u7 u8]
      · rw [if_neg c, bnd1_of _ (great7 (by omega) e56 e32' ht hm0.2)]
        obtain ⟨⟨v, r4⟩, u1, u2, u3, c', rfl, u4, u5, u6, u7, u8⟩ := walk8 h8 y3 hp (u5 := 1) (nx := fun c => c + 1) (K := fun c => m0 ≤ c) (dist := fun c => 201 - c) (m0 := m0) hz (fun c c1 c2 => ⟨nI_1 c, by omega, fun _ _ => by omega⟩) (fun c c1 c2 c3 c4 c5 => by omega) (by omega) ⟨Nat.le_refl _, hm0.1, hm0.2, rfl⟩
        dsimp only at u2 u3
        refine ⟨_, r1, r4, rfl, ?_, Rel.kj h (u2.trans (y2.trans (k2.trans m2))) u3⟩
        rw [c8', if_neg c, u1, zn_hi u6 u4 hm0.1 u7 u8]
    · rw [if_neg fun e => hm (m1.mp e)]
      refine ⟨_, r1, r2, rfl, ?_, Rel.kj h (k2.trans m2) hK2⟩
      unfold fX8_steady
      rw [bnd1_of _ i1', if_pos (by rw [i2']; exact hc.1), if_pos (by rw [in_eq, le_i, le_i]; omega), bnd_of _ x2, if_neg fun e => hm (k1.mp e)]
  · refine ⟨-1, σ, σ, ?_, ?_, s, f, h⟩
    · unfold fX7_steady
      rw [hR5]
      by_cases c1 : 0 ≤ (a 1).toInt ∧ (a 1).toInt < Q
      · rw [if_pos (by rw [c7]; exact c1)]
        simp only [lt_i, le_i]
        by_cases c2 : (a 2).toInt < (0 : Int32).toInt
        · rw [if_pos c2]
        · rw [if_neg c2, if_neg (by omega)]
      · rw [if_neg (by rw [c7]; exact c1)]
    · unfold fX8_steady
      rw [bnd1_of _ i1]
      by_cases c1 : 0 ≤ (a 1).toInt ∧ (a 1).toInt < Q
      · rw [if_pos (by rw [i2]; exact c1), if_neg (by rw [in_eq, le_i, le_i]; omega)]
      · rw [if_neg (by rw [i2]; exact c1)]
