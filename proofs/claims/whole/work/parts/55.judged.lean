/-! Judged, unlike kept. -/
/-- nothing but scratch of the judging -/
def Kj (σ s : SS) : Prop := ∀ c k, ¬ (c = 31 ∨ (33 ≤ c ∧ c ≤ 57) ∨ (91 ≤ c ∧ c ≤ 108) ∨ (c = 73 ∧ ¬ (k = 1 ∨ k = 11 ∨ k = 12 ∨ k = 29 ∨ k = 30 ∨ k = 31 ∨ k = 65))) → gI s c k = gI σ c k
def G8 (Q : Nat) (N D : Nat → Nat) (P : Nat) (σ s : SS) : Prop := Kj σ s ∧ (∀ p, p < Q → ∀ i, i < N p → gI s 106 (6 * p + i) = nI (D (psum N p + i))) ∧ (0 < psum N Q → gI s 73 54 = nI P)
section G8S
variable {w q spk : Nat} {lvl mk : Int32} {pic : Nat → Int32} {b U V A B Q : Nat} {N cx cy D : Nat → Nat} {P : Nat} {σ s : SS}
theorem G8.j {p : Nat} (h8 : C8 w q spk lvl mk pic b U V A B Q N cx cy σ) (hG : G8 Q N D P σ s) (hp : p < Q) (m : Int32) : WP (fX8_judges s (nI p) m) (fun r => gR r = gR s ∧ G8 Q N D P σ r ∧ JQ (fun i => D (psum N p + i)) P (N p) (gI σ 76 (12 * b + p) = 1) m (gI σ 88 4) (gI σ 88 5) (gI r 73 55) (gI r 73 56) (gI r 73 57) (gI r 73 58) ∧ ∀ c k, c ≠ 107 → ¬ (c = 73 ∧ 55 ≤ k ∧ k ≤ 58) → gI r c k = gI s c k) := by
  obtain ⟨hK, hD, hP⟩ := hG
  obtain ⟨-, -, -, -, -, -, -, -, -, -, -, -, -, hQ, hH, hN⟩ := h8
  obtain ⟨n1, n2, -⟩ := hN p hp
  have hT : psum N p + 0 < psum N Q := psum_lt hp (by omega)
  refine wp_imp (judge8 (σ := s) (p := p) (n := N p) (P := P) (D := fun i => D (psum N p + i)) (m := m) hH.1 (by omega) n1 (by rw [hK _ _ (by omega)]; exact hH.2.2.1) (by rw [hK _ _ (by omega)]; exact n2) (fun i hi => hD p hp i hi) (hP (by omega)) (hK 88 4 (by omega)) (hK 88 5 (by omega))) ?_
  rintro r ⟨j1, j2, j3⟩
  rw [hK 76 _ (by omega)] at j3
  exact ⟨j1, ⟨fun c k hc => by rw [j2 c k (by omega) (by omega)]; exact hK c k hc, fun p' hp' i hi => by rw [j2 _ _ (by omega) (by omega)]; exact hD p' hp' i hi, fun h => by rw [j2 _ _ (by omega) (by omega)]; exact hP h⟩, j3, j2⟩
theorem pts8 {p : Nat} (h8 : C8 w q spk lvl mk pic b U V A B Q N cx cy σ) (hK : Kj σ s) (hp : p < Q) : fX8_pointsOf s (nI p) = some (gnS (gI σ 78 (12 * b + p)) (gI s 73 55) (gI s 73 56) (gI σ 79 (12 * b + p)) (gI σ 88 6)) := by
  obtain ⟨-, -, -, -, -, -, -, -, -, -, -, -, -, hQ, hH, hN⟩ := h8
  have e11 : gI s 73 11 = nI b := by rw [hK _ _ (by omega)]; exact hH.2.2.1
  have hb := hH.1
  have e5 : (12 : Int32) * nI b + nI p = nI (12 * b + p) := by rw [show (12 : Int32) = nI 12 from rfl, nI_mul, nI_add]
  unfold fX8_pointsOf fX8_worthOf gnS
  rw [keyOf_eq hb e11 (by omega), bnd1_some, bnd1_some, e11, e5, grd_eq _ (inb_nI (by omega) (by decide)), nI_clamp (by omega), bnd1_some, hK 78 _ (by omega), hK 79 _ (by omega), hK 88 6 (by omega)]
  by_cases c1 : gI σ 78 (12 * b + p) = 0
  · rw [if_pos c1, if_pos c1]
  rw [if_neg c1, if_neg c1]
  by_cases c2 : gI s 73 56 = 0
  · rw [if_pos c2, if_pos c2]
    by_cases c3 : gI s 73 55 = gI σ 78 (12 * b + p)
    · rw [if_pos c3, if_pos c3]
    rw [if_neg c3, if_neg c3]
    by_cases c4 : gI s 73 55 = 0
    · rw [if_pos c4, if_pos c4]
    · rw [if_neg c4, if_neg c4]
  · rw [if_neg c2, if_neg c2]
/-- the reference finds, behind the class's reading -/
theorem finds8g {r1 : SS} (h8 : C8 w q spk lvl mk pic b U V A B Q N cx cy σ) (hK : Kj σ r1) : WP (fX8_finds r1) (fun r => (r.1 = true ↔ frU (mkB w q spk mk (inkP lvl pic)) 4) ∧ gR r.2 = gR r1 ∧ Kj σ r.2 ∧ (∀ c k, c < 73 → gI r.2 c k = gI r1 c k) ∧ (frU (mkB w q spk mk (inkP lvl pic)) 4 → G8 Q N (dkD w q spk lvl mk pic U V A B cx cy) (pN (dkD w q spk lvl mk pic U V A B cx cy) (psum N Q)) σ r.2)) := by
  refine wp_imp (finds8 (h8.fr (σ' := r1) fun c k hc => hK c k (by omega))) ?_
  rintro ⟨fb, r⟩ ⟨k1, k2, k3, k4⟩
  dsimp only at k1 k2 k3 k4 ⊢
  have hK2 : Kj σ r := fun c k hc => by rw [k3 c k (by omega) (by omega)]; exact hK c k hc
  exact ⟨k1, k2, hK2, fun c k hc => k3 c k (by omega) (by omega), fun hm => ⟨hK2, (k4 hm).1, (k4 hm).2⟩⟩
end G8S
/-- both sides' reading of all questions, behind the relation -/
theorem RAll.readQ {s f : Nat} {σ : SS} (h : RAll s f σ) (ht : gI σ f 0 = 1) : ∃ (w q spk b U V A B Q : Nat) (N cx cy D : Nat → Nat) (P : Nat) (m : Prop), C8 w q spk (gI σ 88 0) (gI σ 88 2) (gI σ 83) b U V A B Q N cx cy σ ∧ gI σ f 5 = nI Q ∧ gI σ 73 12 = 1 ∧ (∀ p, p < Q → gI σ (f + 2) p = nI (psum N p) ∧ gI σ (f + 3) p = nI (N p)) ∧ psum N Q ≤ 72 ∧ (∀ k, D k ≤ 324) ∧
    (∃ mb r1, fX3_read σ s f = some (mb, r1) ∧ (mb = true ↔ m) ∧ gR r1 = gR σ ∧ Kj σ r1 ∧ (∀ c k, 73 ≤ c → gI r1 c k = gI σ c k) ∧ (m → (∀ k, k < psum N Q → gI r1 51 k = nI (D k)) ∧ ∀ p, p < Q → JQ (fun i => D (psum N p + i)) P (N p) (gI σ 76 (12 * b + p) = 1) (gI σ 88 3) (gI σ 88 4) (gI σ 88 5) (gI r1 53 p) (gI r1 54 p) (gI r1 55 p) (gI r1 56 p) ∧ gI r1 57 p = gnS (gI σ 78 (12 * b + p)) (gI r1 53 p) (gI r1 54 p) (gI σ 79 (12 * b + p)) (gI σ 88 6))) ∧
    ∀ r1, Kj σ r1 → WP (fX8_finds r1) (fun r => (r.1 = true ↔ m) ∧ gR r.2 = gR r1 ∧ Kj σ r.2 ∧ (∀ c k, c < 73 → gI r.2 c k = gI r1 c k) ∧ (m → G8 Q N D P σ r.2)) := by
  obtain ⟨w, q, spk, b, U, V, A, B, Q, N, cx, cy, h7, h8, e5, e12, hF⟩ := h.ctx ht
  have h5 := h.2.2.2.2.1
  have hT : psum N Q ≤ 72 := h7.2.2.2.2.2.2.2.2.2.2.2.2.2.2.2.1
  obtain ⟨hw, hq, hspk, e3, e4, hpc, el, es, em, hU, hV, hA, hB, hQ, hH, hN⟩ := id h8
  have hF7 : F7 f Q N σ := ⟨hQ, e5, hT, fun p hp => ⟨(hN p hp).1, (hF p hp).1, (hF p hp).2.1⟩⟩
  obtain ⟨⟨mb, r1⟩, x1, m1, m2, m3, m4⟩ := read7 h7 hF7
  dsimp only at m1 m2 m3 m4
  refine ⟨w, q, spk, b, U, V, A, B, Q, N, cx, cy, dkD w q spk (gI σ 88 0) (gI σ 88 2) (gI σ 83) U V A B cx cy, _, frU (mkB w q spk (gI σ 88 2) (inkP (gI σ 88 0) (gI σ 83))) 4, h8, e5, e12, fun p hp => ⟨(hF p hp).1, (hF p hp).2.1⟩, hT, fun k => dkD_le (fun k hk => (hpc k hk).2) hA.2 hB.2 k, ⟨mb, r1, x1, m1, m2, fun c k hc => m3 c k (by omega) (by omega), fun c k hc => m3 c k (by omega) (by omega), fun hm => ⟨(m4 hm).1, fun p hp => ?_⟩⟩, fun r1 hK => finds8g h8 hK⟩
  obtain ⟨j1, j2⟩ := (m4 hm).2 p hp
  obtain ⟨-, -, ⟨g4, -⟩, ⟨g5, -⟩, g1⟩ := hF p hp
  rw [(h5 3 (by omega)).1, (h5 4 (by omega)).1, (h5 5 (by omega)).1] at j1
  rw [(h5 6 (by omega)).1, g4, g5] at j2
  have ep : (gI σ (f + 1) p = 0) = (gI σ 76 (12 * b + p) = 1) := by
    rcases g1 with ⟨a1, a2⟩ | ⟨a1, a2⟩
    · rw [a1, a2]; exact propext ⟨fun _ => rfl, fun _ => rfl⟩
    · rw [a1, a2]; exact propext ⟨fun h => absurd h (by decide), fun h => absurd h (by decide)⟩
  rw [ep] at j1
  exact ⟨j1, j2⟩
theorem Rel.kj {s f : Nat} {σ r : SS} (h : RAll s f σ) (a1 : gR r = gR σ) (hK : Kj σ r) : Rel r := Rel.jd3 h a1 hK
theorem op25 : ∀ a σ, Rel σ → st25 Rel a σ := by
  intro a σ ⟨s, f, h⟩
  obtain ⟨hs, hf, hR1, -, hR5, -⟩ := id h.1
  rcases h.2.2.2.2.2.2.2.1.told with ⟨t1, t2, t3, t4⟩ | ⟨t1, t2⟩
  · refine ⟨-2147483648, σ, σ, ?_, ?_, s, f, h⟩
    · unfold fX7_judged
      rw [hR5, if_neg (by rw [hasQ_eq (Q := 0) (by omega) t3]; omega)]
    · obtain ⟨bb, i1, i2⟩ := isQ_eq (σ := σ) (Q := 0) (by omega) t4 (a 1)
      unfold fX8_judged
      rw [bnd1_of _ i1, if_neg (by rw [i2]; omega)]
  obtain ⟨w, q, spk, b, U, V, A, B, Q, N, cx, cy, D, P, m, h8, e5, -, hF, hT, -, ⟨mb, r1, x1, m1, m2, hK1, -, m4⟩, hfin⟩ := h.readQ t1
  obtain ⟨-, -, -, -, -, -, -, -, -, -, -, -, -, hQ, hHd, hN⟩ := id h8
  have eq := quest8 hHd
  have c7 := hasQ_eq hQ e5 (a 1)
  obtain ⟨bb, i1, i2⟩ := isQ_eq (σ := σ) hQ eq (a 1)
  by_cases hc : (0 ≤ (a 1).toInt ∧ (a 1).toInt < Q) ∧ 0 ≤ (a 2).toInt ∧ (a 2).toInt ≤ 4
  · obtain ⟨p, hp, ep⟩ := in_of (x := a 1) (by omega) hc.1
    obtain ⟨⟨fb, r2⟩, x2, k1, k2, hK2, k3, k4⟩ := hfin r1 hK1
    dsimp only at k1 k2 hK2 k3 k4
    have eq1 : fX8_questions r1 = some (nI Q) := quest8 (hHd.fr (fun k hk => hK1 _ _ (by omega)) fun k => hK1 _ _ (by omega))
    obtain ⟨bb1, i1', i2'⟩ := isQ_eq (σ := r1) hQ eq1 (a 1)
    have c7' : fX7_judged σ (a 1) (a 2) = (if mb = true then (if a 2 = (0 : Int32) then some (gI r1 53 p, r1) else if a 2 = (1 : Int32) then some (gI r1 54 p, r1) else if a 2 = (2 : Int32) then some (gI r1 55 p, r1) else if a 2 = (3 : Int32) then some (gI r1 56 p, r1) else some (gI r1 57 p, r1)) else some ((-1000 : Int32), r1)) := by
      unfold fX7_judged
      rw [hR5, hR1, if_pos (by rw [c7]; exact hc.1)]
      simp only [lt_i, le_i, Int32.reduceToInt]
      rw [if_neg (by omega), if_pos (by omega), bnd_of _ x1, ep, nI_clamp (by omega)]
      simp only [grd_eq _ (show inb (nI p) 12 = true from inb_nI (by omega) (by decide))]
    have c8' : fX8_judged r1 (a 1) (a 2) = (if fb = true then (bnd1 (fX8_judges r2 (nI p) (gI r2 88 3)) fun σ8 =>
        if a 2 = 0 then (
          some ((gI σ8 73 55), σ8)
          ) else (
          if a 2 = (1 : Int32) then (
            some ((gI σ8 73 56), σ8)
            ) else (
            if a 2 = (2 : Int32) then (
              some ((gI σ8 73 57), σ8)
              ) else (
              if a 2 = (3 : Int32) then (
                some ((gI σ8 73 58), σ8)
                ) else (
                bnd1 (fX8_pointsOf σ8 (nI p)) fun v9 =>
                some (v9, σ8)
                )
              )
            )
          )) else some ((-1000 : Int32), r2)) := by
      unfold fX8_judged
      have z4 : (4 : Int32).toInt = 4 := rfl
      have z : (0 : Int32).toInt = 0 := rfl
      rw [bnd1_of _ i1', if_pos (by rw [i2']; exact hc.1), if_pos (by rw [in_eq, le_i, le_i]; omega), bnd_of _ x2, ep]
    unfold st25
    rw [c7']
    by_cases hm : m
    · rw [if_pos (m1.mpr hm)]
      obtain ⟨j1, j2⟩ := (m4 hm).2 p hp
      have hG := k4 hm
      obtain ⟨r3, y1, y2, y3, y4, -⟩ := hG.j h8 hp (gI r2 88 3)
      have e3' : gI r2 88 3 = gI σ 88 3 := hK2 _ _ (by omega)
      rw [e3'] at y1 y4
      obtain ⟨z1, z2, z3, z4⟩ := j1.one y4
      have hg : gI r1 57 p = gnS (gI σ 78 (12 * b + p)) (gI r3 73 55) (gI r3 73 56) (gI σ 79 (12 * b + p)) (gI σ 88 6) := by rw [j2, z1, z2]
      have hrel : Rel r3 := Rel.kj h (y2.trans (k2.trans m2)) y3.1
      suffices hh : ∃ v, (if a 2 = (0 : Int32) then some (gI r1 53 p, r1) else if a 2 = (1 : Int32) then some (gI r1 54 p, r1) else if a 2 = (2 : Int32) then some (gI r1 55 p, r1) else if a 2 = (3 : Int32) then some (gI r1 56 p, r1) else some (gI r1 57 p, r1)) = some (v, r1) ∧ fX8_judged r1 (a 1) (a 2) = some (v, r3) by
        obtain ⟨v, v1, v2⟩ := hh
        exact ⟨v, r1, r3, v1, v2, hrel⟩
      rw [c8', if_pos (k1.mpr hm), e3', bnd1_of _ y1, pts8 h8 y3.1 hp, z1, z2, z3, z4, hg, bnd1_some]
      by_cases c0 : a 2 = 0
      · rw [if_pos c0, if_pos c0]; exact ⟨_, rfl, rfl⟩
      rw [if_neg c0, if_neg c0]
      by_cases c1 : a 2 = 1
      · rw [if_pos c1, if_pos c1]; exact ⟨_, rfl, rfl⟩
      rw [if_neg c1, if_neg c1]
      by_cases c2 : a 2 = 2
      · rw [if_pos c2, if_pos c2]; exact ⟨_, rfl, rfl⟩
      rw [if_neg c2, if_neg c2]
      by_cases c3 : a 2 = 3
      · rw [if_pos c3, if_pos c3]; exact ⟨_, rfl, rfl⟩
      rw [if_neg c3, if_neg c3]
      exact ⟨_, rfl, rfl⟩
    · rw [if_neg fun e => hm (m1.mp e)]
      exact ⟨_, r1, r2, rfl, by rw [c8', if_neg fun e => hm (k1.mp e)], Rel.kj h (k2.trans m2) hK2⟩
  · refine ⟨-2147483648, σ, σ, ?_, ?_, s, f, h⟩
    · unfold fX7_judged
      rw [hR5]
      by_cases c1 : 0 ≤ (a 1).toInt ∧ (a 1).toInt < Q
      · rw [if_pos (by rw [c7]; exact c1)]
        simp only [lt_i, le_i, Int32.reduceToInt]
        by_cases c2 : (a 2).toInt < 0
        · rw [if_pos c2]
        · rw [if_neg c2, if_neg (by omega)]
      · rw [if_neg (by rw [c7]; exact c1)]
    · unfold fX8_judged
      have z4 : (4 : Int32).toInt = 4 := rfl
      have z : (0 : Int32).toInt = 0 := rfl
      rw [bnd1_of _ i1]
      by_cases c1 : 0 ≤ (a 1).toInt ∧ (a 1).toInt < Q
      · rw [if_pos (by rw [i2]; exact c1), if_neg (by rw [in_eq, le_i, le_i]; omega)]
      · rw [if_neg (by rw [i2]; exact c1)]
theorem op33 : ∀ a σ, Rel σ → st33 Rel a σ := by
  intro a σ ⟨s, f, h⟩
  obtain ⟨hs, hf, hR1, -, hR5, -⟩ := id h.1
  have h9 := h.2.2.2.2.2.2.2.2.1
  rcases h.2.2.2.2.2.2.2.1.told with ⟨t1, t2, t3, t4⟩ | ⟨t1, t2⟩
  · refine ⟨-1, σ, σ, ?_, ?_, s, f, h⟩
    · unfold fX7_unlike; rw [hR5, t1, if_pos rfl]
    · unfold fX8_unlike; rw [t2, if_pos rfl]
  obtain ⟨w, q, spk, b, U, V, A, B, Q, N, cx, cy, D, P, m, h8, e5, -, hF, hT, -, ⟨mb, r1, x1, m1, m2, hK1, -, m4⟩, hfin⟩ := h.readQ t1
  obtain ⟨-, -, -, -, -, -, -, -, -, -, -, -, -, hQ, hHd, hN⟩ := id h8
  obtain ⟨⟨fb, r2⟩, x2, k1, k2, hK2, k3, k4⟩ := hfin r1 hK1
  dsimp only at k1 k2 hK2 k3 k4
  unfold st33 fX7_unlike
  rw [hR5, hR1, t1, if_neg (by decide), bnd_of _ x1]
  by_cases hm : m
  · rw [if_pos (m1.mpr hm)]
    obtain ⟨d1, jq⟩ := m4 hm
    have c7 : X7_unlike_L37 r1 fuel (0 : Int32) (0 : Int32) = some (itr (fun p n => if gI r1 53 p = gI r1 30 p then n else n + 1) 0 Q, r1) := by
      unfold X7_unlike_L37
      refine lp_2 (fun i => itr (fun p n => if gI r1 53 p = gI r1 30 p then n else n + 1) 0 i) (fun i => nI i) Q _ (fun i hi rec => ?_) (fun rec => ?_) fuel (fuel_gt (by omega))
      · rw [show gR r1 1 5 = f by rw [m2]; exact hR5, hK1 f 5 (by omega), e5, if_neg (nI_ge hi (by omega)), grd_eq _ (inb_nI (by omega) (by decide)), nI_clamp (by omega), nI_1]
        show _ = rec (if gI r1 53 i = gI r1 30 i then _ else _) _
        by_cases c : gI r1 53 i = gI r1 30 i
        · rw [if_pos c, if_pos c]
        · rw [if_neg c, if_neg c]
      · rw [show gR r1 1 5 = f by rw [m2]; exact hR5, hK1 f 5 (by omega), e5, if_pos (nI_le (Nat.le_refl _) (by omega))]
    have c8 : WP (X8_unlike_L23 fuel (0 : Int32) (0 : Int32) r2) (fun w => w.1 = itr (fun p n => if gI r1 53 p = gI r1 30 p then n else n + 1) 0 Q ∧ gR w.2 = gR r2 ∧ Kj σ w.2) := by
      unfold X8_unlike_L23
      refine wf_3 Q (fun i v c s => v = itr (fun p n => if gI r1 53 p = gI r1 30 p then n else n + 1) 0 i ∧ c = nI i ∧ gR s = gR r2 ∧ G8 Q N D P σ s) ⟨rfl, rfl, rfl, k4 hm⟩ (by omega) ?_ ?_
      · rintro p _ _ s7 rec hp ⟨rfl, rfl, i1, hG⟩ hr
        rw [quest8 (hHd.fr (fun k hk => hG.1 73 k (by omega)) fun k => hG.1 75 k (by omega)), bnd1_some, if_neg (nI_ge hp (by omega)), show gI s7 88 3 = gI σ 88 3 from hG.1 _ _ (by omega), nI_1]
        refine wp_bnd1 (hG.j h8 hp (gI σ 88 3)) ?_
        rintro r ⟨y1, y2, y3, -⟩
        obtain ⟨z1, -⟩ := (jq p hp).1.one y3
        rw [nI_clamp (by omega), y2.1 82 p (by omega), ← z1, ← (h9 p (by omega)).1, ← hK1 30 p (by omega)]
        refine wp_grd (inb_nI (by omega) (by decide)) ?_
        have es : itr (fun p n => if gI r1 53 p = gI r1 30 p then n else n + 1) (0 : Int32) (p + 1) = if gI r1 53 p = gI r1 30 p then itr (fun p n => if gI r1 53 p = gI r1 30 p then n else n + 1) (0 : Int32) p else itr (fun p n => if gI r1 53 p = gI r1 30 p then n else n + 1) (0 : Int32) p + 1 := rfl
        refine wp_if (fun c => wp_v (hr _ _ _ ⟨by rw [es, if_pos c, Int32.add_zero], rfl, y1.trans i1, y2⟩)) fun c => wp_v (hr _ _ _ ⟨by rw [es, if_neg c], rfl, y1.trans i1, y2⟩)
      · rintro _ _ s7 rec ⟨rfl, rfl, i1, hG⟩
        rw [quest8 (hHd.fr (fun k hk => hG.1 73 k (by omega)) fun k => hG.1 75 k (by omega)), bnd1_some, if_pos (nI_le (Nat.le_refl _) (by omega))]
        exact wp_some ⟨rfl, i1, hG.1⟩
    obtain ⟨⟨v, s2⟩, y2, y4, y5, y6⟩ := c8
    dsimp only at y4 y5 y6
    subst y4
    refine ⟨_, r1, s2, c7, ?_, Rel.kj h (y5.trans (k2.trans m2)) y6⟩
    unfold fX8_unlike
    rw [hK1 73 12 (by omega), t2, if_neg (by decide), bnd_of _ x2, if_pos (k1.mpr hm)]
    exact y2
  · rw [if_neg fun e => hm (m1.mp e)]
    refine ⟨_, r1, r2, rfl, ?_, Rel.kj h (k2.trans m2) hK2⟩
    unfold fX8_unlike
    rw [hK1 73 12 (by omega), t2, if_neg (by decide), bnd_of _ x2, if_neg fun e => hm (k1.mp e)]
