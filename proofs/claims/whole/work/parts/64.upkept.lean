/-! Up kept: the reference's half, and both. -/
section UP8
variable {s t f w q spk : Nat} {lvl mk : Int32} {b U V A B Q : Nat} {N cx cy : Nat → Nat} {σ : SS}
theorem C8.kt {pic : Nat → Int32} {w' q' : Nat} {τ : SS} (hst : s = 3 ∧ t = 6 ∨ s = 6 ∧ t = 3) (h8 : C8 w q spk lvl mk (gI σ 83) b U V A B Q N cx cy σ) (hK : Kt s t σ τ) (hw : 8 ≤ w' ∧ w' ≤ 40) (hq : 8 ≤ q' ∧ q' ≤ 40) (e1 : gI τ 73 29 = nI w') (e2 : gI τ 73 30 = nI q') (hp : ∀ k, k < w' * q' → gI τ 83 k = pic k ∧ inR (pic k) 0 9) : C8 w' q' spk lvl mk pic b U V A B Q N cx cy τ := by
  obtain ⟨h1, h2, h3, h4, h5, h6, h7, h8, h9, h10, h11, h12, h13, h14, h15, h16⟩ := h8
  refine ⟨hw, hq, h3, e1, e2, hp, by rw [hK _ _ (by omega)]; exact h7, by rw [hK _ _ (by omega)]; exact h8, by rw [hK _ _ (by omega)]; exact h9, h10, h11, h12, h13, h14, h15.fr (fun k hk => hK _ _ (by omega)) (fun k => hK _ _ (by omega)), fun p hp => ?_⟩
  obtain ⟨n1, n2, n3⟩ := h16 p hp
  refine ⟨n1, by rw [hK _ _ (by omega)]; exact n2, fun i hi => ?_⟩
  rw [hK _ _ (by omega), hK _ _ (by omega)]; exact n3 i hi
/-- the reference's state, turned by k quarters -/
def Ut (s t w q : Nat) (σ : SS) (k : Nat) (τ : SS) : Prop := gR τ = gR σ ∧ Kt s t σ τ ∧ gI τ 73 29 = nI (tW w q k) ∧ gI τ 73 30 = nI (tW q w k) ∧ Vis (gI τ 83) (tW w q k) (tW q w k) (tF (gI σ 83) w q k) fun _ _ => True
theorem Ut.kj {k : Nat} {τ r : SS} (h : Ut s t w q σ k τ) (hR : gR r = gR τ) (hK : Kj τ r) : Ut s t w q σ k r := by
  obtain ⟨h1, h2, h3, h4, h5⟩ := h
  refine ⟨hR.trans h1, fun c k hc => (hK c k (by omega)).trans (h2 c k hc), by rw [hK _ _ (by omega)]; exact h3, by rw [hK _ _ (by omega)]; exact h4, ?_⟩
  rw [show gI r 83 = gI τ 83 from funext fun k => hK _ _ (by omega)]; exact h5
theorem Ut.turn {k : Nat} {τ : SS} (hw : 8 ≤ w ∧ w ≤ 40) (hq : 8 ≤ q ∧ q ≤ 40) (hk : k < 4) (h : Ut s t w q σ k τ) : WP (fX8_turns τ) (Ut s t w q σ (k + 1)) := by
  obtain ⟨h1, h2, h3, h4, h5⟩ := h
  refine wp_imp (turn8_s (σ := τ) (σ1 := τ) hw hq hk ⟨rfl, h3, h4, h5, fun c k _ _ _ => rfl⟩) ?_
  rintro r ⟨y1, y2, y3, y4, y5⟩
  exact ⟨y1.trans h1, fun c k hc => (y5 c k (by omega) (by omega) (by omega)).trans (h2 c k hc), y2, y3, y4⟩
theorem up8_k (hst : s = 3 ∧ t = 6 ∨ s = 6 ∧ t = 3) (h8 : C8 w q spk lvl mk (gI σ 83) b U V A B Q N cx cy σ) {k : Nat} (hk : k < 4) {τ : SS} (hU : Ut s t w q σ k τ) : WP (fX8_finds τ) (fun r => (r.1 = true ↔ Mk w q spk lvl mk σ k) ∧ Ut s t w q σ k r.2 ∧ (Mk w q spk lvl mk σ k → ∀ r1, Jk w q spk lvl mk b U V A B Q N cx cy σ k r1 → WP (fX8_sum r.2 (0 : Int32)) fun u => u.1 = itr (shW r1 0) 0 Q ∧ Ut s t w q σ k u.2)) := by
  obtain ⟨hw, hh, -, -, -, hp, -⟩ := id h8
  have a1 := tW_le (k := k) hw hh
  have a2 := tW_le (k := k) hh hw
  obtain ⟨u1, u2, u3, u4, u5⟩ := id hU
  have hpic : ∀ j, j < tW w q k * tW q w k → gI τ 83 j = picK (gI σ 83) w q k j ∧ inR (picK (gI σ 83) w q k j) 0 9 := fun j hj => by
    have m1 : j % tW w q k < tW w q k := Nat.mod_lt _ (by omega)
    have m2 : j / tW w q k < tW q w k := Nat.div_lt_of_lt_mul hj
    exact ⟨vis_pic u5 (by omega) hj, tF_rng hk m1 m2 fun i hi => (hp i hi).2⟩
  have h8' : C8 (tW w q k) (tW q w k) spk lvl mk (picK (gI σ 83) w q k) b U V A B Q N cx cy τ := h8.kt hst u2 a1 a2 u3 u4 hpic
  refine wp_imp (finds8g h8' (r1 := τ) fun c k hc => rfl) ?_
  rintro ⟨fb, r⟩ ⟨k1, k2, hK2, k3, k4⟩
  dsimp only at k1 k2 hK2 k3 k4 ⊢
  refine ⟨k1, hU.kj k2 hK2, fun hm r1 hJ => ?_⟩
  have hJ' : Jd b Q N _ _ τ r1 := fun p hp => by
    have j := hJ p hp
    rw [← u2 76 _ (by omega), ← u2 88 3 (by omega), ← u2 88 4 (by omega), ← u2 88 5 (by omega), ← u2 78 _ (by omega), ← u2 79 _ (by omega), ← u2 88 6 (by omega)] at j
    exact j
  refine wp_imp (sum8 (what := 0) (by omega) h8' (k4 hm) hJ') ?_
  rintro u ⟨z1, z2, z3⟩
  exact ⟨z1, hU.kj (z2.trans k2) z3.1⟩
theorem up8 (hst : s = 3 ∧ t = 6 ∨ s = 6 ∧ t = 3) (h8 : C8 w q spk lvl mk (gI σ 83) b U V A B Q N cx cy σ) {τ : SS} (hR : gR τ = gR σ) (hK : Ku s t σ τ) (hJ : ∀ k, k < 4 → Mk w q spk lvl mk σ k → ∃ r, Jk w q spk lvl mk b U V A B Q N cx cy σ k r) :
    WP (X8_up_L16 fuel (-2 : Int32) (0 : Int32) (0 : Int32) τ) (fun r => (∃ v2, UV (Mk w q spk lvl mk σ) (Gk w q spk lvl mk b U V A B Q N cx cy σ) 4 r.1 v2) ∧ Ut s t w q σ 4 r.2) := by
  obtain ⟨hw, hh, -, e3, e4, -⟩ := id h8
  unfold X8_up_L16
  have f83 : gI τ 83 = gI σ 83 := funext fun k => hK _ _ (by omega)
  refine wf_4 4 (fun i v1 v2 v3 τ => v3 = nI i ∧ UV (Mk w q spk lvl mk σ) (Gk w q spk lvl mk b U V A B Q N cx cy σ) i v1 v2 ∧ Ut s t w q σ i τ) ⟨rfl, ⟨rfl, rfl⟩, hR, fun c k hc => hK c k (by omega), by rw [hK _ _ (by omega)]; exact e3, by rw [hK _ _ (by omega)]; exact e4, fun x y _ _ _ => by rw [f83]; rfl⟩ (by omega) ?_ ?_
  · rintro i v1 v2 _ τ rec hi ⟨rfl, hu, hU⟩ hr
    rw [if_neg (by show ¬ nI 4 ≤ nI i; exact nI_ge hi (by omega)), nI_1]
    obtain ⟨⟨fb, r⟩, x2, k1, k2, k3⟩ := up8_k hst h8 hi hU
    dsimp only at k1 k2 k3
    rw [bnd_of _ x2]
    have tail : ∀ a c r, UV (Mk w q spk lvl mk σ) (Gk w q spk lvl mk b U V A B Q N cx cy σ) (i + 1) a c → Ut s t w q σ i r → WP (bnd1 (fX8_turns r) fun σ8 => rec a c (nI (i + 1)) σ8) (fun r => (∃ v2, UV (Mk w q spk lvl mk σ) (Gk w q spk lvl mk b U V A B Q N cx cy σ) 4 r.1 v2) ∧ Ut s t w q σ 4 r.2) := fun a c r ha hr2 => wp_bnd1 (hr2.turn hw hh hi) fun r2 h2 => hr _ _ _ _ ⟨rfl, ha, h2⟩
    simp only [vthen_q]
    refine wp_if (fun c => ?_) fun c => ?_
    · have hm := k1.mp c
      obtain ⟨r1, hr1⟩ := hJ i hi hm
      obtain ⟨⟨g, r3⟩, x3, rfl, k5⟩ := k3 hm r1 hr1
      dsimp only at k5
      rw [bnd_of _ x3]
      refine wp_if (fun c1 => tail _ _ _ ⟨v1, v2, hu, Or.inl ⟨hm, _, ⟨r1, hr1, rfl⟩, Or.inr ⟨fun q => q.1 c1, rfl, rfl⟩⟩⟩ k5) fun c1 => wp_if (fun c2 => tail _ _ _ ⟨v1, v2, hu, Or.inl ⟨hm, _, ⟨r1, hr1, rfl⟩, Or.inl ⟨c1, c2, rfl, rfl⟩⟩⟩ k5) fun c2 => tail _ _ _ ⟨v1, v2, hu, Or.inl ⟨hm, _, ⟨r1, hr1, rfl⟩, Or.inr ⟨fun q => c2 q.2, rfl, rfl⟩⟩⟩ k5
    · exact tail _ _ _ ⟨v1, v2, hu, Or.inr ⟨fun q => c (k1.mpr q), rfl, rfl⟩⟩ k2
  · rintro v1 v2 _ τ rec ⟨rfl, hu, hU⟩
    rw [if_pos (show (4 : Int32) ≤ nI 4 by decide)]
    exact wp_some ⟨⟨v2, hu⟩, hU⟩
end UP8
theorem Ut.rel {s f w q : Nat} {σ r : SS} (h : RAll s f σ) (hU : Ut s (9 - s) w q σ 4 r) (hw : 8 ≤ w ∧ w ≤ 40) (hh : 8 ≤ q ∧ q ≤ 40) (e1 : gI σ s 0 = nI w) (e2 : gI σ s 1 = nI q) (hp : ∀ k, k < w * q → gI σ (s + 1) k = gI σ 83 k ∧ inR (gI σ 83 k) 0 9) : Rel r := by
  obtain ⟨hs, hf, -⟩ := id h.1
  obtain ⟨k1, k2, k3, k4, k5⟩ := hU
  have fr : ∀ c k, ¬ (c = 9 - s ∨ c = 9 - s + 1 ∨ c = s + 2 ∨ c = 31 ∨ (33 ≤ c ∧ c ≤ 57) ∨ c = 83 ∨ c = 84 ∨ (91 ≤ c ∧ c ≤ 108) ∨ (c = 73 ∧ ¬ (k = 1 ∨ k = 11 ∨ k = 12 ∨ k = 31 ∨ k = 65))) → gI r c k = gI σ c k := k2
  clear k2
  have fr2 : ∀ c k, ¬ (3 ≤ c ∧ c ≤ 8) → c ≠ 31 → ¬ (33 ≤ c ∧ c ≤ 57) → c ≠ 83 → c ≠ 84 → ¬ (91 ≤ c ∧ c ≤ 108) → c ≠ 73 → gI r c k = gI σ c k := fun c k c1 c2 c3 c4 c5 c6 c7 => fr c k (by omega)
  have fr3 : ∀ k, k = 1 ∨ k = 11 ∨ k = 12 ∨ k = 31 ∨ k = 65 → gI r 73 k = gI σ 73 k := fun k hk => fr 73 k (by omega)
  have frs : ∀ k, gI r s k = gI σ s k ∧ gI r (s + 1) k = gI σ (s + 1) k := fun k => ⟨fr _ _ (by omega), fr _ _ (by omega)⟩
  clear fr
  have sp : ∀ c k, ¬ (3 ≤ c ∧ c ≤ 8) ∧ c ≠ 31 ∧ ¬ (33 ≤ c ∧ c ≤ 57) ∧ c ≠ 83 ∧ c ≠ 84 ∧ ¬ (91 ≤ c ∧ c ≤ 108) ∧ (c = 73 → k = 1 ∨ k = 11 ∨ k = 12 ∨ k = 31 ∨ k = 65) → gI r c k = gI σ c k := fun c k ⟨c1, c2, c3, c4, c5, c6, c7⟩ => by
    by_cases e : c = 73
    · subst e; exact fr3 k (c7 rfl)
    · exact fr2 c k c1 c2 c3 c4 c5 c6 e
  clear hs
  refine ⟨s, f, h.of k1 (Or.inr fun c k hc => sp c k (by omega)) (Or.inl ?_) (Or.inr fun c k hc => sp c k (by omega)) (Or.inr fun c k hc => sp c k (by omega)) (Or.inr fun c k hc => sp c k (by omega)) (Or.inr fun c k hc => sp c k (by omega)) (Or.inr fun c k hc => sp c k (by omega)) (Or.inr fun c k hc => sp c k (by omega)) (Or.inr fun c k hc => sp c k (by omega))⟩
  refine ⟨w, q, hw, hh, by rw [(frs 0).1]; exact e1, by rw [(frs 1).1]; exact e2, k3, k4, fun j hj => ?_⟩
  have e : gI r 83 j = gI σ 83 (j / w * w + j % w) := vis_pic k5 (show 1 ≤ w by omega) hj
  rw [Nat.mul_comm (j / w) w, Nat.div_add_mod] at e
  rw [(frs j).2, e]
  exact hp j hj
theorem op34 : ∀ a σ, Rel σ → st34 Rel a σ := by
  intro a σ ⟨s, f, h⟩
  obtain ⟨hs, hf, hR1, hR3, hR5, -⟩ := id h.1
  rcases h.2.2.2.2.2.2.2.1.told with ⟨t1, t2, t3, t4⟩ | ⟨t1, t2⟩
  · refine ⟨-1, σ, σ, ?_, ?_, s, f, h⟩
    · unfold fX7_up; rw [hR5, t1, if_pos rfl]
    · unfold fX8_up; rw [t2, if_pos rfl]
  obtain ⟨w, q, spk, b, U, V, A, B, Q, N, cx, cy, h7, h8, e5, -, hF⟩ := h.ctx t1
  obtain ⟨hw, hh, -, e3, e4, -, -, -, -, -, -, -, -, hQ, hHd, hN⟩ := id h8
  have hT : psum N Q ≤ 72 := h7.2.2.2.2.2.2.2.2.2.2.2.2.2.2.2.1
  have hF7 : F7 f Q N σ := ⟨hQ, e5, hT, fun p hp => ⟨(hN p hp).1, (hF p hp).1, (hF p hp).2.1⟩⟩
  have hst : s = 3 ∧ 9 - s = 6 ∨ s = 6 ∧ 9 - s = 3 := by omega
  have hq : ∀ p, p < Q → gI σ (f + 4) p = gI σ 78 (12 * b + p) ∧ gI σ (f + 5) p = gI σ 79 (12 * b + p) ∧ (gI σ (f + 1) p = 0) = (gI σ 76 (12 * b + p) = 1) := fun p hp => by
    obtain ⟨-, -, ⟨g4, -⟩, ⟨g5, -⟩, g1⟩ := hF p hp
    refine ⟨g4, g5, ?_⟩
    rcases g1 with ⟨a1, a2⟩ | ⟨a1, a2⟩
    · rw [a1, a2]; exact propext ⟨fun _ => rfl, fun _ => rfl⟩
    · rw [a1, a2]; exact propext ⟨fun h => absurd h (by decide), fun h => absurd h (by decide)⟩
  obtain ⟨⟨v, r1⟩, x1, ⟨v2, hu⟩, m2, m3, m4⟩ := up7 hst h7 hF7 (fun k hk => (h.2.2.2.2.1 k hk).1) hq hR1 hR3 hR5
  dsimp only at hu m2 m3
  obtain ⟨⟨v', r2⟩, x2, ⟨v2', hu'⟩, hU⟩ := up8 hst h8 m2 m3 m4
  dsimp only at hu' hU
  have ev : v = v' := (UV_one (M := Mk w q spk (gI σ 88 0) (gI σ 88 2) σ) (G := Gk w q spk (gI σ 88 0) (gI σ 88 2) b U V A B Q N cx cy σ) (fun i g g' => Gk_one) 4 _ _ _ _ hu hu').1
  subst ev
  obtain ⟨-, -, -, -, -, e1, e2, hp, -⟩ := id h7
  refine ⟨v, r1, r2, ?_, ?_, hU.rel h hw hh e1 e2 hp⟩
  · unfold fX7_up; rw [hR5, t1, if_neg (by decide)]; exact x1
  · unfold fX8_up; rw [m3 73 12 (by omega), t2, if_neg (by decide)]; exact x2
