/-! Up kept. -/
/-- which quarter, and its sum, after so many -/
def UV (M : Nat → Prop) (G : Nat → Int32 → Prop) : Nat → Int32 → Int32 → Prop
  | 0, v1, v2 => v1 = -2 ∧ v2 = 0
  | i + 1, v1, v2 => ∃ u1 u2, UV M G i u1 u2 ∧ ((M i ∧ ∃ g, G i g ∧ ((¬ u1 < 0 ∧ g ≤ u2 ∧ v1 = u1 ∧ v2 = u2) ∨ (¬ (¬ u1 < 0 ∧ g ≤ u2) ∧ v1 = nI i ∧ v2 = g))) ∨ (¬ M i ∧ v1 = u1 ∧ v2 = u2))
theorem UV_one {M : Nat → Prop} {G : Nat → Int32 → Prop} (hG : ∀ i g g', G i g → G i g' → g = g') : ∀ i v1 v2 w1 w2, UV M G i v1 v2 → UV M G i w1 w2 → v1 = w1 ∧ v2 = w2
  | 0, _, _, _, _, h, h' => ⟨h.1.trans h'.1.symm, h.2.trans h'.2.symm⟩
  | i + 1, _, _, _, _, ⟨u1, u2, hu, h⟩, ⟨x1, x2, hx, h'⟩ => by
    obtain ⟨rfl, rfl⟩ := UV_one hG i _ _ _ _ hu hx
    rcases h with ⟨a1, g, a2, a3⟩ | ⟨a1, a2, a3⟩ <;> rcases h' with ⟨b1, g', b2, b3⟩ | ⟨b1, b2, b3⟩
    · have := hG i g g' a2 b2
      subst this
      rcases a3 with ⟨c1, c2, c3, c4⟩ | ⟨c1, c3, c4⟩ <;> rcases b3 with ⟨d1, d2, d3, d4⟩ | ⟨d1, d3, d4⟩
      · exact ⟨c3.trans d3.symm, c4.trans d4.symm⟩
      · exact absurd ⟨c1, c2⟩ d1
      · exact absurd ⟨d1, d2⟩ c1
      · exact ⟨c3.trans d3.symm, c4.trans d4.symm⟩
    · exact absurd a1 b1
    · exact absurd b1 a1
    · exact ⟨a2.trans b2.symm, a3.trans b3.symm⟩
theorem vis_pic {d : Nat → Int32} {W H : Nat} {F : Nat → Nat → Int32} (h : Vis d W H F fun _ _ => True) (hW : 1 ≤ W) {j : Nat} (hj : j < W * H) : d j = F (j % W) (j / W) := by
  have e := h (j % W) (j / W) (Nat.mod_lt _ (by omega)) (Nat.div_lt_of_lt_mul hj) trivial
  rw [Nat.mul_comm, Nat.div_add_mod] at e
  exact e
def picK (src : Nat → Int32) (w q k j : Nat) : Int32 := tF src w q k (j % tW w q k) (j / tW w q k)
/-- what the class's turning and reading may change -/
def Ku (s t : Nat) (σ τ : SS) : Prop := ∀ c k, ¬ (c = t ∨ c = t + 1 ∨ c = s + 2 ∨ (33 ≤ c ∧ c ≤ 57) ∨ (c = 31 ∧ k = 6)) → gI τ c k = gI σ c k
def Kt (s t : Nat) (σ τ : SS) : Prop := ∀ c k, ¬ (c = t ∨ c = t + 1 ∨ c = s + 2 ∨ c = 31 ∨ (33 ≤ c ∧ c ≤ 57) ∨ c = 83 ∨ c = 84 ∨ (91 ≤ c ∧ c ≤ 108) ∨ (c = 73 ∧ ¬ (k = 1 ∨ k = 11 ∨ k = 12 ∨ k = 31 ∨ k = 65))) → gI τ c k = gI σ c k
section UP
variable {s t f w q spk : Nat} {lvl mk : Int32} {b U V A B Q : Nat} {N cx cy : Nat → Nat} {σ : SS}
/-- the class's rows of the scan turned by k quarters are judged as σ's form and settings say -/
def Jk (w q spk : Nat) (lvl mk : Int32) (b U V A B Q : Nat) (N cx cy : Nat → Nat) (σ : SS) (k : Nat) (r : SS) : Prop := Jd b Q N (dkD (tW w q k) (tW q w k) spk lvl mk (picK (gI σ 83) w q k) U V A B cx cy) (pN (dkD (tW w q k) (tW q w k) spk lvl mk (picK (gI σ 83) w q k) U V A B cx cy) (psum N Q)) σ r
def Mk (w q spk : Nat) (lvl mk : Int32) (σ : SS) (k : Nat) : Prop := frU (mkB (tW w q k) (tW q w k) spk mk (inkP lvl (picK (gI σ 83) w q k))) 4
def Gk (w q spk : Nat) (lvl mk : Int32) (b U V A B Q : Nat) (N cx cy : Nat → Nat) (σ : SS) (k : Nat) (g : Int32) : Prop := ∃ r, Jk w q spk lvl mk b U V A B Q N cx cy σ k r ∧ g = itr (shW r 0) 0 Q
theorem Gk_one {k : Nat} {g g' : Int32} (h : Gk w q spk lvl mk b U V A B Q N cx cy σ k g) (h' : Gk w q spk lvl mk b U V A B Q N cx cy σ k g') : g = g' := by
  obtain ⟨r, h1, rfl⟩ := h
  obtain ⟨r', h2, rfl⟩ := h'
  refine itr_congr fun p hp v => ?_
  obtain ⟨j1, j2⟩ := h1 p hp
  obtain ⟨j3, j4⟩ := h2 p hp
  obtain ⟨z1, z2, -⟩ := j1.one j3
  unfold shW
  rw [if_pos rfl, if_pos rfl, j2, j4, z1, z2]
theorem up7_k (hst : s = 3 ∧ t = 6 ∨ s = 6 ∧ t = 3) (h7 : C7 s f w q spk lvl mk (gI σ 83) U V A B (psum N Q) cx cy σ) (hF : F7 f Q N σ) (hset : ∀ k, k < 7 → gI σ 32 k = gI σ 88 k)
    (hq : ∀ p, p < Q → gI σ (f + 4) p = gI σ 78 (12 * b + p) ∧ gI σ (f + 5) p = gI σ 79 (12 * b + p) ∧ (gI σ (f + 1) p = 0) = (gI σ 76 (12 * b + p) = 1))
    {k : Nat} (hk : k < 4) {τ : SS} (hR : gR τ = gR σ) (hK : Ku s t σ τ) : WP (fX6_takeTurned τ t s (nI k)) (fun τ' => gR τ' = gR σ ∧ WP (fX3_read τ' t f) fun r => (r.1 = true ↔ Mk w q spk lvl mk σ k) ∧ gR r.2 = gR σ ∧ Ku s t σ r.2 ∧ (Mk w q spk lvl mk σ k → Jk w q spk lvl mk b U V A B Q N cx cy σ k r.2)) := by
  obtain ⟨hs, hf, hw, hh, hspk, e1, e2, hp, el, es, em, hU, hV, hA, hB, hT, g1, g2, g3, g4, g6, gx⟩ := id h7
  obtain ⟨hQ, f5, -, hq7⟩ := id hF
  have a1 := tW_le (k := k) hw hh
  have a2 := tW_le (k := k) hh hw
  refine wp_imp (turned7 (σ := τ) (w := w) (q := q) hst ⟨by omega, hw.2⟩ ⟨by omega, hh.2⟩ (by rw [hK s 0 (by omega)]; exact e1) (by rw [hK s 1 (by omega)]; exact e2) hk) ?_
  rintro τ' ⟨y1, y2, y3, y4, y5⟩
  have fr : ∀ c k, ¬ (c = t ∨ c = t + 1 ∨ c = s + 2 ∨ (33 ≤ c ∧ c ≤ 57) ∨ (c = 31 ∧ k = 6)) → gI τ' c k = gI σ c k := fun c k hc => (y5 c k (by omega) (by omega) (by omega)).trans (hK c k hc)
  have hpic : ∀ j, j < tW w q k * tW q w k → gI τ' (t + 1) j = picK (gI σ 83) w q k j ∧ inR (picK (gI σ 83) w q k j) 0 9 := fun j hj => by
    have m1 : j % tW w q k < tW w q k := Nat.mod_lt _ (by omega)
    have m2 : j / tW w q k < tW q w k := Nat.div_lt_of_lt_mul hj
    have e := vis_pic y4 (by omega) hj
    refine ⟨e.trans (tF_congr hk m1 m2 fun i hi => ?_), tF_rng hk m1 m2 fun i hi => (hp i hi).2⟩
    rw [hK (s + 1) i (by omega)]; exact (hp i hi).1
  have h7' : C7 t f (tW w q k) (tW q w k) spk lvl mk (picK (gI σ 83) w q k) U V A B (psum N Q) cx cy τ' :=
    ⟨by omega, hf, a1, a2, hspk, y2, y3, hpic, by rw [fr _ _ (by omega)]; exact el, by rw [fr _ _ (by omega)]; exact es, by rw [fr _ _ (by omega)]; exact em, hU, hV, hA, hB, hT, by rw [fr _ _ (by omega)]; exact g1, by rw [fr _ _ (by omega)]; exact g2, by rw [fr _ _ (by omega)]; exact g3, by rw [fr _ _ (by omega)]; exact g4, by rw [fr _ _ (by omega)]; exact g6, fun k hk => by rw [fr _ _ (by omega), fr _ _ (by omega)]; exact gx k hk⟩
  have hF' : F7 f Q N τ' := ⟨hQ, by rw [fr _ _ (by omega)]; exact f5, hT, fun p hp => by rw [fr _ _ (by omega), fr _ _ (by omega)]; exact hq7 p hp⟩
  refine ⟨y1.trans hR, wp_imp (read7 h7' hF') ?_⟩
  rintro ⟨mb, r⟩ ⟨m1, m2, m3, m4⟩
  dsimp only at m1 m2 m3 m4 ⊢
  refine ⟨m1, m2.trans (y1.trans hR), fun c k hc => by rw [m3 c k (by omega) (by omega)]; exact fr c k hc, fun hm p hp => ?_⟩
  obtain ⟨j1, j2⟩ := (m4 hm).2 p hp
  obtain ⟨q4, q5, q1⟩ := hq p hp
  rw [fr 32 3 (by omega), fr 32 4 (by omega), fr 32 5 (by omega), fr (f + 1) p (by omega), hset 3 (by omega), hset 4 (by omega), hset 5 (by omega), q1] at j1
  rw [fr 32 6 (by omega), fr (f + 4) p (by omega), fr (f + 5) p (by omega), hset 6 (by omega), q4, q5] at j2
  exact ⟨j1, j2⟩
theorem up7 (hst : s = 3 ∧ t = 6 ∨ s = 6 ∧ t = 3) (h7 : C7 s f w q spk lvl mk (gI σ 83) U V A B (psum N Q) cx cy σ) (hF : F7 f Q N σ) (hset : ∀ k, k < 7 → gI σ 32 k = gI σ 88 k)
    (hq : ∀ p, p < Q → gI σ (f + 4) p = gI σ 78 (12 * b + p) ∧ gI σ (f + 5) p = gI σ 79 (12 * b + p) ∧ (gI σ (f + 1) p = 0) = (gI σ 76 (12 * b + p) = 1)) (r2 : gR σ 1 2 = s) (r3 : gR σ 1 3 = t) (r5 : gR σ 1 5 = f) :
    WP (X7_up_L19 fuel (-2 : Int32) (0 : Int32) (0 : Int32) σ) (fun r => (∃ v2, UV (Mk w q spk lvl mk σ) (Gk w q spk lvl mk b U V A B Q N cx cy σ) 4 r.1 v2) ∧ gR r.2 = gR σ ∧ Ku s t σ r.2 ∧ ∀ k, k < 4 → Mk w q spk lvl mk σ k → ∃ r, Jk w q spk lvl mk b U V A B Q N cx cy σ k r) := by
  unfold X7_up_L19
  refine wf_4 4 (fun i v1 v2 v3 τ => v3 = nI i ∧ UV (Mk w q spk lvl mk σ) (Gk w q spk lvl mk b U V A B Q N cx cy σ) i v1 v2 ∧ gR τ = gR σ ∧ Ku s t σ τ ∧ ∀ k, k < i → Mk w q spk lvl mk σ k → ∃ r, Jk w q spk lvl mk b U V A B Q N cx cy σ k r) ⟨rfl, ⟨rfl, rfl⟩, rfl, fun c k hc => rfl, fun k hk => absurd hk (by omega)⟩ (by omega) ?_ ?_
  · rintro i v1 v2 _ τ rec hi ⟨rfl, hu, hR, hK, hJ⟩ hr
    rw [if_neg (by show ¬ nI 4 ≤ nI i; exact nI_ge hi (by omega)), hR, r2, r3, nI_1]
    refine wp_bnd1 (up7_k hst h7 hF hset hq hi hR hK) ?_
    rintro τ' ⟨y1, ⟨mb, r⟩, x1, m1, m2, m3, m4⟩
    dsimp only at m1 m2 m3 m4
    rw [y1, r3, r5, bnd_of _ x1]
    have hQ : Q ≤ 12 := hF.1
    have e5 : gI r f 5 = nI Q := by rw [m3 f 5 (by have := h7.2.1; omega)]; exact hF.2.1
    refine wp_if (fun c => ?_) fun c => ?_
    · have hm := m1.mp c
      have hJ' : ∀ k, k < i + 1 → Mk w q spk lvl mk σ k → ∃ r, Jk w q spk lvl mk b U V A B Q N cx cy σ k r := fun k hk hm' => by
        by_cases ck : k = i
        · subst ck; exact ⟨r, m4 hm⟩
        · exact hJ k (by omega) hm'
      rw [m2, r5, bnd1_of _ (gains7 hQ e5)]
      refine wp_vk1 (fun _ : Unit => ¬ (¬ v1 < 0 ∧ itr (shW r 0) (0 : Int32) Q ≤ v2)) ?_ fun j hj => ?_
      · intro _ hc
        exact hr _ _ _ _ ⟨rfl, ⟨v1, v2, hu, Or.inl ⟨hm, _, ⟨r, m4 hm, rfl⟩, Or.inr ⟨hc, rfl, rfl⟩⟩⟩, m2, m3, hJ'⟩
      · refine wp_if (fun c1 => hj _ fun q => q.1 c1) fun c1 => wp_if (fun c2 => hr _ _ _ _ ⟨rfl, ⟨v1, v2, hu, Or.inl ⟨hm, _, ⟨r, m4 hm, rfl⟩, Or.inl ⟨c1, c2, rfl, rfl⟩⟩⟩, m2, m3, hJ'⟩) fun c2 => hj _ fun q => c2 q.2
    · have hm : ¬ Mk w q spk lvl mk σ i := fun q => c (m1.mpr q)
      refine hr _ _ _ _ ⟨rfl, ⟨v1, v2, hu, Or.inr ⟨hm, rfl, rfl⟩⟩, m2, m3, fun k hk hm' => ?_⟩
      by_cases ck : k = i
      · subst ck; exact absurd hm' hm
      · exact hJ k (by omega) hm'
  · rintro v1 v2 _ τ rec ⟨rfl, hu, hR, hK, hJ⟩
    rw [if_pos (show (4 : Int32) ≤ nI 4 by decide)]
    exact wp_some ⟨⟨v2, hu⟩, hR, hK, hJ⟩
end UP
