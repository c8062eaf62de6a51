/-! All questions judged by the class. -/
def gnS (key an se wo pe : Int32) : Int32 := if key = 0 then 0 else if se = 0 then (if an = key then wo else if an = 0 then 0 else -pe) else 0
/-- the class's questions -/
def F7 (f Q : Nat) (N : Nat → Nat) (σ : SS) : Prop := Q ≤ 12 ∧ gI σ f 5 = nI Q ∧ psum N Q ≤ 72 ∧ ∀ p, p < Q → (1 ≤ N p ∧ N p ≤ 6) ∧ gI σ (f + 2) p = nI (psum N p) ∧ gI σ (f + 3) p = nI (N p)
/-- all judged, in the class's rows, as the form and settings of σ say -/
def R7 (f Q : Nat) (N : Nat → Nat) (D : Nat → Nat) (P : Nat) (σ r : SS) (p : Nat) : Prop := JQ (fun i => D (psum N p + i)) P (N p) (gI σ (f + 1) p = 0) (gI σ 32 3) (gI σ 32 4) (gI σ 32 5) (gI r 53 p) (gI r 54 p) (gI r 55 p) (gI r 56 p) ∧ gI r 57 p = gnS (gI σ (f + 4) p) (gI r 53 p) (gI r 54 p) (gI σ (f + 5) p) (gI σ 32 6)
theorem gain7 {σ : SS} {f p : Nat} (hp : p < 12) : fX3_gainOf σ f (nI p) = some (gnS (gI σ (f + 4) p) (gI σ 53 p) (gI σ 54 p) (gI σ (f + 5) p) (gI σ 32 6)) := by
  unfold fX3_gainOf gnS
  rw [grd_eq _ (inb_nI hp (by decide)), nI_clamp (by omega)]
  by_cases c1 : gI σ (f + 4) p = 0
  · rw [if_pos c1, if_pos c1]
  rw [if_neg c1, if_neg c1]
  by_cases c2 : gI σ 54 p = 0
  · rw [if_pos c2, if_pos c2]
    by_cases c3 : gI σ 53 p = gI σ (f + 4) p
    · rw [if_pos c3, if_pos c3]
    rw [if_neg c3, if_neg c3]
    by_cases c4 : gI σ 53 p = 0
    · rw [if_pos c4, if_pos c4]
    · rw [if_neg c4, if_neg c4]
  · rw [if_neg c2, if_neg c2]
theorem read7 {sc f w q spk : Nat} {lvl mk : Int32} {pic : Nat → Int32} {U V A B Q : Nat} {N cx cy : Nat → Nat} {σ : SS} (h : C7 sc f w q spk lvl mk pic U V A B (psum N Q) cx cy σ) (hF : F7 f Q N σ) : WP (fX3_read σ sc f) (fun r => (r.1 = true ↔ frU (mkB w q spk mk (inkP lvl pic)) 4) ∧ gR r.2 = gR σ ∧ (∀ c k, ¬ (33 ≤ c ∧ c ≤ 57) → ¬ (c = 31 ∧ k = 6) → gI r.2 c k = gI σ c k) ∧ (frU (mkB w q spk mk (inkP lvl pic)) 4 → (∀ k, k < psum N Q → gI r.2 51 k = nI (dkD w q spk lvl mk pic U V A B cx cy k)) ∧ ∀ p, p < Q → R7 f Q N (dkD w q spk lvl mk pic U V A B cx cy) (pN (dkD w q spk lvl mk pic U V A B cx cy) (psum N Q)) σ r.2 p)) := by
  obtain ⟨hQ, f5, hT, hq⟩ := hF
  have hf : f = 10 ∨ f = 18 := h.2.1
  unfold fX3_read
  refine wp_bndp (measure7 h) ?_
  rintro mb r1 ⟨a0, a1, a2, a3⟩
  dsimp only at a0 a1 a2 a3
  refine wp_if (fun hb => ?_) fun hb => wp_some ⟨⟨fun h => absurd (show false = true from h) (by decide), fun h => absurd (a0.mpr h) hb⟩, a1, fun c k c1 c2 => a2 c k (by omega) c2, fun h => absurd (a0.mpr h) hb⟩
  have hm := a0.mp hb
  obtain ⟨d1, d2⟩ := a3 hm
  generalize dkD w q spk lvl mk pic U V A B cx cy = D at *
  unfold X3_read_L13
  refine wf_2 Q (fun p v s => v = nI p ∧ gR s = gR r1 ∧ (∀ c k, ¬ (52 ≤ c ∧ c ≤ 57) → gI s c k = gI r1 c k) ∧ ∀ p', p' < p → R7 f Q N D (pN D (psum N Q)) σ s p') ⟨rfl, rfl, fun _ _ _ => rfl, fun p' hp' => absurd hp' (by omega)⟩ (by omega) ?_ ?_
  · rintro p _ s rec hp ⟨rfl, i1, i2, i3⟩ hr
    obtain ⟨hN, g2, g3⟩ := hq p hp
    have hpT : psum N p + (N p - 1) < psum N Q := psum_lt hp (by omega)
    have fr : ∀ c k, ¬ (33 ≤ c ∧ c ≤ 57) → ¬ (c = 31 ∧ k = 6) → gI s c k = gI σ c k := fun c k c1 c2 => by rw [i2 c k (by omega)]; exact a2 c k (by omega) c2
    rw [fr f 5 (by omega) (by omega), f5, if_neg (nI_ge hp (by omega)), nI_1]
    refine wp_bnd1 (judge7 (σ := s) (f := f) (p := p) (first := psum N p) (n := N p) (P := pN D (psum N Q)) (D := fun i => D (psum N p + i)) hf (by omega) hN (by omega) (by rw [fr _ _ (by omega) (by omega)]; exact g2) (by rw [fr _ _ (by omega) (by omega)]; exact g3) (fun i hi => by rw [i2 _ _ (by omega)]; exact d1 _ (psum_lt hp hi)) (by rw [i2 _ _ (by omega)]; exact d2 (by omega)) rfl rfl rfl) ?_
    rintro s5 ⟨j1, j2, j3, j4⟩
    rw [gain7 (by omega), bnd1_some, nI_clamp (by omega)]
    refine wp_grd (inb_nI (by omega) (by decide)) ?_
    refine wp_vv ?_; intro s10 h10
    have fr5 : ∀ c k, ¬ (33 ≤ c ∧ c ≤ 57) → ¬ (c = 31 ∧ k = 6) → gI s5 c k = gI σ c k := fun c k c1 c2 => by rw [j2 c k (by omega)]; exact fr c k c1 c2
    refine hr _ _ ⟨rfl, by rw [h10]; exact j1.trans i1, fun c k hc => by rw [h10, gI_ne (by omega), j2 c k (by omega)]; exact i2 c k hc, fun p' hp' => ?_⟩
    unfold R7
    by_cases e : p' = p
    · subst e
      rw [h10, gI_ne (by omega), gI_ne (by omega), gI_ne (by omega), gI_ne (by omega), gI_eq]
      rw [fr (f + 1) p' (by omega) (by omega), fr 32 3 (by omega) (by omega), fr 32 4 (by omega) (by omega), fr 32 5 (by omega) (by omega)] at j4
      exact ⟨j4, by rw [fr5 (f + 4) p' (by omega) (by omega), fr5 (f + 5) p' (by omega) (by omega), fr5 32 6 (by omega) (by omega)]⟩
    · have o := i3 p' (by omega)
      unfold R7 at o
      rw [h10, gI_ne (by omega), gI_ne (by omega), gI_ne (by omega), gI_ne (by omega), gI_nk (by omega), j3 53 p' (by omega) (by omega) e, j3 54 p' (by omega) (by omega) e, j3 55 p' (by omega) (by omega) e, j3 56 p' (by omega) (by omega) e, j2 57 p' (by omega)]
      exact o
  · rintro _ s rec ⟨rfl, i1, i2, i3⟩
    rw [i2 f 5 (by omega), a2 f 5 (by omega) (by omega), f5, if_pos (nI_le (Nat.le_refl _) (by omega))]
    exact wp_some ⟨⟨fun _ => hm, fun _ => rfl⟩, i1.trans a1, fun c k c1 c2 => by rw [i2 c k (by omega)]; exact a2 c k (by omega) c2, fun _ => ⟨fun k hk => by rw [i2 _ _ (by omega)]; exact d1 k hk, i3⟩⟩
