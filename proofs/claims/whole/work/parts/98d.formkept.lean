/-! Form kept. -/
theorem RForm.keep {f b : Nat} {σ σ' : SS} (h : RForm f σ) (hb : b < 2) (hb11 : gI σ 73 11 = nI b) (hf : ∀ j, j ≤ 7 → ∀ k, gI σ' (f + j) k = gI σ (f + j) k) (h1 : gI σ' 73 11 = gI σ 73 11) (h2 : gI σ' 73 12 = gI σ 73 12) (h3 : ∀ c k, 75 ≤ c → c ≤ 81 → ¬ OB (1 - b) c k → gI σ' c k = gI σ c k) : RForm f σ' := by
  have h0 : ∀ k, gI σ' f k = gI σ f k := fun k => hf 0 (by omega) k
  obtain ⟨b', hb', e, alt⟩ := h
  have eb : b' = b := nI_injN (by omega) (by omega) (e.symm.trans hb11)
  subst eb
  refine ⟨b', hb', by rw [h1]; exact e, ?_⟩
  rcases alt with ⟨o1, o2, o3, o4, o5, o6⟩ | ⟨o1, o2, W, H, A, B, Q, N, r1, r2, r3, r4, r5, r6, r7, r8⟩
  · exact Or.inl ⟨by rw [h0]; exact o1, by rw [h2]; exact o2, by rw [h0]; exact o3, by rw [h0]; exact o4, by rw [h0]; exact o5, by rw [h0]; exact o6⟩
  · refine Or.inr ⟨by rw [h0]; exact o1, by rw [h2]; exact o2, W, H, A, B, Q, N, r1, r2, r3, r4, r5, ?_, ?_, fun q hq => ?_⟩
    · rw [h0, h0, h0, h0, h0, h0]; exact r6
    · rw [h3 _ _ (by omega) (by omega) (by unfold OB; omega), h3 _ _ (by omega) (by omega) (by unfold OB; omega), h3 _ _ (by omega) (by omega) (by unfold OB; omega), h3 _ _ (by omega) (by omega) (by unfold OB; omega), h3 _ _ (by omega) (by omega) (by unfold OB; omega)]; exact r7
    · obtain ⟨p1, p2, p3, p4, p5, p6, p7, p8⟩ := r8 q hq
      refine ⟨p1, by rw [hf 2 (by omega)]; exact p2, by rw [hf 3 (by omega)]; exact p3, by rw [h3 _ _ (by omega) (by omega) (by unfold OB; omega)]; exact p4, by rw [hf 4 (by omega), h3 _ _ (by omega) (by omega) (by unfold OB; omega)]; exact p5, by rw [hf 5 (by omega), h3 _ _ (by omega) (by omega) (by unfold OB; omega)]; exact p6, by rw [hf 1 (by omega), h3 _ _ (by omega) (by omega) (by unfold OB; omega)]; exact p7, fun i hi => ?_⟩
      rw [hf 6 (by omega), hf 7 (by omega), h3 80 _ (by omega) (by omega) (by unfold OB; omega), h3 81 _ (by omega) (by omega) (by unfold OB; omega)]
      exact p8 i hi
theorem op1 : ∀ a σ, Rel σ → st1 Rel a σ := by
  intro a σ ⟨s, f, h⟩
  obtain ⟨hs, hf, hR2, hR3, hR5, hR6, hR9⟩ := id h.1
  obtain ⟨b, hb, h11⟩ : ∃ b, b < 2 ∧ gI σ 73 11 = nI b := by
    obtain ⟨b, hb, e, -⟩ := h.2.2.2.2.2.2.2.1
    exact ⟨b, hb, e⟩
  obtain ⟨v, w0, e1, -, hp1⟩ := form2 h hb h11 (τ := σ) (fun _ _ _ => rfl) (a 1)
  have hc : ∀ c k, 73 ≤ c → gI v.2 c k = gI σ c k := fun c k hc => by
    rcases hp1.2 with ⟨q1, -⟩ | ⟨-, -, -, q4, -⟩
    · rw [q1]
    · exact q4 c k (by omega) (by omega) (by omega) (by omega) (by omega) (by omega)
  obtain ⟨v', w, e1', e2, hp⟩ := form2 h hb h11 (τ := v.2) hc (a 1)
  have ev : v' = v := Option.some.inj (e1'.symm.trans e1)
  subst ev
  refine ⟨v'.1, v'.2, w.2, e1, by rw [e2, hp.1], ?_⟩
  rcases hp.2 with ⟨q1, q2⟩ | ⟨q1, q2, q3, q4, q5, q6⟩
  · rw [q2, q1]; exact ⟨s, f, h⟩
  have lo : ∀ c k, c < 73 → gI w.2 c k = gI v'.2 c k := fun c k hc => q5 c k (by omega) (by omega) (by unfold OB; omega)
  have fr : ∀ c k, c ≠ 26 → c ≠ 27 → ¬ (28 - f ≤ c ∧ c ≤ 35 - f) → ¬ (c = 1 ∧ k = 1) → c ≠ 30 → c ≠ 58 → ¬ (c = 73 ∧ ((1 ≤ k ∧ k ≤ 12) ∨ k = 65)) → c ≠ 82 → ¬ OB (1 - b) c k → gI w.2 c k = gI σ c k := fun c k c1 c2 c3 c4 c5 c6 c7 c8 c9 => by
    rw [q5 c k c7 c8 c9]; exact q4 c k c1 c2 c3 c4 c5 c6
  have hTape : RTape w.2 := ⟨0, by omega, by rw [lo _ _ (by omega)]; exact q2, q3, fun j hj => absurd hj (by omega)⟩
  have ob : ∀ c k, c < 75 ∨ 82 ≤ c → ¬ OB (1 - b) c k := fun c k hc => by unfold OB; omega
  rcases q6 with ⟨u1, u2, u3, u4, u5⟩ | ⟨u1, u2, u3, u4, u5, u6, u7, u8, W, H, A, B, Q, N, g1, g2, g3, g4, g5, g6, g7⟩
  · have f30 : ∀ k, gI w.2 30 k = gI σ 30 k := fun k => by rw [lo _ _ (by omega)]; exact u2 k
    have f58 : ∀ k, gI w.2 58 k = gI σ 58 k := fun k => by rw [lo _ _ (by omega)]; exact u3 k
    have f73 : ∀ k, k = 11 ∨ k = 12 ∨ k = 65 → gI w.2 73 k = gI σ 73 k := fun k hk => by rw [u4 k hk]; exact hc _ _ (by omega)
    have f82 : ∀ k, gI w.2 82 k = gI σ 82 k := fun k => by rw [u5]; exact hc _ _ (by omega)
    refine ⟨s, f, h.of (q1.trans u1) (Or.inl hTape) ?h2 ?h3 ?h4 ?h5 ?h6 (Or.inl ?h7) ?h8 ?h9⟩
    case h7 =>
      exact h.2.2.2.2.2.2.2.1.keep hb h11 (fun j hj k => fr _ _ (by omega) (by omega) (by omega) (by omega) (by omega) (by omega) (by omega) (by omega) (ob _ _ (by omega))) (f73 11 (by omega)) (f73 12 (by omega)) (fun c k c1 c2 c3 => fr _ _ (by omega) (by omega) (by omega) (by omega) (by omega) (by omega) (by omega) (by omega) c3)
    case h8 =>
      refine Or.inr fun c k hp => ?_
      rcases hp with rfl | rfl
      · exact f30 k
      · exact f82 k
    case h9 =>
      refine Or.inr fun c k hp => ?_
      by_cases c58 : c = 58
      · rw [c58]; exact f58 k
      · by_cases c65 : c = 73
        · rw [c65]; exact f73 k (by omega)
        · exact fr _ _ (by omega) (by omega) (by omega) (by omega) (by omega) (by omega) (by omega) (by omega) (ob _ _ (by omega))
    all_goals exact Or.inr fun c k hp => fr _ _ (by omega) (by omega) (by omega) (by omega) (by omega) (by omega) (by omega) (by omega) (ob _ _ (by omega))
  · have eR : gR w.2 = gR (sR (sR σ 1 5 (28 - f)) 1 6 f) := q1.trans u1
    have k0 : gI w.2 (28 - f) 0 = 1 := by rw [lo _ _ (by omega)]; exact u4
    obtain ⟨⟨x1, x2, x3, x4⟩, x5, x6, x7, x8⟩ := g3
    obtain ⟨y1, y2, y3, y4, y5, y6, y7, y8, y9, y10⟩ := h
    refine ⟨s, 28 - f, ⟨hs, by omega, ?_, ?_, ?_, ?_, ?_, ?_, ?_⟩, hTape, y3.fr ?_ ?_ ?_ ?_ ?_ ?_, fun i hi => (y4 i hi).fr ?_ ?_ ?_ ?_ ?_, y5.fr ?_ ?_, y6.fr ?_ ?_ ?_ ?_, y7.fr ?_ ?_, ⟨1 - b, by omega, u5, Or.inr ⟨k0, u6, W, H, A, B, Q, N, g1.1, g1.2.1, g1.2.2.1, g1.2.2.2, g2, ⟨?_, ?_, ?_, ?_, ?_, ?_⟩, ⟨x5, x6, x7, x8, g6⟩, fun q hq => ?_⟩⟩, fun q hq => ?_, ⟨0, by omega, by rw [lo _ _ (by omega)]; exact u3, u7, fun t ht => absurd ht (by omega)⟩⟩
    · rw [eR, gR_sR, if_neg (by omega), gR_sR, if_neg (by omega)]; exact hR2
    · rw [eR, gR_sR, if_neg (by omega), gR_sR, if_neg (by omega)]; exact hR3
    · rw [eR, gR_sR, if_neg (by omega), gR_sR, if_pos ⟨rfl, rfl⟩]
    · rw [eR, gR_sR, if_pos ⟨rfl, rfl⟩]; omega
    · rw [eR, gR_sR, if_neg (by omega), gR_sR, if_neg (by omega)]; exact hR9.1
    · rw [eR, gR_sR, if_neg (by omega), gR_sR, if_neg (by omega)]; exact hR9.2.1
    · rw [eR, gR_sR, if_neg (by omega), gR_sR, if_neg (by omega)]; exact hR9.2.2
    · exact fr _ _ (by omega) (by omega) (by omega) (by omega) (by omega) (by omega) (by omega) (by omega) (ob _ _ (by omega))
    · exact fr _ _ (by omega) (by omega) (by omega) (by omega) (by omega) (by omega) (by omega) (by omega) (ob _ _ (by omega))
    · exact fr _ _ (by omega) (by omega) (by omega) (by omega) (by omega) (by omega) (by omega) (by omega) (ob _ _ (by omega))
    · exact fr _ _ (by omega) (by omega) (by omega) (by omega) (by omega) (by omega) (by omega) (by omega) (ob _ _ (by omega))
    · exact funext fun k => fr _ _ (by omega) (by omega) (by omega) (by omega) (by omega) (by omega) (by omega) (by omega) (ob _ _ (by omega))
    · exact funext fun k => fr _ _ (by omega) (by omega) (by omega) (by omega) (by omega) (by omega) (by omega) (by omega) (ob _ _ (by omega))
    · exact funext fun k => fr _ _ (by omega) (by omega) (by omega) (by omega) (by omega) (by omega) (by omega) (by omega) (ob _ _ (by omega))
    · exact funext fun k => fr _ _ (by omega) (by omega) (by omega) (by omega) (by omega) (by omega) (by omega) (by omega) (ob _ _ (by omega))
    · exact funext fun k => fr _ _ (by omega) (by omega) (by omega) (by omega) (by omega) (by omega) (by omega) (by omega) (ob _ _ (by omega))
    · exact funext fun k => fr _ _ (by omega) (by omega) (by omega) (by omega) (by omega) (by omega) (by omega) (by omega) (ob _ _ (by omega))
    · exact funext fun k => fr _ _ (by omega) (by omega) (by omega) (by omega) (by omega) (by omega) (by omega) (by omega) (ob _ _ (by omega))
    · exact funext fun k => fr _ _ (by omega) (by omega) (by omega) (by omega) (by omega) (by omega) (by omega) (by omega) (ob _ _ (by omega))
    · exact funext fun k => fr _ _ (by omega) (by omega) (by omega) (by omega) (by omega) (by omega) (by omega) (by omega) (ob _ _ (by omega))
    · exact funext fun k => fr _ _ (by omega) (by omega) (by omega) (by omega) (by omega) (by omega) (by omega) (by omega) (ob _ _ (by omega))
    · exact funext fun k => fr _ _ (by omega) (by omega) (by omega) (by omega) (by omega) (by omega) (by omega) (by omega) (ob _ _ (by omega))
    · exact funext fun k => fr _ _ (by omega) (by omega) (by omega) (by omega) (by omega) (by omega) (by omega) (by omega) (ob _ _ (by omega))
    · exact funext fun k => fr _ _ (by omega) (by omega) (by omega) (by omega) (by omega) (by omega) (by omega) (by omega) (ob _ _ (by omega))
    · exact fr _ _ (by omega) (by omega) (by omega) (by omega) (by omega) (by omega) (by omega) (by omega) (ob _ _ (by omega))
    · exact fr _ _ (by omega) (by omega) (by omega) (by omega) (by omega) (by omega) (by omega) (by omega) (ob _ _ (by omega))
    · rw [lo _ _ (by omega)]; exact x1
    · rw [lo _ _ (by omega)]; exact x2
    · rw [lo _ _ (by omega)]; exact x3
    · rw [lo _ _ (by omega)]; exact x4
    · rw [lo _ _ (by omega)]; exact g4
    · rw [lo _ _ (by omega)]; exact g5
    · obtain ⟨n1, m1, m2, m3, m4, m5, m6, m7, m8⟩ := g7 q hq
      refine ⟨⟨n1, m1⟩, by rw [lo _ _ (by omega)]; exact m2, by rw [lo _ _ (by omega)]; exact m3, m4, by rw [lo _ _ (by omega)]; exact m5, by rw [lo _ _ (by omega)]; exact m6, by rw [lo _ _ (by omega)]; exact m7, fun i hi => ?_⟩
      rw [lo (28 - f + 6) _ (by omega), lo (28 - f + 7) _ (by omega)]
      exact m8 i hi
    · rw [lo _ _ (by omega), u2 q hq, u8 q hq]
      exact ⟨rfl, by decide, by decide⟩
