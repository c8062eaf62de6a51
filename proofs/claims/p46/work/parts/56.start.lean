/-! 56: the object just made: what the law asks of it first. -/
theorem s0_ref : gR s0 1 2 = 3 ∧ gR s0 1 3 = 6 ∧ gR s0 1 5 = 10 ∧ gR s0 1 6 = 18 ∧ gR s0 9 0 = 64 ∧ gR s0 0 0 = 0 := by decide +kernel
theorem s0_int : gI s0 3 0 = nI 24 ∧ gI s0 3 1 = nI 24 ∧ gI s0 10 0 = 0 ∧ gI s0 10 5 = 0 ∧ gI s0 1 1 = 0 ∧ gI s0 1 8 = nI 1 ∧ gI s0 64 0 = 0 := by decide +kernel
theorem s0_dot : ∀ k, k < 576 → gI s0 4 k = 0 := by decide +kernel
theorem s0_set : ∀ k, k < 7 → (sLo k ≤ tn (gI s0 32 k) ∧ tn (gI s0 32 k) ≤ sHi k) ∧ gI s0 32 k = nI (tn (gI s0 32 k)) := by decide +kernel
theorem s0_stg : Stg s0 := fun k hk => ⟨_, s0_set k hk⟩
theorem s0_sc : Sc s0 := by
  obtain ⟨a1, a2, a3, a4, a5, a6⟩ := s0_ref
  obtain ⟨b1, b2, b3, b4, b5, b6, b7⟩ := s0_int
  have es : sO s0 = 3 := a1
  have ef : fO s0 = 10 := a3
  have ew : wO s0 = 24 := by unfold wO; rw [es, b1, tn_nI (by decide)]
  have eh : hO s0 = 24 := by unfold hO; rw [es, b2, tn_nI (by decide)]
  unfold Sc
  rw [es, ef, ew, eh]
  refine ⟨⟨Or.inl rfl, a2⟩, ⟨Or.inl rfl, a4⟩, by decide, by decide, b1, b2, fun k hk => ?_, s0_stg⟩
  rw [s0_dot k hk]; unfold inR; decide
section START
variable {σ : SS}
theorem uc_0 {src : Nat → Int32} {l : Nat} (hl : 1 ≤ l) : ∀ N, (∀ k, k < N → src k = 0) → uc src l N = 0
  | 0, _ => rfl
  | N + 1, h => by
    have ih := uc_0 hl N fun k hk => h k (by omega)
    have e2 : uc src l (N + 1) = if sN src N < l then uc src l N else uc src l N + 1 := rfl
    have e3 : sN src N = 0 := by unfold sN; rw [h N (by omega)]; rfl
    rw [e2, e3, if_pos (by omega), ih]
theorem level_0 (hs : gR σ 1 2 = 3) (e1 : gI σ 3 0 = nI 24) (e2 : gI σ 3 1 = nI 24) (hz : ∀ k, k < 576 → gI σ 4 k = 0) : fX7_level σ = some (1 : Int32) := by
  have hd : ∀ k, k < 24 * 24 → inR (gI σ (3 + 1) k) 0 9 := fun k hk => by rw [show (3 : Nat) + 1 = 4 from rfl, hz k hk]; unfold inR; decide
  suffices h : WP (fX7_level σ) (fun r => r = (1 : Int32)) by
    obtain ⟨v, e, h⟩ := h
    rw [e, h]
  unfold fX7_level X7_level_L13
  refine wf_5 9 (fun i a _ _ _ e => a = (1 : Int32) ∧ e = nI (1 + i)) ⟨rfl, rfl⟩ (by decide) (fun i a b c d e rec hi hI ih => ?_) (fun a b c d e rec hI => ?_)
  · obtain ⟨rfl, rfl⟩ := hI
    rw [if_neg (c := (9 : Int32) < nI (1 + i)) (by show ¬ nI 9 < nI (1 + i); exact nI_nlt (by omega) (by decide)), hs, bnd1_of _ (level7_c (l := 1 + i) (by decide) (by decide) e1 e2 hd (by omega)), uc_0 (by omega) _ hz]
    refine wp_vv fun w4 e4 => ?_
    have e4 : w4 = 0 := by rw [e4]; decide
    refine wp_vv fun w5 _ => ?_
    refine wp_bnd1 (Q := fun _ => True) ⟨_, level7_d (l := 1 + i) (by decide) (by decide) e1 e2 hd (by omega), trivial⟩ fun v6 _ => ?_
    refine wp_vv fun w9 _ => ?_
    refine wp_bnd1 (Q := fun _ => True) ⟨_, level7_d (l := 0) (by decide) (by decide) e1 e2 hd (by omega), trivial⟩ fun v10 _ => ?_
    refine wp_vv fun w13 _ => ?_
    refine wp_vv fun w14 e14 => ?_
    have e14 : w14 = 0 := by rw [e14, e4, Int64.mul_zero]
    rw [e14, if_pos (show (lg_cmp (0 : Int64) (0 : Int64)) ≤ 0 by decide)]
    exact ih _ _ _ _ _ ⟨rfl, nI_1 (1 + i)⟩
  · obtain ⟨rfl, rfl⟩ := hI
    rw [if_pos (c := (9 : Int32) < nI (1 + 9)) (by decide)]
    exact ⟨_, rfl, rfl⟩
theorem marked_0 (hs : gR σ 1 2 = 3) (e1 : gI σ 3 0 = nI 24) (e2 : gI σ 3 1 = nI 24) (hz : ∀ k, k < 576 → gI σ 4 k = 0) (hS : Stg σ) : WP (fX7_marked σ) (fun r => r.1 = (0 : Int32) ∧ gR r.2 = gR σ ∧ ∀ c k, ¬ (33 ≤ c ∧ c ≤ 44) → gI r.2 c k = gI σ c k) := by
  obtain ⟨n, hn, en⟩ := hS 0 (by decide)
  obtain ⟨m, hm, em⟩ := hS 1 (by decide)
  have hn : 1 ≤ n ∧ n ≤ 9 := hn
  have hm : 1 ≤ m ∧ m ≤ 20 := hm
  unfold fX7_marked
  rw [hs]
  refine wp_bndp (locate7 (ink := fun _ => False) (Or.inl rfl) (by decide) (by decide) e1 e2 (fun k hk => ?_) em hm rfl) fun b σ4 ⟨h1, h2, h3, _, h5⟩ => ?_
  · rw [show (3 : Nat) + 1 = 4 from rfl, hz k hk, en]
    exact ⟨fun q => nI_ge (a := 0) (b := n) (by omega) (by omega) q, fun q => q.elim⟩
  · have h1 : b = true ↔ frU (mkB 24 24 m (gI σ 32 2) fun _ => False) 4 := h1
    have hb : ¬ b = true := fun q => by
      obtain ⟨B, hB, -⟩ := h5 (h1.mp q) 0 (by decide)
      exact (blS_p hB).2.1.1.2.1
    rw [if_neg hb]
    exact ⟨_, rfl, rfl, h2, h3⟩
end START
