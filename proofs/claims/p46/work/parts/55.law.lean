/-! 55: the law comes to its end with true. -/
/-- what is not of the class's picture: the tape, the law's own arrays, the drawer, the seed -/
def Bv (rr ii : Nat) (σ : SS) : Prop := gI σ 1 1 = 0 ∧ (lav σ rr = true ∧ gR σ rr 0 = 1) ∧ (lav σ ii = true ∧ gR σ ii 0 = 300) ∧ gR σ 9 0 = 64 ∧ ∃ X, X < 65536 ∧ gI σ 1 8 = nI X
/-- between two forms; under a form -/
def Iv (rr ii : Nat) (σ : SS) : Prop := Sc σ ∧ Bv rr ii σ
def Jv (rr ii : Nat) (σ : SS) : Prop := Sd σ ∧ Stg σ ∧ Bv rr ii σ
section LAW
variable {rr ii : Nat} {σ τ : SS}
theorem Bv.fr (h : Bv rr ii σ) (h0 : gR σ 0 0 ≤ gR τ 0 0) (hR : ∀ c k, c = 9 ∨ 2000 ≤ c → c < 2000 + gR σ 0 0 → gR τ c k = gR σ c k) (h1 : gI τ 1 1 = gI σ 1 1) (h8 : ∃ X, X < 65536 ∧ gI τ 1 8 = nI X) : Bv rr ii τ := by
  obtain ⟨b1, ⟨b2, b3⟩, ⟨b4, b5⟩, b6, -⟩ := h
  have gr : 2000 ≤ rr ∧ rr < 2000 + gR σ 0 0 := of_decide_eq_true b2
  have gi : 2000 ≤ ii ∧ ii < 2000 + gR σ 0 0 := of_decide_eq_true b4
  exact ⟨h1.trans b1, ⟨decide_eq_true ⟨gr.1, by omega⟩, (hR rr 0 (Or.inr gr.1) gr.2).trans b3⟩, ⟨decide_eq_true ⟨gi.1, by omega⟩, (hR ii 0 (Or.inr gi.1) gi.2).trans b5⟩, (hR 9 0 (Or.inl rfl) (by omega)).trans b6, h8⟩
theorem Bv.r (h : Bv rr ii σ) : 2000 ≤ rr := (of_decide_eq_true h.2.1.1 : 2000 ≤ rr ∧ rr < 2000 + gR σ 0 0).1
theorem Jv.iv (h : Jv rr ii σ) : Iv rr ii σ := ⟨h.1.sc h.2.1, h.2.2⟩
theorem Jv.sf (h : Jv rr ii σ) (hd : Sd τ) (h8 : ∃ X, X < 65536 ∧ gI τ 1 8 = nI X) (hf : Sf rr σ τ) : Jv rr ii τ := by
  have hr := h.2.2.r
  refine ⟨hd, fun k hk => ?_, h.2.2.fr hf.2.2 (fun c k c1 c2 => hf.1 c k (by omega) c2 (by omega)) (hf.2.1 1 1 (by omega) (by unfold Sk; omega) (by omega) (by omega) (by omega) (by omega)) h8⟩
  obtain ⟨n, h1, h2⟩ := h.2.1 k hk
  exact ⟨n, h1, (hf.2.1 32 k (by omega) (by unfold Sk; omega) (by omega) (by omega) (by omega) (by omega)).trans h2⟩
theorem Jv.kf (h : Jv rr ii σ) (hk : Kf σ τ) : Jv rr ii τ := by
  obtain ⟨X, h1, h2⟩ := h.2.2.2.2.2.2
  exact h.sf (hk.sd h.1) ⟨X, h1, (hk.2.1 1 8 (by omega) (by unfold Sk; omega)).trans h2⟩ hk.sf
theorem corners_j (h : Jv rr ii σ) : WP (fL_corners σ) (fun r => r.1 = true ∧ Jv rr ii r.2) := wp_imp (corners_s h.1 (Ag.rf σ)) fun _ hr => ⟨hr.1, h.kf hr.2.kf⟩
theorem judges_j (h : Jv rr ii σ) : WP (fL_judges σ) (fun r => r.1 = true ∧ Jv rr ii r.2) := wp_imp (judges_s h.1) fun _ hr => ⟨hr.1, h.kf hr.2⟩
theorem scans_j (h : Jv rr ii σ) : WP (fL_scans σ rr) (fun r => r.1 = true ∧ Jv rr ii r.2) := wp_imp (scans_s h.1 h.2.2.2.2.2.1 h.2.2.2.1.1 h.2.2.2.1.2) fun _ hr => ⟨hr.1, h.sf hr.2.1 hr.2.2.1 hr.2.2.2⟩
theorem noise_j (h : Jv rr ii σ) {K : Nat} (hK : K ≤ 500) : WP (fX7_noise σ (nI K)) (fun r => Jv rr ii r.2) := by
  have hd := h.1
  have hs := hd.s
  have hw := hd.w
  obtain ⟨X, hX, eX⟩ := h.2.2.2.2.2.2
  refine wp_imp (noise_s hs hd.pc hw.1 hw.2 hd.pr eX hX hK) fun r ⟨_, r1, r2, r3, r4⟩ => ?_
  have A := hd.pc.al hd.pr rfl (by omega)
  have C := nsD_alk (X := X) A K
  have es : sO r.2 = sO σ := by unfold sO; rw [r1]
  have P : Pc (wO σ) (hO σ) (fun x y => nsD (wO σ) (hO σ) X (cW (wO σ) (hO σ) (fP σ)) K (y * wO σ + x)) r.2 := by
    unfold Pc
    rw [es]
    refine ⟨?_, ?_, fun x y hx hy => ?_⟩
    · rw [r4 _ _ (by omega) (by omega)]; exact hd.pc.1
    · rw [r4 _ _ (by omega) (by omega)]; exact hd.pc.2.1
    · rw [r3]; exact (C _ (cell_lt hx hy)).1
  have S : Sf rr σ r.2 := ⟨fun c k _ _ _ => by rw [r1], fun c k _ _ h3 _ h5 _ => r4 c k (by omega) h5, by rw [r1]; exact Nat.le_refl _⟩
  refine h.sf ?_ ⟨_, nsS_lt hX K, r2⟩ S
  refine (hd.turn (σ' := r.2) (by rw [es]; exact hs) ?_ (by rw [r1]) (by rw [r1]) P hw.1 hw.2 (fun x y hx hy => (C _ (cell_lt hx hy)).2) (fun c k hc => r4 c k (by omega) (by omega))).1
  rw [es, r1]; exact hd.2.2.1.1
theorem Iv.kn (h : Iv rr ii σ) (hk : Kn rr σ τ) : Iv rr ii τ := by
  have hr := h.2.r
  obtain ⟨X, h1, h2⟩ := h.2.2.2.2.2
  exact ⟨(h.1.fr (τ := τ) (fun k => by rw [hk.1]) (fun c k c1 c2 => hk.2 c k (by omega)) (fun k => hk.2 32 k (by omega))).1, h.2.fr (by rw [hk.1]; exact Nat.le_refl _) (fun c k _ _ => by rw [hk.1]) (hk.2 1 1 (by omega)) ⟨X, h1, (hk.2 1 8 (by omega)).trans h2⟩⟩
theorem Jv.kn (h : Jv rr ii σ) (hk : Kn rr σ τ) : Jv rr ii τ := by
  have hr := h.2.2.r
  have hs := h.1.s
  obtain ⟨X, h1, h2⟩ := h.2.2.2.2.2.2
  have es : sO τ = sO σ := by unfold sO; rw [hk.1]
  refine h.sf ?_ ⟨X, h1, (hk.2 1 8 (by omega)).trans h2⟩ hk.sf
  refine (h.1.turn (σ' := τ) (by rw [es]; exact hs) (by rw [es, hk.1]; exact h.1.2.2.1.1) (by rw [hk.1]) (by rw [hk.1]) (h.1.pc.fr es (fun k => hk.2 _ _ (by omega)) (fun k => hk.2 _ _ (by omega))) h.1.w.1 h.1.w.2 h.1.pr (fun c k hc => hk.2 c k (by omega))).1
theorem Iv.draws (h : Iv rr ii σ) (hir : ii ≠ rr) {U V : Nat} (hU : 14 ≤ U ∧ U ≤ 33) (hV : 14 ≤ V ∧ V ≤ 33) : WP (fL_draws σ ii rr (nI U) (nI V)) (fun r => r.1 = true ∧ Jv rr ii r.2 ∧ uO r.2 = U ∧ vO r.2 = V ∧ ∃ q, q ≤ 5 ∧ gI r.2 ii 0 = nI q ∧ (1 ≤ q → Rq rr ii r.2)) := by
  have hr := h.2.r
  obtain ⟨hS, hB⟩ := id h
  obtain ⟨b1, ⟨b2, b3⟩, ⟨b4, b5⟩, b6, X, h1, h2⟩ := id hB
  have gi : 2000 ≤ ii ∧ ii < 2000 + gR σ 0 0 := of_decide_eq_true b4
  refine wp_imp (draws_s hS b1 b4 b5 b2 b3 hir hU hV) fun r ⟨r1, r2, r3, r4, r5, r6, r7, f1, f2, f3⟩ => ?_
  exact ⟨r1, ⟨r2, r3, hB.fr f3 (fun c k c1 c2 => f1 c k (by omega) c2 (by omega)) (r6.trans b1.symm) ⟨X, h1, (f2 1 8 (by omega) (by omega) (by omega) (by omega) (by omega) (by omega) (by omega) (by omega) (by omega) (by omega)).trans h2⟩⟩, r4, r5, r7⟩
theorem Jv.reads (h : Jv rr ii σ) (hq : Rq rr ii σ) : WP (fL_reads σ ii rr (nI (uO σ)) (nI (vO σ))) (fun r => r.1 = true ∧ Jv rr ii r.2) := by
  have hr := h.2.2.r
  obtain ⟨X, h1, h2⟩ := h.2.2.2.2.2.2
  refine wp_imp (reads_s hq) fun r ⟨r1, r2, r3, f1, f2, f3⟩ => ?_
  exact ⟨r1, r2, r3, h.2.2.fr f3 (fun c k c1 c2 => f1 c k (by omega) c2) (f2 1 1 (by omega) (by unfold Sk; omega) (by omega) (by omega) (by omega) (by omega)) ⟨X, h1, (f2 1 8 (by omega) (by unfold Sk; omega) (by omega) (by omega) (by omega) (by omega)).trans h2⟩⟩
end LAW
