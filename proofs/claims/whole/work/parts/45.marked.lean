/-! Mark, marked kept. -/
section LOC
variable {σ : SS} {s f w q spk : Nat}
theorem loc7 (h : RAll s f σ) (hw : 8 ≤ w ∧ w ≤ 40) (hq : 8 ≤ q ∧ q ≤ 40) (e1 : gI σ s 0 = nI w) (e2 : gI σ s 1 = nI q) (hd : ∀ k, k < w * q → gI σ (s + 1) k = gI σ 83 k ∧ inR (gI σ 83 k) 0 9) (e88 : gI σ 88 1 = nI spk) (hspk : 1 ≤ spk ∧ spk ≤ 20) : WP (fX3_locate σ s) (fun r => (r.1 = true ↔ frU (mkB w q spk (gI σ 88 2) (inkO σ)) 4) ∧ gR r.2 = gR σ ∧ (∀ c k, ¬ (33 ≤ c ∧ c ≤ 44) → gI r.2 c k = gI σ c k) ∧ (∀ k, k < 4 → gI r.2 44 k = mkB w q spk (gI σ 88 2) (inkO σ) k) ∧ (frU (mkB w q spk (gI σ 88 2) (inkO σ)) 4 → ∀ k, k < 4 → ∃ b, b < nB w q spk (inkO σ) (w * q) ∧ mkB w q spk (gI σ 88 2) (inkO σ) k = nI b ∧ gL r.2 46 k = lN (zX w q spk (inkO σ) b) ∧ gL r.2 47 k = lN (zY w q spk (inkO σ) b) ∧ gL r.2 48 k = lN (zS w q spk (inkO σ) b))) := by
  have h5 := h.2.2.2.2.1
  refine locate7 h.1.1 hw hq e1 e2 (fun k hk => ?_) (by rw [(h5 1 (by omega)).1]; exact e88) hspk (h5 2 (by omega)).1
  rw [(h5 0 (by omega)).1, (hd k hk).1]
  exact Int32.not_lt.symm
theorem loc8 {σ' : SS} (hs : ∀ c k, ¬ (33 ≤ c ∧ c ≤ 57) → gI σ' c k = gI σ c k) (hw : 8 ≤ w ∧ w ≤ 40) (hq : 8 ≤ q ∧ q ≤ 40) (e3 : gI σ 73 29 = nI w) (e4 : gI σ 73 30 = nI q) (e88 : gI σ 88 1 = nI spk) (hspk : 1 ≤ spk ∧ spk ≤ 20) : WP (fX8_laysMarks σ') (fun r => gR r = gR σ' ∧ (∀ c k, ¬ (92 ≤ c ∧ c ≤ 102) → ¬ (c = 73 ∧ (k = 43 ∨ k = 44 ∨ k = 49)) → gI r c k = gI σ' c k) ∧ K8 w q spk (gI σ 88 2) (inkO σ) r) :=
  marks8 hw hq (by rw [hs _ _ (by omega)]; exact e3) (by rw [hs _ _ (by omega)]; exact e4) (fun k hk => by
    rw [hs _ _ (by omega), hs _ _ (by omega)]
    exact ⟨fun h h2 => h2 h, fun h => Classical.byContradiction fun h2 => h h2⟩) (by rw [hs _ _ (by omega)]; exact e88) hspk (hs _ _ (by omega))
end LOC
theorem scr_f2 {s f c k : Nat} (h : (33 ≤ c ∧ c ≤ 57) ∨ (91 ≤ c ∧ c ≤ 108) ∨ (c = 73 ∧ ¬ (k = 1 ∨ k = 11 ∨ k = 12 ∨ k = 29 ∨ k = 30 ∨ k = 31 ∨ k = 65))) : scr s f c k = true := by
  unfold scr
  simp only [Bool.or_eq_true, Bool.and_eq_true, decide_eq_true_eq, Bool.not_eq_true', Bool.or_eq_false_iff, decide_eq_false_iff_not]
  omega
/-- scratch of the judging on both sides -/
theorem Rel.jd {s f : Nat} {σ r2 : SS} (h : RAll s f σ) (a1 : gR r2 = gR σ) (a2 : ∀ c k, ¬ ((33 ≤ c ∧ c ≤ 57) ∨ (91 ≤ c ∧ c ≤ 108) ∨ (c = 73 ∧ ¬ (k = 1 ∨ k = 11 ∨ k = 12 ∨ k = 29 ∨ k = 30 ∨ k = 31 ∨ k = 65))) → gI r2 c k = gI σ c k) : Rel r2 :=
  ⟨s, f, h.scr ⟨fun c k hk => a2 c k fun hc => by rw [scr_f2 hc] at hk; exact absurd hk (by decide), a1⟩⟩
theorem op20 : ∀ a σ, Rel σ → st20 Rel a σ := by
  intro a σ ⟨s, f, h⟩
  obtain ⟨hs, hf, hR1, -⟩ := id h.1
  obtain ⟨w, q, hw, hq, e1, e2, e3, e4, hd⟩ := h.2.2.1
  obtain ⟨spk, hspk, e88⟩ := h.2.2.2.2.1.spk
  by_cases hc : 0 ≤ (a 1).toInt ∧ (a 1).toInt < 4
  · obtain ⟨k, hk, ek⟩ := in_of (x := a 1) (w := 4) (by decide) hc
    obtain ⟨⟨b, r1⟩, x1, a0, a1, a2, a3, -⟩ := loc7 h hw hq e1 e2 hd e88 hspk
    dsimp only at a0 a1 a2 a3
    obtain ⟨r2, x2, b1, b2, b3, -⟩ := loc8 (σ := σ) (σ' := r1) (fun c k hc => a2 c k (by omega)) hw hq e3 e4 e88 hspk
    refine ⟨md (mkB w q spk (gI σ 88 2) (inkO σ) k), r1, r2, ?_, ?_, Rel.jd h (b1.trans a1) fun c j hc => by rw [b2 c j (by omega) (by omega), a2 c j (by omega)]⟩
    · unfold fX7_mark
      simp only [lt_i, Int32.reduceToInt]
      rw [if_neg (by omega), if_pos (by omega), hR1, bnd_of _ x1, ek, grd_eq _ (inb_nI hk (by decide)), nI_clamp (by omega), a3 k hk]
      unfold md
      by_cases c : mkB w q spk (gI σ 88 2) (inkO σ) k < 0
      · rw [if_pos c, if_neg (Int32.not_le.mpr c)]
      · rw [if_neg c, if_pos (Int32.not_lt.mp c)]
    · unfold fX8_mark
      simp only [in_eq, le_i, Int32.reduceToInt]
      rw [if_pos (by omega), bnd1_of _ x2, ek, grd_eq _ (inb_nI hk (by decide)), nI_clamp (by omega), b3 k hk]
  · refine ⟨-1, σ, σ, ?_, ?_, s, f, h⟩
    · unfold fX7_mark
      simp only [lt_i, Int32.reduceToInt]
      by_cases c1 : (a 1).toInt < 0
      · rw [if_pos c1]
      · rw [if_neg c1, if_neg (by omega)]
    · unfold fX8_mark
      simp only [in_eq, le_i, Int32.reduceToInt]
      rw [if_neg (by omega)]
theorem op21 : ∀ a σ, Rel σ → st21 Rel a σ := by
  intro a σ ⟨s, f, h⟩
  obtain ⟨hs, hf, hR1, -⟩ := id h.1
  obtain ⟨w, q, hw, hq, e1, e2, e3, e4, hd⟩ := h.2.2.1
  obtain ⟨spk, hspk, e88⟩ := h.2.2.2.2.1.spk
  obtain ⟨⟨b, r1⟩, x1, a0, a1, a2, a3, -⟩ := loc7 h hw hq e1 e2 hd e88 hspk
  dsimp only at a0 a1 a2 a3
  obtain ⟨r2, x2, b1, b2, -, b4, -⟩ := loc8 (σ := σ) (σ' := r1) (fun c k hc => a2 c k (by omega)) hw hq e3 e4 e88 hspk
  have hrel : Rel r2 := Rel.jd h (b1.trans a1) fun c j hc => by rw [b2 c j (by omega) (by omega), a2 c j (by omega)]
  unfold st21 fX7_marked fX8_marked
  rw [hR1, bnd_of _ x1]
  rcases b4 with ⟨p1, p2⟩ | ⟨p1, p2⟩
  · refine ⟨1, r1, r2, by rw [if_pos (a0.mpr p1)], ?_, hrel⟩
    rw [bnd1_of _ x2, p2, if_neg (by decide)]
  · refine ⟨0, r1, r2, by rw [if_neg fun e => p1 (a0.mp e)], ?_, hrel⟩
    rw [bnd1_of _ x2, p2, if_pos rfl]
