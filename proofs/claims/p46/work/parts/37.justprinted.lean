/-! 37: printing gives a sheet just printed. -/
section JUST
variable {τ : SS} {Tn : Nat → Nat} {l v : Nat}
theorem ink_iff {A B Q : Nat} {T : Nat → Int32} {N Tn cx cy : Nat → Nat} (hN : ∀ p, p < Q → N p ≤ 6) (hT : ∀ p, p < Q → T p = nI (Tn p) ∧ Tn p < 64) (x y : Nat) : inkd A B T cx cy N Q x y ↔ ∃ k, k < psum N Q ∧ tkK Q N Tn k ∧ inBx A B cx cy k x y := by
  have hb : ∀ p i, p < Q → i < N p → (tkB T p i ↔ (Tn p).testBit i = true) := fun p i hp hi => by
    have := hN p hp
    unfold tkB
    rw [(hT p hp).1]
    exact bit_has _ (hT p hp).2 _ (by omega)
  constructor
  · rintro ⟨p, i, hp, hi, ht, hx⟩
    exact ⟨psum N p + i, psum_lt hp hi, ⟨p, i, hp, hi, rfl, (hb p i hp hi).mp ht⟩, hx⟩
  · rintro ⟨k, hk, ⟨p, i, hp, hi, rfl, ht⟩, hx⟩
    exact ⟨p, i, hp, hi, (hb p i hp hi).mpr ht, hx⟩
theorem Bxs.fq {σ σ' : SS} (h : Bxs σ) (hq : Fq σ σ') : Bxs σ' := by
  obtain ⟨e1, e2, e3, e4, e5, e6, e7, e8, e9⟩ := hq
  unfold Bxs
  rw [e2, e3, e4, e5, e6, e7, e8, e9]
  exact h
theorem just_s {sp m : Nat} (h : Sd τ) (hU : 4 ≤ uO τ ∧ uO τ ≤ 33) (hV : 4 ≤ vO τ ∧ vO τ ≤ 33) (hw : wO τ = uO τ + 7) (hq : hO τ = vO τ + 7) (hC : ∀ k, k < 4 → gI τ 28 k = nI (cX (uO τ) k) ∧ gI τ 29 k = nI (cY (vO τ) k)) (hv : 1 ≤ v ∧ v ≤ 9) (hl : 1 ≤ l ∧ l ≤ 9) (e0 : gI τ 32 0 = nI l) (e1 : gI τ 32 1 = nI sp) (hsp : 1 ≤ sp ∧ sp ≤ 9) (e2 : gI τ 32 2 = nI 9) (e3 : gI τ 32 3 = nI m) (hm : 1 ≤ m ∧ m ≤ 200) (ht : ∀ p, p < qO τ → gI τ 30 p = nI (Tn p) ∧ Tn p < 2 ^ nO τ p) (hB : Bxs τ) :
    WP (fX7_print τ (nI v)) (fun r => Prd r.2 Tn l v ∧ Fq τ r.2 ∧ r.1 = nI (36 + tC r.2 Tn * (aO r.2 * bO r.2)) ∧ fX7_count r.2 (10 : Int32) = some (nI (324 + v * (tC r.2 Tn * (aO r.2 * bO r.2)))) ∧ gR r.2 = gR τ ∧ ∀ c k, c ≠ sO τ → c ≠ sO τ + 1 → c ≠ 45 → gI r.2 c k = gI τ c k) := by
  have hs := h.s
  have hww := h.w
  have hCn : Cn (cX (uO τ)) (cY (vO τ)) (wO τ) (hO τ) τ := fun k hk => by
    have c1 := cc (uO τ) (vO τ) hk
    exact ⟨(hC k hk).1, (hC k hk).2, by omega, by omega⟩
  have hX : ∀ i j, i < uO τ → j < vO τ → rdV (cX (uO τ)) (fun _ => 1) (2 * uO τ) (2 * vO τ) (2 * i + 1) (2 * j + 1) = nI (4 + i) := fun i j hi hj => by
    refine rd_up (c := 1) (Or.inl rfl) ⟨hU.1, by omega⟩ ⟨hV.1, by omega⟩ (fun _ _ => rfl) (by omega) ?_
    rw [mp_up (c := 1) (fun _ _ => rfl) rfl (by rw [Nat.one_mul]; rfl) rfl (by rw [Nat.one_mul]; rfl) (by omega) (by omega), show 6 + (2 * i + 1) = 7 + 2 * i by omega]
  have hY : ∀ i j, i < uO τ → j < vO τ → rdV (cY (vO τ)) (fun _ => 1) (2 * uO τ) (2 * vO τ) (2 * i + 1) (2 * j + 1) = nI (4 + j) := fun i j hi hj => by
    refine rd_up (c := 1) (Or.inl rfl) ⟨hU.1, by omega⟩ ⟨hV.1, by omega⟩ (fun _ _ => rfl) (by omega) ?_
    rw [mp_up' (c := 1) (fun _ _ => rfl) rfl rfl (by rw [Nat.one_mul]; rfl) (by rw [Nat.one_mul]; rfl) (by omega) (by omega), show 6 + (2 * j + 1) = 7 + 2 * j by omega]
  have hN6 : ∀ p, p < qO τ → nO τ p ≤ 6 := fun _ hp => (h.N hp).2
  have hT64 : ∀ p, p < qO τ → gI τ 30 p = nI (Tn p) ∧ Tn p < 64 := fun p hp => ⟨(ht p hp).1, Nat.lt_of_lt_of_le (ht p hp).2 (Nat.pow_le_pow_right (by decide) (hN6 p hp))⟩
  obtain ⟨r, er, r1, r2, r3, r4⟩ := print_s h hCn hv
  have pic := fun x y => all_at (w := wO τ) (q := hO τ) (X := cX (uO τ)) (Y := cY (vO τ)) (S := fun _ => 1) (A := aO τ) (B := bO τ) (G := prF (cX (uO τ)) (cY (vO τ)) 4) (T := gI τ 30) (cx := xO τ) (cy := yO τ) (N := nO τ) ⟨hU.1, by omega⟩ ⟨hV.1, by omega⟩ hw hq hX hY (nI v) x y (qO τ) (fun p i hp hi => by have := hB.1 _ (psum_lt hp hi); omega)
  have cases3 : ∀ x y, (inkd (aO τ) (bO τ) (gI τ 30) (xO τ) (yO τ) (nO τ) (qO τ) x y → alF (wO τ) (hO τ) (nI v) (cX (uO τ)) (cY (vO τ)) (fun _ => 1) (2 * uO τ) (2 * vO τ) (aO τ) (bO τ) (gI τ 30) (xO τ) (yO τ) (nO τ) (prF (cX (uO τ)) (cY (vO τ)) 4) (qO τ) x y = nI v) ∧ (¬ inkd (aO τ) (bO τ) (gI τ 30) (xO τ) (yO τ) (nO τ) (qO τ) x y → (∃ k, k < 4 ∧ inSq (cX (uO τ)) (cY (vO τ)) k x y) → alF (wO τ) (hO τ) (nI v) (cX (uO τ)) (cY (vO τ)) (fun _ => 1) (2 * uO τ) (2 * vO τ) (aO τ) (bO τ) (gI τ 30) (xO τ) (yO τ) (nO τ) (prF (cX (uO τ)) (cY (vO τ)) 4) (qO τ) x y = 9) ∧ (¬ inkd (aO τ) (bO τ) (gI τ 30) (xO τ) (yO τ) (nO τ) (qO τ) x y → (¬ ∃ k, k < 4 ∧ inSq (cX (uO τ)) (cY (vO τ)) k x y) → alF (wO τ) (hO τ) (nI v) (cX (uO τ)) (cY (vO τ)) (fun _ => 1) (2 * uO τ) (2 * vO τ) (aO τ) (bO τ) (gI τ 30) (xO τ) (yO τ) (nO τ) (prF (cX (uO τ)) (cY (vO τ)) 4) (qO τ) x y = 0) := fun x y =>
    ⟨(pic x y).1, fun a b => ((pic x y).2 a).trans ((sq_at x y 4).1 b), fun a b => ((pic x y).2 a).trans ((sq_at x y 4).2 b)⟩
  generalize alF (wO τ) (hO τ) (nI v) (cX (uO τ)) (cY (vO τ)) (fun _ => 1) (2 * uO τ) (2 * vO τ) (aO τ) (bO τ) (gI τ 30) (xO τ) (yO τ) (nO τ) (prF (cX (uO τ)) (cY (vO τ)) 4) (qO τ) = F at r4 cases3
  have hF : ∀ x y, x < wO τ → y < hO τ → inR (F x y) 0 9 := fun x y _ _ => by
    obtain ⟨c1, c2, c3⟩ := cases3 x y
    by_cases a : inkd (aO τ) (bO τ) (gI τ 30) (xO τ) (yO τ) (nO τ) (qO τ) x y
    · rw [c1 a]; unfold inR; rw [nI_toInt (by omega)]; omega
    · by_cases b : ∃ k, k < 4 ∧ inSq (cX (uO τ)) (cY (vO τ)) k x y
      · rw [c2 a b]; exact ⟨by decide, by decide⟩
      · rw [c3 a b]; exact ⟨by decide, by decide⟩
  have f32 : ∀ k, gI r.2 32 k = gI τ 32 k := fun k => r3 32 k (by omega) (by omega) (by omega)
  have hf := h.f
  obtain ⟨dβ, ⟨ew, eh, ep⟩, ek, fq⟩ := h.anew (σ' := r.2) (sp := sp) (m := m) (fun k => by rw [r2]) r4 hww.1 hww.2 hF (fun c k c1 c2 => r3 c k (by omega) (by omega) (by omega)) ((f32 1).trans e1) (by omega) ((f32 3).trans e3) hm
  have hP : Prd r.2 Tn l v := by
    have hBβ := hB.fq fq
    obtain ⟨q1, q2, q3, q4, q5, q6, q7, q8, q9⟩ := fq
    refine ⟨dβ, ⟨by rw [q2]; exact hU, by rw [q3]; exact hV, by rw [ew, q2]; exact hw, by rw [eh, q3]; exact hq⟩, ⟨hl, hv, (f32 0).trans e0, (f32 2).trans e2, by rw [ek]; exact hsp.2⟩, fun p hp => ?_, hBβ, fun x y hx hy => ?_⟩
    · rw [q6] at hp
      rw [q7, r3 30 p (by omega) (by omega) (by omega)]
      exact ht p hp
    · rw [ew] at hx
      rw [eh] at hy
      have hi : inkB r.2 Tn x y ↔ inkd (aO τ) (bO τ) (gI τ 30) (xO τ) (yO τ) (nO τ) (qO τ) x y := by
        unfold inkB
        rw [q4, q5, q6, q7, q8, q9]
        exact (ink_iff hN6 hT64 x y).symm
      rw [hi, ep, ew, cW_at hx hy, q2, q3]
      exact cases3 x y
  have es : sO r.2 = sO τ := by unfold sO; rw [r2]
  have ed : ∀ i, i < wO τ * hO τ → gI r.2 (sO τ + 1) i = pO r.2 i := fun i hi => by
    unfold pO
    rw [ew, eh, if_pos hi, es]
  have hsum := hP.sums
  rw [ew, eh] at hsum
  refine ⟨r, er, hP, fq, ?_, ?_, r2, r3⟩
  · rw [r1, ← hsum.1]
    exact itr_congr fun i hi n => by rw [ed i hi]
  · rw [count10 r4 hww.1.2 hww.2.2, es, ← hsum.2]
    exact congrArg some (itr_congr fun i hi n => by rw [ed i hi])
end JUST
