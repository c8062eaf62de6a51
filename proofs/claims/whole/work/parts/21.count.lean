/-! What is counted. -/
theorem RForm.hd {f : Nat} {σ : SS} (h : RForm f σ) : fX8_headOf σ 0 = some (gI σ f 1) ∧ fX8_headOf σ 1 = some (gI σ f 2) := by
  obtain ⟨b, hb, e, ⟨o1, o2, o3, o4, o5, o6⟩ | ⟨o1, o2, W, H, A, B, Q, N, r1, r2, r3, r4, r5, r6, r7, r8⟩⟩ := h
  · unfold fX8_headOf
    rw [if_pos o2, if_pos o2, o3, o4]
    exact ⟨rfl, rfl⟩
  · unfold fX8_headOf
    have e5 : (5 : Int32) * nI b + 0 = nI (5 * b) := by rw [show (5 : Int32) = nI 5 from rfl, nI_mul]; exact nI_add (5 * b) 0
    have e6 : (5 : Int32) * nI b + 1 = nI (5 * b + 1) := by rw [show (5 : Int32) = nI 5 from rfl, nI_mul]; exact nI_add (5 * b) 1
    rw [o2, if_neg (by decide), if_neg (by decide), e, e5, e6, grd_eq _ (inb_nI (by omega) (by decide)), grd_eq _ (inb_nI (by omega) (by decide)), nI_clamp (by omega), nI_clamp (by omega), r7.1, r7.2.1, r6.1, r6.2.1]
    exact ⟨rfl, rfl⟩
theorem allBoxes_eq {σ : SS} {b Q : Nat} {N : Nat → Nat} (hb : b < 2) (hQ : Q ≤ 12) (e : gI σ 73 11 = nI b) (eq : fX8_questions σ = some (nI Q)) (hq : ∀ q, q < Q → gI σ 77 (12 * b + q) = nI (N q)) : fX8_allBoxes σ = some (nI (psum N Q)) := by
  unfold fX8_allBoxes X8_allBoxes_L4
  refine lp_2 (fun i => nI (psum N i)) (fun i => nI i) Q _ (fun i hi rec => ?_) (fun rec => ?_) fuel (fuel_gt (by omega))
  · rw [bnd1_of _ eq, if_neg (nI_ge hi (by omega)), bnd1_of _ (boxesOf_eq hb e (by omega) (hq i hi)), vthen_eq, nI_add, nI_1]
    rfl
  · rw [bnd1_of _ eq, if_pos (nI_le (Nat.le_refl _) (by omega))]
theorem itr_eq {S : Type} {f g : Nat → S → S} (s : S) (N : Nat) (h : ∀ i, i < N → ∀ s, f i s = g i s) : itr f s N = itr g s N := itr_congr h
section COUNT
variable {σ : SS} {s w q : Nat}
theorem notBelow_eq (hw : w ≤ 40) (hq : q ≤ 40) (e1 : gI σ s 0 = nI w) (e2 : gI σ s 1 = nI q) (l : Int32) : fX6_notBelow σ s l = some (itr (fun i n => if gI σ (s + 1) i < l then n else n + 1) 0 (w * q)) := by
  have ha := area_le hw hq
  unfold fX6_notBelow X6_notBelow_L4
  refine lp_2 (fun i => itr (fun i n => if gI σ (s + 1) i < l then n else n + 1) 0 i) (fun i => nI i) (w * q) _ (fun i hi rec => ?_) (fun rec => ?_) fuel (fuel_gt (by omega))
  · rw [e1, e2, nI_mul, if_neg (nI_ge hi (by omega)), grd_eq _ (inb_nI (by omega) (by omega)), nI_clamp (by omega), nI_1]
    show _ = rec (if gI σ (s + 1) i < l then _ else _) _
    by_cases c : gI σ (s + 1) i < l
    · rw [if_pos c, if_pos c]
    · rw [if_neg c, if_neg c]
  · rw [e1, e2, nI_mul, if_pos (nI_le (Nat.le_refl _) (by omega))]
theorem sumNotBelow_eq (hw : w ≤ 40) (hq : q ≤ 40) (e1 : gI σ s 0 = nI w) (e2 : gI σ s 1 = nI q) (l : Int32) : fX6_sumNotBelow σ s l = some (itr (fun i n => if gI σ (s + 1) i < l then n else n + gI σ (s + 1) i) 0 (w * q)) := by
  have ha := area_le hw hq
  unfold fX6_sumNotBelow X6_sumNotBelow_L4
  refine lp_2 (fun i => itr (fun i n => if gI σ (s + 1) i < l then n else n + gI σ (s + 1) i) 0 i) (fun i => nI i) (w * q) _ (fun i hi rec => ?_) (fun rec => ?_) fuel (fuel_gt (by omega))
  · rw [e1, e2, nI_mul, if_neg (nI_ge hi (by omega)), grd_eq _ (inb_nI (by omega) (by omega)), nI_clamp (by omega), nI_1]
    show _ = rec (if gI σ (s + 1) i < l then _ else _) _
    by_cases c : gI σ (s + 1) i < l
    · rw [if_pos c, if_pos c]
    · rw [if_neg c, if_neg c]
      rfl
  · rw [e1, e2, nI_mul, if_pos (nI_le (Nat.le_refl _) (by omega))]
theorem all_eq (e3 : gI σ 73 29 = nI w) (e4 : gI σ 73 30 = nI q) : fX8_all σ = nI (w * q) := by unfold fX8_all; rw [e3, e4, nI_mul]
theorem inked_eq (hw : w ≤ 40) (hq : q ≤ 40) (e3 : gI σ 73 29 = nI w) (e4 : gI σ 73 30 = nI q) : fX8_inked σ = some (itr (fun i n => if gI σ 88 0 ≤ gI σ 83 i then n + 1 else n + 0) 0 (w * q)) := by
  have ha := area_le hw hq
  unfold fX8_inked X8_inked_L4
  refine lp_2 (fun i => itr (fun i n => if gI σ 88 0 ≤ gI σ 83 i then n + 1 else n + 0) 0 i) (fun i => nI i) (w * q) _ (fun i hi rec => ?_) (fun rec => ?_) fuel (fuel_gt (by omega))
  · rw [all_eq e3 e4, if_neg (nI_ge hi (by omega)), grd_eq _ (inb_nI (by omega) (by omega)), nI_clamp (by omega), nI_1]
    show _ = rec (if gI σ 88 0 ≤ gI σ 83 i then _ else _) _
    by_cases c : gI σ 88 0 ≤ gI σ 83 i
    · rw [if_pos c, if_pos c]
      rfl
    · rw [if_neg c, if_neg c]
      rfl
  · rw [all_eq e3 e4, if_pos (nI_le (Nat.le_refl _) (by omega))]
theorem darkness_eq (hw : w ≤ 40) (hq : q ≤ 40) (e3 : gI σ 73 29 = nI w) (e4 : gI σ 73 30 = nI q) : fX8_darkness σ = some (itr (fun i n => n + gI σ 83 i) 0 (w * q)) := by
  have ha := area_le hw hq
  unfold fX8_darkness X8_darkness_L4
  refine lp_2 (fun i => itr (fun i n => n + gI σ 83 i) 0 i) (fun i => nI i) (w * q) _ (fun i hi rec => ?_) (fun rec => ?_) fuel (fuel_gt (by omega))
  · rw [all_eq e3 e4, if_neg (nI_ge hi (by omega)), grd_eq _ (inb_nI (by omega) (by omega)), nI_clamp (by omega), nI_1]
    rfl
  · rw [all_eq e3 e4, if_pos (nI_le (Nat.le_refl _) (by omega))]
end COUNT
theorem ite_ex {c : Prop} [Decidable c] {x : Int32} {Y : Option Int32} (h : ∃ v, Y = some v) : ∃ v, (if c then some x else Y) = some v := by
  by_cases hc : c
  · rw [if_pos hc]; exact ⟨_, rfl⟩
  · rw [if_neg hc]; exact h
theorem op2 : ∀ a σ, Rel σ → st2 Rel a σ := by
  intro a σ ⟨s, f, h⟩
  obtain ⟨hs, hf, hR1, -, hR5, -⟩ := id h.1
  obtain ⟨n, hn, t1, t2, -⟩ := h.2.1
  obtain ⟨w, q, hw, hq, e1, e2, e3, e4, hd⟩ := h.2.2.1
  have hset := h.2.2.2.2.1 0 (by omega)
  have hsd := h.2.2.2.2.2.2.1
  have hF := h.2.2.2.2.2.2.2.1
  obtain ⟨S, hS, p1, p2, -⟩ := h.2.2.2.2.2.2.2.2.2
  obtain ⟨b, Q, N, hb, hQ, e11, e5, e6, eq, hqs⟩ := hF.q
  have hA := allBoxes_eq hb hQ e11 eq (fun q hq => (hqs q hq).2.2.2.1)
  suffices hh : ∃ v, fX7_count σ (a 1) = some v ∧ fX8_count σ (a 1) = some v by
    obtain ⟨v, x1, x2⟩ := hh
    exact ⟨v, x1, x2, s, f, h⟩
  unfold fX7_count fX8_count
  rw [hR1, hR5, e1, e2, e3, e4, e5, e6, t1, t2, p1, p2, hsd.1, eq, hA, hF.hd.1, hF.hd.2, notBelow_eq (by omega) (by omega) e1 e2, sumNotBelow_eq (by omega) (by omega) e1 e2, inked_eq (by omega) (by omega) e3 e4, darkness_eq (by omega) (by omega) e3 e4]
  have c1 : itr (fun i n => if gI σ (s + 1) i < gI σ 32 0 then n else n + 1) (0 : Int32) (w * q) = itr (fun i n => if gI σ 88 0 ≤ gI σ 83 i then n + 1 else n + 0) 0 (w * q) := itr_congr fun i hi m => by
    rw [hset.1, (hd i hi).1]
    by_cases c : gI σ 83 i < gI σ 88 0
    · rw [if_pos c, if_neg (Int32.not_le.mpr c), Int32.add_zero]
    · rw [if_neg c, if_pos (Int32.not_lt.mp c)]
  have c2 : itr (fun i n => if gI σ (s + 1) i < 0 then n else n + gI σ (s + 1) i) (0 : Int32) (w * q) = itr (fun i n => n + gI σ 83 i) 0 (w * q) := itr_congr fun i hi m => by
    rw [(hd i hi).1, if_neg (by rw [lt_i]; have := (hd i hi).2.1; show ¬ (gI σ 83 i).toInt < 0; omega)]
  rw [c1, c2]
  have e : ∀ x : Int32, bnd1 (some x) (fun v => some v) = some x := fun _ => rfl
  simp only [e]
  have two : ∀ X : Option Int32, (∃ v, X = some v) → ∃ v, X = some v ∧ X = some v := fun X hX => hX.elim fun v hv => ⟨v, hv, hv⟩
  refine two _ ?_
  exact ite_ex (ite_ex (ite_ex (ite_ex (ite_ex (ite_ex (ite_ex (ite_ex (ite_ex (ite_ex (ite_ex ⟨_, rfl⟩))))))))))
