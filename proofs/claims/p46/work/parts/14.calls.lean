/-! 14: further calls under a form. -/
section CALLS
variable {β σ : SS}
theorem Sd.U (h : Sd β) : (4 ≤ uO β ∧ uO β ≤ 40) ∧ (4 ≤ vO β ∧ vO β ≤ 40) := ⟨h.1.2.2.2.2.2.2.2.2.2.2.2.1, h.1.2.2.2.2.2.2.2.2.2.2.2.2.1⟩
theorem Sd.w (h : Sd β) : (8 ≤ wO β ∧ wO β ≤ 40) ∧ (8 ≤ hO β ∧ hO β ≤ 40) := ⟨h.1.2.2.1, h.1.2.2.2.1⟩
theorem Sd.pos (h : Sd β) {p : Nat} (hp : p < qO β) : 0 < psum (nO β) (qO β) := by have := h.at hp (i := 0) (h.N hp).1; omega
theorem Sd.P (h : Sd β) : ppO β ≤ 324 := pN_le (fun k => h.D k) _
theorem Sd.PD (h : Sd β) {k : Nat} (hk : k < psum (nO β) (qO β)) : ppO β ≤ dO β k := pN_ge _ k hk
/-- the greatest step of a question, as a number -/
theorem Sd.t (h : Sd β) {p : Nat} (hp : p < qO β) : ∃ t : Nat, t ≤ 324 ∧ (stQ (fun i => dO β (psum (nO β) p + i)) (ppO β) (nO β p) (nO β p)).2 = nI t ∧ 1 ≤ (stQ (fun i => dO β (psum (nO β) p + i)) (ppO β) (nO β p) (nO β p)).1 :=
  stQ_n (fun k => h.D _) h.P (h.N hp).1 (fun k hk => h.PD (h.at hp hk))
theorem darkP_s (h : Sd β) (ha : Ag β σ) {p : Nat} (hp : p < qO β) : WP (fX7_dark σ (nI p) (-1 : Int32)) (fun r => Ag β r.2 ∧ (Mkd β → r.1 = nI (ppO β))) := by
  obtain ⟨⟨b, r⟩, er, r1, r2, r3⟩ := meas_s h ha
  unfold fX7_dark
  simp only [vthen_eq, if_true]
  rw [ag_s ha, ag_f ha, if_pos (by rw [hasQ_eq h.Q (h.F ha).2.1, nI_toInt (by have := h.Q; omega)]; omega), bnd_of _ er]
  by_cases hm : Mkd β
  · rw [if_pos (r1.mpr hm)]
    exact ⟨_, rfl, r2, fun _ => (r3 hm).2 (h.pos hp)⟩
  · rw [if_neg (fun q => hm (r1.mp q))]
    exact ⟨_, rfl, r2, fun q => absurd q hm⟩
theorem dark_s (h : Sd β) (ha : Ag β σ) {p i : Nat} (hp : p < qO β) (hi : i < nO β p) : WP (fX7_dark σ (nI p) (nI i)) (fun r => Ag β r.2 ∧ (Mkd β → r.1 = nI (dO β (psum (nO β) p + i)))) := by
  have hQ := h.Q
  have hN := h.N hp
  have hT := h.T
  have hat := h.at hp hi
  have hF := h.F ha
  obtain ⟨⟨b, r⟩, er, r1, r2, r3⟩ := meas_s h ha
  obtain ⟨bb, x1, x2⟩ := hasBox_eq hQ hF.2.1 hp hN.2 (hF.2.2.2 p hp).2.2 (nI i)
  unfold fX7_dark
  simp only [vthen_eq]
  rw [ag_s ha, ag_f ha, if_pos (by rw [hasQ_eq hQ hF.2.1, nI_toInt (by omega)]; omega), if_neg (nI_m1 (by omega)), bnd1_of _ x1, if_pos (by rw [x2, nI_toInt (by omega)]; omega), bnd_of _ er]
  have e2 : gI r (fO β + 2) p = nI (psum (nO β) p) := (h.F r2).2.2.2 p hp |>.2.1
  rw [ag_f r2]
  by_cases hm : Mkd β
  · rw [if_pos (r1.mpr hm), if_neg (nI_m1 (by omega)), grd_eq _ (inb_nI (by omega) (by decide)), nI_clamp (by omega), e2, nI_add, grd_eq _ (inb_nI (by omega) (by decide)), nI_clamp (by omega)]
    exact ⟨_, rfl, r2, fun _ => (r3 hm).1 _ hat⟩
  · rw [if_neg (fun q => hm (r1.mp q))]
    exact ⟨_, rfl, r2, fun q => absurd q hm⟩
theorem rank_s (h : Sd β) (ha : Ag β σ) {p i : Nat} (hp : p < qO β) (hi : i < nO β p) : WP (fX7_rank σ (nI p) (nI i)) (fun r => Ag β r.2 ∧ (Mkd β → r.1 = itr (rkW (dO β) (psum (nO β) p + i)) 1 (psum (nO β) (qO β)))) := by
  have hQ := h.Q
  have hN := h.N hp
  have hT := h.T
  have hat := h.at hp hi
  have hF := h.F ha
  obtain ⟨⟨b, r⟩, er, r1, r2, r3⟩ := meas_s h ha
  obtain ⟨bb, x1, x2⟩ := hasBox_eq hQ hF.2.1 hp hN.2 (hF.2.2.2 p hp).2.2 (nI i)
  unfold fX7_rank
  rw [ag_s ha, ag_f ha, bnd1_of _ x1, if_pos (by rw [x2, nI_toInt (by omega)]; omega), bnd_of _ er]
  have e2 : gI r (fO β + 2) p = nI (psum (nO β) p) := (h.F r2).2.2.2 p hp |>.2.1
  have e6 : gI r (fO β) 6 = nI (psum (nO β) (qO β)) := (h.1.ag r2).2.2.2.2.2.2.2.2.2.2.2.2.2.2.2.2.2.2.2.2.1
  rw [ag_f r2]
  by_cases hm : Mkd β
  · rw [if_pos (r1.mpr hm), grd_eq _ (inb_nI (by omega) (by decide)), nI_clamp (by omega), e2, nI_add, bnd1_of _ (rankQ7 hT hat e6 (r3 hm).1)]
    exact ⟨_, rfl, r2, fun _ => rfl⟩
  · rw [if_neg (fun q => hm (r1.mp q))]
    exact ⟨_, rfl, r2, fun q => absurd q hm⟩
theorem steady_s (h : Sd β) (ha : Ag β σ) {p what t m : Nat} (hp : p < qO β) (hw : what ≤ 1) (ht : t ≤ 324) (hst : (stQ (fun i => dO β (psum (nO β) p + i)) (ppO β) (nO β p) (nO β p)).2 = nI t) (hm3 : gI β 32 3 = nI m) (hm2 : m ≤ 200) :
    WP (fX7_steady σ (nI p) (nI what)) (fun r => Ag β r.2 ∧ (Mkd β → r.1 = if what = 0 then nI (if t < m then (if 2 * t < m then 2 * t + 1 else t + 1) else 1) else nI (if t < m then (if 2 * t < m then 200 else min (2 * t) 200) else min t 200))) := by
  have hQ := h.Q
  obtain ⟨⟨b, r⟩, er, r1, r2, r3⟩ := read_s h ha
  unfold fX7_steady
  rw [ag_s ha, ag_f ha, if_pos (by rw [hasQ_eq hQ (h.F ha).2.1, nI_toInt (by omega)]; omega)]
  simp only [lt_i, le_i, Int32.reduceToInt, nI_toInt (show what < 2 ^ 31 by omega)]
  rw [if_neg (by omega), if_pos (by omega), bnd_of _ er]
  have e3 : gI r 32 3 = nI m := (r2.2 _ _ (by unfold Sk; omega)).trans hm3
  by_cases hm : Mkd β
  · rw [if_pos (r1.mpr hm)]
    obtain ⟨-, -, -, -, -, j5⟩ := ((r3 hm).2 p hp).1
    have e56 : gI r 56 p = nI t := j5.trans hst
    rcases (show what = 0 ∨ what = 1 by omega) with rfl | rfl
    · rw [if_pos (show nI 0 = (0 : Int32) from rfl), bnd1_of _ (least7 (by omega) e56 e3 ht hm2)]
      exact ⟨_, rfl, r2, fun _ => rfl⟩
    · rw [if_neg (by decide), bnd1_of _ (great7 (by omega) e56 e3 ht hm2)]
      exact ⟨_, rfl, r2, fun _ => rfl⟩
  · rw [if_neg (fun q => hm (r1.mp q))]
    exact ⟨_, rfl, r2, fun q => absurd q hm⟩
/-- the sums over the questions -/
def smQ (what : Nat) (se gn : Nat → Int32) (p : Nat) (n : Int32) : Int32 := if what = 0 then n + gn p else if se p = nI what then n + 1 else n
theorem sheet_s (h : Sd β) (ha : Ag β σ) {what : Nat} (hw : what ≤ 2) : WP (fX7_sheet σ (nI what)) (fun r => Ag β r.2 ∧ (¬ Mkd β → r.1 = (-1000000 : Int32)) ∧ (Mkd β → ∃ an se ru st gn : Nat → Int32, (∀ p, p < qO β → JV β p (an p) (se p) (ru p) (st p) (gn p)) ∧ r.1 = itr (smQ what se gn) 0 (qO β))) := by
  have hQ := h.Q
  have hf := h.f
  obtain ⟨⟨b, r⟩, er, r1, r2, r3⟩ := read_s h ha
  unfold fX7_sheet
  have e0 : gI σ (fO β) 0 = 1 := (ha.2 _ _ (by unfold Sk; omega)).trans h.2.2.2.1
  rw [ag_s ha, ag_f ha, e0, if_neg (by decide)]
  simp only [lt_i, le_i, Int32.reduceToInt, nI_toInt (show what < 2 ^ 31 by omega)]
  rw [if_neg (by omega), if_pos (by omega), bnd_of _ er]
  rw [ag_f r2]
  have e5 : gI r (fO β) 5 = nI (qO β) := (h.F r2).2.1
  by_cases hm : Mkd β
  · rw [if_pos (r1.mpr hm)]
    refine ⟨(itr (shW r what) 0 (qO β), r), ?_, r2, fun q => absurd hm q, fun _ => ⟨gI r 53, gI r 54, gI r 55, gI r 56, gI r 57, (r3 hm).2, ?_⟩⟩
    · rcases (show what = 0 ∨ what = 1 ∨ what = 2 by omega) with rfl | rfl | rfl
      · rw [if_pos (show nI 0 = (0 : Int32) from rfl), bnd1_of _ (gains7 hQ e5)]
      · rw [if_neg (by decide), if_pos (show nI 1 = (1 : Int32) from rfl), bnd1_of _ (show fX3_inState r (fO β) (1 : Int32) = _ from state7 (k := 1) (Or.inl rfl) hQ e5)]
      · rw [if_neg (by decide), if_neg (by decide), if_pos (show nI 2 = (2 : Int32) from rfl), bnd1_of _ (show fX3_inState r (fO β) (2 : Int32) = _ from state7 (k := 2) (Or.inr rfl) hQ e5)]
    · refine itr_eq 0 _ fun i hi n => ?_
      unfold shW smQ
      rcases (show what = 0 ∨ what = 1 ∨ what = 2 by omega) with rfl | rfl | rfl
      · rfl
      · rfl
      · rfl
  · rw [if_neg (fun q => hm (r1.mp q))]
    exact ⟨_, rfl, r2, fun _ => rfl, fun q => absurd q hm⟩
theorem unlike_s (h : Sd β) (ha : Ag β σ) : WP (fX7_unlike σ) (fun r => Ag β r.2 ∧ (Mkd β → ∃ an se ru st gn : Nat → Int32, (∀ p, p < qO β → JV β p (an p) (se p) (ru p) (st p) (gn p)) ∧ r.1 = itr (fun p n => if an p = gI β 30 p then n else n + 1) 0 (qO β))) := by
  have hQ := h.Q
  have hf := h.f
  obtain ⟨⟨b, r⟩, er, r1, r2, r3⟩ := read_s h ha
  unfold fX7_unlike
  have e0 : gI σ (fO β) 0 = 1 := (ha.2 _ _ (by unfold Sk; omega)).trans h.2.2.2.1
  rw [ag_s ha, ag_f ha, e0, if_neg (by decide), bnd_of _ er]
  have e5 : gI r (fO β) 5 = nI (qO β) := (h.F r2).2.1
  have e30 : gI r 30 = gI β 30 := funext fun k => r2.2 _ _ (by unfold Sk; omega)
  by_cases hm : Mkd β
  · rw [if_pos (r1.mpr hm)]
    refine ⟨(itr (fun p n => if gI r 53 p = gI β 30 p then n else n + 1) 0 (qO β), r), ?_, r2, fun _ => ⟨gI r 53, gI r 54, gI r 55, gI r 56, gI r 57, (r3 hm).2, rfl⟩⟩
    unfold X7_unlike_L37
    refine lp_2 (fun i => itr (fun p n => if gI r 53 p = gI β 30 p then n else n + 1) 0 i) (fun i => nI i) (qO β) _ (fun i hi rec => ?_) (fun rec => ?_) fuel (fuel_gt (by omega))
    · rw [ag_f r2, e5, if_neg (nI_ge hi (by omega)), grd_eq _ (inb_nI (by omega) (by decide)), nI_clamp (by omega), e30, nI_1]
      show _ = rec (if gI r 53 i = gI β 30 i then _ else _) _
      by_cases c : gI r 53 i = gI β 30 i
      · rw [if_pos c, if_pos c]
      · rw [if_neg c, if_neg c]
    · rw [ag_f r2, e5, if_pos (nI_le (Nat.le_refl _) (by omega))]
  · rw [if_neg (fun q => hm (r1.mp q))]
    exact ⟨_, rfl, r2, fun q => absurd q hm⟩
/-- the middles of the marks, by the pictures -/
noncomputable def mxO (β : SS) : Nat → Nat := mX (wO β) (hO β) (kO β) (gI β 32 2) (iO β)
noncomputable def myO (β : SS) : Nat → Nat := mY (wO β) (hO β) (kO β) (gI β 32 2) (iO β)
noncomputable def msO (β : SS) : Nat → Nat := mS (wO β) (hO β) (kO β) (gI β 32 2) (iO β)
end CALLS
