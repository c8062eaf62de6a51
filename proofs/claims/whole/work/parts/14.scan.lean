/-! The scan: places, blank, dot. -/
/-- a place of a scan: inside just when both numbers are -/
theorem has_eq {σ : SS} {s w h : Nat} (hw : gI σ s 0 = nI w) (hh : gI σ s 1 = nI h) (hw2 : w ≤ 40) (hh2 : h ≤ 40) (x y : Int32) : (fX6_has σ s x y = true) = ((0 ≤ x.toInt ∧ x.toInt < w) ∧ 0 ≤ y.toInt ∧ y.toInt < h) := by
  unfold fX6_has
  rw [hw, hh]
  simp only [vthen_eq, lt_i, le_i, nI_toInt (show w < 2 ^ 31 by omega), nI_toInt (show h < 2 ^ 31 by omega), Int32.reduceToInt]
  by_cases c1 : x.toInt < 0
  · rw [if_pos c1]; simp; omega
  rw [if_neg c1]
  by_cases c2 : (w : Int) ≤ x.toInt
  · rw [if_pos c2]; simp; omega
  rw [if_neg c2]
  by_cases c3 : y.toInt < 0
  · rw [if_pos c3]; simp; omega
  rw [if_neg c3]
  by_cases c4 : (h : Int) ≤ y.toInt
  · rw [if_pos c4]; simp; omega
  rw [if_neg c4]; simp; omega
theorem sub1 {w : Nat} (h1 : 1 ≤ w) (h2 : w ≤ 1000000) : (nI w - 1).toInt = (w : Int) - 1 := by
  have e : nI w - 1 = nI (w - 1) := nI_sub (a := w) (b := 1) h1
  rw [e, nI_toInt (by omega)]; omega
theorem isDot_eq {σ : SS} {w h : Nat} (hw : gI σ 73 29 = nI w) (hh : gI σ 73 30 = nI h) (hw1 : 1 ≤ w) (hh1 : 1 ≤ h) (hw2 : w ≤ 40) (hh2 : h ≤ 40) (x y : Int32) : (fX8_isDot σ x y = true) = ((0 ≤ x.toInt ∧ x.toInt < w) ∧ 0 ≤ y.toInt ∧ y.toInt < h) := by
  unfold fX8_isDot
  simp only [vthen_eq, in_eq]
  rw [hw, hh]
  simp only [le_i, sub1 hw1 (by omega), sub1 hh1 (by omega), Int32.reduceToInt]
  by_cases c1 : 0 ≤ x.toInt ∧ x.toInt ≤ (w : Int) - 1
  · rw [if_pos c1]
    by_cases c2 : 0 ≤ y.toInt ∧ y.toInt ≤ (h : Int) - 1
    · rw [if_pos c2]; simp; omega
    · rw [if_neg c2]; simp; omega
  · rw [if_neg c1]; simp; omega
theorem in_of {x : Int32} {w : Nat} (hw : w ≤ 1000000) (h : 0 ≤ x.toInt ∧ x.toInt < w) : ∃ X : Nat, X < w ∧ x = nI X :=
  of_range (by omega) (by rw [le_i]; exact h.1) (by rw [lt_i, nI_toInt (by omega)]; exact h.2)
theorem cell_lt {X Y w h : Nat} (hx : X < w) (hy : Y < h) : Y * w + X < w * h := by
  have h1 : Y * w + X < Y * w + w := by omega
  have h2 : (Y + 1) * w ≤ h * w := Nat.mul_le_mul_right w hy
  rw [Nat.add_mul, Nat.one_mul] at h2
  rw [Nat.mul_comm w h]; omega
theorem area_le {w h : Nat} (hw : w ≤ 40) (hh : h ≤ 40) : w * h ≤ 1600 := Nat.mul_le_mul hw hh
theorem ix_c (X Y w : Nat) : nI Y * nI w + nI X = nI (Y * w + X) := by rw [nI_mul, nI_add]
theorem ix_m (X Y w : Nat) : nI w * nI Y + nI X = nI (Y * w + X) := by rw [nI_mul, nI_add, Nat.mul_comm]
theorem op8 : ∀ a σ, Rel σ → st8 Rel a σ := by
  intro a σ ⟨s, f, h⟩
  obtain ⟨hs, hf, hR1, -⟩ := id h.1
  obtain ⟨w, q, hw, hq, e1, e2, e3, e4, hd⟩ := h.2.2.1
  have c7 := has_eq (σ := σ) e1 e2 (by omega) (by omega) (a 1) (a 2)
  have c8 := isDot_eq (σ := σ) e3 e4 (by omega) (by omega) (by omega) (by omega) (a 1) (a 2)
  by_cases hc : (0 ≤ (a 1).toInt ∧ (a 1).toInt < w) ∧ 0 ≤ (a 2).toInt ∧ (a 2).toInt < q
  · obtain ⟨X, hX, eX⟩ := in_of (by omega) hc.1
    obtain ⟨Y, hY, eY⟩ := in_of (by omega) hc.2
    have hk := cell_lt hX hY
    have ha := area_le (w := w) (h := q) (by omega) (by omega)
    refine ⟨gI σ (s + 1) (Y * w + X), ?_, ?_, s, f, h⟩
    · unfold fX7_dot fX6_at
      rw [hR1, if_pos (by rw [c7]; exact hc), if_pos (by rw [c7]; exact hc), e1, eX, eY, ix_c, grd_eq _ (inb_nI (by omega) (by omega)), nI_clamp (by omega)]
      rfl
    · unfold fX8_dot
      rw [if_pos (by rw [c8]; exact hc), e3, eX, eY, ix_m, grd_eq _ (inb_nI (by omega) (by omega)), nI_clamp (by omega), (hd _ hk).1]
  · refine ⟨-1, ?_, ?_, s, f, h⟩
    · unfold fX7_dot
      rw [hR1, if_neg (by rw [c7]; exact hc)]
    · unfold fX8_dot
      rw [if_neg (by rw [c8]; exact hc)]
theorem clears_eq (σ : SS) : fX8_clears σ = some (flI σ 83 1600 0) := by
  unfold fX8_clears X8_clears_L2
  refine lp_2 (fun i => nI i) (fun i => flI σ 83 i 0) 1600 _ (fun i hi rec => ?_) (fun rec => ?_) fuel (fuel_gt (by decide)) |> Eq.trans (by rw [flI_0]; rfl)
  · rw [if_neg (by show ¬ nI 1600 ≤ nI i; exact nI_ge hi (by decide)), grd_eq _ (inb_nI (by omega) (by decide)), vthen_eq, nI_clamp (by omega), flI_s, nI_1]
  · rw [if_pos (by show nI 1600 ≤ nI 1600; exact nI_le (Nat.le_refl _) (by decide))]
theorem op5 : ∀ a σ, Rel σ → st5 Rel a σ := by
  intro a σ ⟨s, f, h⟩
  obtain ⟨hs, hf, hR1, -⟩ := id h.1
  by_cases hc : (8 ≤ (a 1).toInt ∧ (a 1).toInt ≤ 40) ∧ 8 ≤ (a 2).toInt ∧ (a 2).toInt ≤ 40
  · obtain ⟨w, hw, ew⟩ := in_of (x := a 1) (w := 41) (by decide) (by omega)
    obtain ⟨q, hq, eq⟩ := in_of (x := a 2) (w := 41) (by decide) (by omega)
    have tw : (a 1).toInt = w := by rw [ew, nI_toInt (by omega)]
    have tq : (a 2).toInt = q := by rw [eq, nI_toInt (by omega)]
    refine ⟨true, flI (sI (sI σ s 0 (a 1)) s 1 (a 2)) (s + 1) 1600 0, flI (sI (sI (flI (sI (sI σ s 0 (a 1)) s 1 (a 2)) (s + 1) 1600 0) 73 29 (a 1)) 73 30 (a 2)) 83 1600 0, ?_, ?_, s, f, ?_⟩
    · unfold fX7_blank fX6_empty
      simp only [lt_i, le_i, Int32.reduceToInt]
      rw [if_neg (by omega), if_neg (by omega), if_neg (by omega), if_pos (by omega), hR1]
      rfl
    · unfold fX8_blank
      simp only [in_eq, le_i, Int32.reduceToInt]
      rw [if_pos (by omega), if_pos (by omega)]
      simp only [vthen_eq, clears_eq]
      rfl
    · refine h.of rfl ?h1 ?h2 ?h3 ?h4 ?h5 ?h6 ?h7 ?h8 ?h9
      case h2 =>
        refine Or.inl ⟨w, q, by omega, by omega, ?_, ?_, ?_, ?_, fun k hk => ?_⟩
        · rw [gI_fl_ne (by omega), gI_ne (by omega), gI_ne (by omega), gI_fl_ne (by omega), gI_nk (by omega), gI_eq, ew]
        · rw [gI_fl_ne (by omega), gI_ne (by omega), gI_ne (by omega), gI_fl_ne (by omega), gI_eq, eq]
        · rw [gI_fl_ne (by omega), gI_nk (by omega), gI_eq, ew]
        · rw [gI_fl_ne (by omega), gI_eq, eq]
        · have ha := area_le (w := w) (h := q) (by omega) (by omega)
          rw [gI_fl (by omega), gI_fl_ne (by omega), gI_ne (by omega), gI_ne (by omega), gI_fl (by omega)]
          exact ⟨rfl, by decide⟩
      all_goals exact Or.inr fun c k hp => by rw [gI_fl_ne (by omega), gI_nk (by omega), gI_nk (by omega), gI_fl_ne (by omega), gI_nk (by omega), gI_nk (by omega)]
  · refine ⟨false, σ, σ, ?_, ?_, s, f, h⟩
    · unfold fX7_blank
      simp only [lt_i, le_i, Int32.reduceToInt]
      repeat' split
      all_goals first | omega | rfl
    · unfold fX8_blank
      simp only [in_eq, le_i, Int32.reduceToInt]
      repeat' split
      all_goals first | omega | rfl
