/-! Shift, copy. -/
theorem ti_bm {z : Int} (h1 : -2147483648 ≤ z) (h2 : z < 2147483648) : z.bmod (2 ^ 32) = z := Int.bmod_eq_of_le (by omega) (by omega)
theorem ti_sub {x y : Int32} (h1 : -2147483648 ≤ x.toInt - y.toInt) (h2 : x.toInt - y.toInt < 2147483648) : (x - y).toInt = x.toInt - y.toInt := by rw [Int32.toInt_sub, ti_bm h1 h2]
theorem ti_add {x y : Int32} (h1 : -2147483648 ≤ x.toInt + y.toInt) (h2 : x.toInt + y.toInt < 2147483648) : (x + y).toInt = x.toInt + y.toInt := by rw [Int32.toInt_add, ti_bm h1 h2]
theorem ti_mul {x y : Int32} (h1 : -2147483648 ≤ x.toInt * y.toInt) (h2 : x.toInt * y.toInt < 2147483648) : (x * y).toInt = x.toInt * y.toInt := by rw [Int32.toInt_mul, ti_bm h1 h2]
def shF (src : Nat → Int32) (w q : Nat) (u v : Int) (x y : Nat) : Int32 := if (0 ≤ (x : Int) - u ∧ (x : Int) - u < w) ∧ 0 ≤ (y : Int) - v ∧ (y : Int) - v < q then src (((y : Int) - v).toNat * w + ((x : Int) - u).toNat) else 0
section SHIFT
variable {σ : SS} {s t w q : Nat} {u v : Int32}
theorem shift7 (hst : s = 3 ∧ t = 6 ∨ s = 6 ∧ t = 3) (hw : w ≤ 40) (hq : q ≤ 40) (e1 : gI σ s 0 = nI w) (e2 : gI σ s 1 = nI q) (hu : -40 ≤ u.toInt ∧ u.toInt ≤ 40) (hv : -40 ≤ v.toInt ∧ v.toInt ≤ 40) : WP (fX6_takeShifted σ t s u v) (Spare s t w q (shF (gI σ (s + 1)) w q u.toInt v.toInt) σ) := by
  unfold fX6_takeShifted
  simp only [vthen_eq]
  rw [gI_ne (c' := s) (by omega), e1, e2]
  generalize hσ : sI (sI σ t 0 (nI w)) t 1 (nI q) = σ0
  have f0 : gI σ0 t 0 = nI w := by rw [← hσ, gI_nk (by omega), gI_eq]
  have f1 : gI σ0 t 1 = nI q := by rw [← hσ, gI_eq]
  have fk : ∀ c, c ≠ t → gI σ0 c = gI σ c := fun c hc => by rw [← hσ, gI_ne hc, gI_ne hc]
  have fR : gR σ0 = gR σ := by rw [← hσ]; rfl
  suffices hh : WP (X6_takeShifted_L19 t s u v fuel (0 : Int32) (sA σ0 (t + 1) (gI σ0 (t + 1)))) (fun r => ∃ d, r = sA σ0 (t + 1) d ∧ Vis d w q (shF (gI σ (s + 1)) w q u.toInt v.toInt) fun _ _ => True) by
    rw [sA_self] at hh
    refine wp_imp hh ?_
    rintro _ ⟨d, rfl, hd⟩
    refine ⟨fR, ?_, ?_, ?_, fun c k h1 h2 h3 => ?_⟩
    · rw [gI_A_ne (by omega)]; exact f0
    · rw [gI_A_ne (by omega)]; exact f1
    · rw [gI_A]; exact hd
    · rw [gI_A_ne h2, fk c h1]
  unfold X6_takeShifted_L19
  refine wf_2 q (fun j vv s' => vv = nI j ∧ ∃ d, s' = sA σ0 (t + 1) d ∧ Vis d w q (shF (gI σ (s + 1)) w q u.toInt v.toInt) fun x y => y < j) ⟨rfl, _, rfl, fun x y _ _ h => absurd h (by omega)⟩ (by omega) ?_ ?_
  · rintro j _ _ rec hj ⟨rfl, d, rfl, hd⟩ hr
    rw [gI_A_ne (c' := t) (by omega), f1, if_neg (nI_ge hj (by omega))]
    unfold X6_takeShifted_L31
    refine wf_2 w (fun i x s' => x = nI i ∧ ∃ d, s' = sA σ0 (t + 1) d ∧ Vis d w q (shF (gI σ (s + 1)) w q u.toInt v.toInt) fun x y => y < j ∨ y = j ∧ x < i) ⟨rfl, d, rfl, hd.imp fun x y _ _ h => by omega⟩ (by omega) ?_ ?_
    · rintro i _ _ rec2 hi ⟨rfl, d2, rfl, hd2⟩ hr2
      rw [gI_A_ne (c' := t) (by omega), f0, if_neg (nI_ge hi (by omega)), at_eq (σ := sA σ0 (t + 1) d2) (w := w) (h := q) (by rw [gI_A_ne (by omega), fk s (by omega)]; exact e1) (by rw [gI_A_ne (by omega), fk s (by omega)]; exact e2) hw hq]
      have t1 : (nI i - u).toInt = (i : Int) - u.toInt := by rw [ti_sub] <;> rw [nI_toInt (by omega)] <;> omega
      have t2 : (nI j - v).toInt = (j : Int) - v.toInt := by rw [ti_sub] <;> rw [nI_toInt (by omega)] <;> omega
      rw [t1, t2, bnd1_some, gI_A_ne (c' := s + 1) (by omega), fk (s + 1) (by omega)]
      obtain ⟨b, z, -⟩ := put_in (σ := sA σ0 (t + 1) d2) (s := t) (w := w) (h := q) (X := i) (Y := j) (by rw [gI_A_ne (by omega)]; exact f0) (by rw [gI_A_ne (by omega)]; exact f1) hw hq hi hj (shF (gI σ (s + 1)) w q u.toInt v.toInt i j)
      refine (congrArg (fun X => WP X _) (bnd_of _ z)).mpr ?_
      rw [sI_A, nI_1]
      exact hr2 _ _ ⟨rfl, _, rfl, hd2.put hi (fun x y _ _ h => by omega) rfl⟩
    · rintro _ _ rec2 ⟨rfl, d2, rfl, hd2⟩
      rw [gI_A_ne (c' := t) (by omega), f0, if_pos (nI_le (Nat.le_refl _) (by omega)), nI_1]
      exact hr _ _ ⟨rfl, _, rfl, hd2.imp fun x y _ _ h => by omega⟩
  · rintro _ _ rec ⟨rfl, d, rfl, hd⟩
    rw [gI_A_ne (c' := t) (by omega), f1, if_pos (nI_le (Nat.le_refl _) (by omega))]
    exact wp_some ⟨d, rfl, hd.imp fun x y _ h _ => h⟩
theorem shift8 (hw : 1 ≤ w ∧ w ≤ 40) (hq : 1 ≤ q ∧ q ≤ 40) (e3 : gI σ 73 29 = nI w) (e4 : gI σ 73 30 = nI q) (hu : -40 ≤ u.toInt ∧ u.toInt ≤ 40) (hv : -40 ≤ v.toInt ∧ v.toInt ≤ 40) : WP (fX8_shift σ u v) (fun r => Dots w q (shF (gI σ 83) w q u.toInt v.toInt) σ r.2 ∧ fX8_others r.2 = some r.1) := by
  obtain ⟨d0, h0, hd0⟩ := puts_eq (σ := σ)
  unfold fX8_shift
  simp only [in_eq, le_i, Int32.reduceToInt]
  rw [if_pos (by exact hu), if_pos (by exact hv), bnd1_of _ h0]
  have ha := area_le hw.2 hq.2
  have c3 : ∀ d, gI (sA (sA σ 84 d0) 83 d) 73 29 = nI w := fun d => by rw [gI_A_ne (by omega), gI_A_ne (by omega)]; exact e3
  have c4 : ∀ d, gI (sA (sA σ 84 d0) 83 d) 73 30 = nI q := fun d => by rw [gI_A_ne (by omega), gI_A_ne (by omega)]; exact e4
  suffices hh : WP (X8_shift_L30 u v fuel (0 : Int32) (sA (sA σ 84 d0) 83 (gI (sA σ 84 d0) 83))) (fun r => (∃ d, r.2 = sA (sA σ 84 d0) 83 d ∧ Vis d w q (shF (gI σ 83) w q u.toInt v.toInt) fun _ _ => True) ∧ fX8_others r.2 = some r.1) by
    rw [sA_self] at hh
    refine wp_imp hh ?_
    rintro ⟨r1, r2⟩ ⟨⟨d, h1, hd⟩, ho⟩
    refine ⟨?_, ho⟩
    dsimp only at h1 ⊢
    subst h1
    refine ⟨rfl, ?_, fun k hk => ?_, fun c k k1 k2 k3 => ?_⟩
    · rw [gI_A]; exact hd
    · rw [gI_A_ne (by omega), gI_A]; exact hd0 k hk
    · rw [gI_A_ne k1, gI_A_ne k2]
  unfold X8_shift_L30
  refine wf_2 q (fun j vv s' => vv = nI j ∧ ∃ d, s' = sA (sA σ 84 d0) 83 d ∧ Vis d w q (shF (gI σ 83) w q u.toInt v.toInt) fun x y => y < j) ⟨rfl, _, rfl, fun x y _ _ h => absurd h (by omega)⟩ (by omega) ?_ ?_
  · rintro j _ _ rec hj ⟨rfl, d, rfl, hd⟩ hr
    rw [c4, if_neg (nI_ge hj (by omega))]
    unfold X8_shift_L41
    refine wf_2 w (fun i x s' => x = nI i ∧ ∃ d, s' = sA (sA σ 84 d0) 83 d ∧ Vis d w q (shF (gI σ 83) w q u.toInt v.toInt) fun x y => y < j ∨ y = j ∧ x < i) ⟨rfl, d, rfl, hd.imp fun x y _ _ h => by omega⟩ (by omega) ?_ ?_
    · rintro i _ _ rec2 hi ⟨rfl, d2, rfl, hd2⟩ hr2
      have hk := cell_lt hi hj
      have t1 : (nI i - u).toInt = (i : Int) - u.toInt := by rw [ti_sub] <;> rw [nI_toInt (by omega)] <;> omega
      have t2 : (nI j - v).toInt = (j : Int) - v.toInt := by rw [ti_sub] <;> rw [nI_toInt (by omega)] <;> omega
      have c := isDot_eq (σ := sA (sA σ 84 d0) 83 d2) (c3 d2) (c4 d2) hw.1 hq.1 hw.2 hq.2 (nI i - u) (nI j - v)
      rw [t1, t2] at c
      rw [c3, if_neg (nI_ge hi (by omega))]
      simp only [vthen_eq]
      have put : ∀ x, x = shF (gI σ 83) w q u.toInt v.toInt i j → WP (grd (inb (nI w * nI j + nI i) 1600) (rec2 (nI i + 1) (sI (sA (sA σ 84 d0) 83 d2) 83 (nI w * nI j + nI i).toNatClampNeg x))) (fun r => (∃ d, r.2 = sA (sA σ 84 d0) 83 d ∧ Vis d w q (shF (gI σ 83) w q u.toInt v.toInt) fun _ _ => True) ∧ fX8_others r.2 = some r.1) := fun x hx => by
        rw [ix_m, grd_eq _ (inb_nI (by omega) (by omega)), nI_clamp (by omega), sI_A, nI_1]
        exact hr2 _ _ ⟨rfl, _, rfl, hd2.put hi (fun x y _ _ h => by omega) hx⟩
      by_cases hc : (0 ≤ (i : Int) - u.toInt ∧ (i : Int) - u.toInt < w) ∧ 0 ≤ (j : Int) - v.toInt ∧ (j : Int) - v.toInt < q
      · rw [if_pos (by rw [c]; exact hc)]
        obtain ⟨X, hX, eX⟩ := in_of (x := nI i - u) (w := w) (by omega) (by rw [t1]; exact hc.1)
        obtain ⟨Y, hY, eY⟩ := in_of (x := nI j - v) (w := q) (by omega) (by rw [t2]; exact hc.2)
        have hk2 := cell_lt hX hY
        have sX : ((i : Int) - u.toInt).toNat = X := by rw [← t1, eX, nI_toInt (by omega)]; omega
        have sY : ((j : Int) - v.toInt).toNat = Y := by rw [← t2, eY, nI_toInt (by omega)]; omega
        have ei : nI w * (nI j - v) + nI i - u = nI (Y * w + X) := by rw [Int32.sub_eq_add_neg (nI w * (nI j - v) + nI i) u, Int32.add_assoc, ← Int32.sub_eq_add_neg, eX, eY, ix_m]
        rw [ei, grd_eq _ (inb_nI (by omega) (by omega)), nI_clamp (by omega), gI_A_ne (c' := 84) (by omega), gI_A]
        refine put _ ?_
        unfold shF
        rw [if_pos hc, sX, sY]; exact hd0 _ (by omega)
      · rw [if_neg (by rw [c]; exact hc)]
        refine put _ ?_
        unfold shF
        rw [if_neg hc]
    · rintro _ _ rec2 ⟨rfl, d2, rfl, hd2⟩
      rw [c3, if_pos (nI_le (Nat.le_refl _) (by omega)), nI_1]
      exact hr _ _ ⟨rfl, _, rfl, hd2.imp fun x y _ _ h => by omega⟩
  · rintro _ _ rec ⟨rfl, d, rfl, hd⟩
    rw [c4, if_pos (nI_le (Nat.le_refl _) (by omega))]
    have o := others_eq (σ := sA (sA σ 84 d0) 83 d) hw.2 hq.2 (c3 d) (c4 d)
    rw [bnd1_of _ o]
    exact wp_some ⟨⟨d, rfl, hd.imp fun x y _ h _ => h⟩, o⟩
end SHIFT
theorem st_of {s f : Nat} {σ : SS} (h : RRef s f σ) : ∃ t, (s = 3 ∧ t = 6 ∨ s = 6 ∧ t = 3) ∧ gR σ 1 3 = t := by
  rcases h.1 with h1 | h1
  · exact ⟨6, Or.inl ⟨h1, rfl⟩, by have := h.2.2.2.1; omega⟩
  · exact ⟨3, Or.inr ⟨h1, rfl⟩, by have := h.2.2.2.1; omega⟩
theorem shF_congr {src src' : Nat → Int32} {w q : Nat} {u v : Int} (h : ∀ k, k < w * q → src k = src' k) (x y : Nat) : shF src w q u v x y = shF src' w q u v x y := by
  unfold shF
  by_cases c : (0 ≤ (x : Int) - u ∧ (x : Int) - u < w) ∧ 0 ≤ (y : Int) - v ∧ (y : Int) - v < q
  · rw [if_pos c, if_pos c]; exact h _ (cell_lt (by omega) (by omega))
  · rw [if_neg c, if_neg c]
theorem Spare.congr {s t w q : Nat} {F F' : Nat → Nat → Int32} {σ σ1 : SS} (h : Spare s t w q F σ σ1) (hF : ∀ x y, x < w → y < q → F x y = F' x y) : Spare s t w q F' σ σ1 := ⟨h.1, h.2.1, h.2.2.1, fun x y hx hy hv => (h.2.2.2.1 x y hx hy hv).trans (hF x y hx hy), h.2.2.2.2⟩
theorem Dots.congr {w q : Nat} {F F' : Nat → Nat → Int32} {σ σ1 : SS} (h : Dots w q F σ σ1) (hF : ∀ x y, x < w → y < q → F x y = F' x y) : Dots w q F' σ σ1 := ⟨h.1, fun x y hx hy hv => (h.2.1 x y hx hy hv).trans (hF x y hx hy), h.2.2⟩
theorem op13 : ∀ a σ, Rel σ → st13 Rel a σ := by
  intro a σ ⟨s, f, h⟩
  obtain ⟨t, hst, r3⟩ := st_of h.1
  obtain ⟨hs, hf, hR1, -⟩ := id h.1
  obtain ⟨w, q, hw, hq, e1, e2, e3, e4, hd⟩ := h.2.2.1
  by_cases hc : (-40 ≤ (a 1).toInt ∧ (a 1).toInt ≤ 40) ∧ -40 ≤ (a 2).toInt ∧ (a 2).toInt ≤ 40
  · obtain ⟨σ1, x1, hS⟩ := shift7 (σ := σ) (s := s) (t := t) (w := w) (q := q) hst hw.2 hq.2 e1 e2 hc.1 hc.2
    have k83 : gI (swp s t σ1) 83 = gI σ 83 := funext fun k => by rw [swp_I, hS.2.2.2.2 83 k (by omega) (by omega) (by omega)]
    obtain ⟨⟨v, σ2⟩, x2, hD, ho⟩ := shift8 (σ := swp s t σ1) (w := w) (q := q) (u := a 1) (v := a 2) ⟨by omega, hw.2⟩ ⟨by omega, hq.2⟩ (by rw [swp_I, hS.2.2.2.2 73 29 (by omega) (by omega) (by omega)]; exact e3) (by rw [swp_I, hS.2.2.2.2 73 30 (by omega) (by omega) (by omega)]; exact e4) hc.1 hc.2
    rw [k83] at hD
    have hF : ∀ x y, x < w → y < q → inR (shF (gI σ 83) w q (a 1).toInt (a 2).toInt x y) 0 9 := fun x y _ _ => by
      unfold shF
      by_cases c : (0 ≤ (x : Int) - (a 1).toInt ∧ (x : Int) - (a 1).toInt < w) ∧ 0 ≤ (y : Int) - (a 2).toInt ∧ (y : Int) - (a 2).toInt < q
      · rw [if_pos c]; exact (hd _ (cell_lt (by omega) (by omega))).2
      · rw [if_neg c]; exact ⟨by decide, by decide⟩
    obtain ⟨y1, y2⟩ := spare_fin hst h hw hq e1 e2 e3 e4 hd hF (hS.congr fun x y _ _ => shF_congr (fun k hk => (hd k hk).1) x y) hD ho
    refine ⟨v, swp s t σ1, σ2, ?_, x2, t, f, y2⟩
    unfold fX7_shift
    simp only [lt_i, le_i, Int32.reduceToInt]
    rw [if_neg (by omega), if_neg (by omega), if_neg (by omega), if_pos (by omega), r3, hR1, bnd1_of _ x1, bnd_of _ y1]
  · refine ⟨-1, σ, σ, ?_, ?_, s, f, h⟩
    · unfold fX7_shift
      simp only [lt_i, le_i, Int32.reduceToInt]
      repeat' split
      all_goals first | omega | rfl
    · unfold fX8_shift
      simp only [in_eq, lt_i, le_i, Int32.reduceToInt]
      repeat' split
      all_goals first | omega | rfl
