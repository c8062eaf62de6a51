/-! Copy. -/
theorem ite_iff {α : Type} {c c' : Prop} [Decidable c] [Decidable c'] {x y : α} (h : c ↔ c') : (if c then x else y) = if c' then x else y := by
  by_cases hc : c
  · rw [if_pos hc, if_pos (h.mp hc)]
  · rw [if_neg hc, if_neg fun q => hc (h.mpr q)]
theorem Vis.chg {d : Nat → Int32} {w q X Y : Nat} {G G' : Nat → Nat → Int32} {v : Int32} (h : Vis d w q G fun _ _ => True) (hX : X < w) (hg : ∀ x y, x < w → y < q → ¬ (x = X ∧ y = Y) → G' x y = G x y) (hv : v = G' X Y) : Vis (upd d (Y * w + X) v) w q G' fun _ _ => True := by
  intro x y hx hy _
  show (if y * w + x = Y * w + X then v else d (y * w + x)) = G' x y
  by_cases e : y * w + x = Y * w + X
  · obtain ⟨rfl, rfl⟩ := ix_inj hx hX e
    rw [if_pos rfl]; exact hv
  · rw [if_neg e, hg x y hx hy fun c => e (by rw [c.1, c.2])]
    exact h x y hx hy trivial
theorem Vis.fn {d : Nat → Int32} {w q : Nat} {G G' : Nat → Nat → Int32} (h : Vis d w q G fun _ _ => True) (hg : ∀ x y, x < w → y < q → G' x y = G x y) : Vis d w q G' fun _ _ => True := fun x y hx hy _ => (h x y hx hy trivial).trans (hg x y hx hy).symm
/-- what a copy makes of a picture, as far as it has come (rows below j, in row j below i) -/
def cpF (src : Nat → Int32) (w q x0 y0 W0 H0 u v i j x y : Nat) : Int32 := if (u ≤ x ∧ v ≤ y ∧ (y < v + j ∨ y = v + j ∧ x < u + i)) ∧ x < u + W0 ∧ y < v + H0 ∧ x + x0 < w + u ∧ y + y0 < q + v then src ((y + y0 - v) * w + (x + x0 - u)) else src (y * w + x)
theorem cpF_if {src : Nat → Int32} {w q x0 y0 W0 H0 u v i j i' j' x y : Nat} (h : ((u ≤ x ∧ v ≤ y ∧ (y < v + j ∨ y = v + j ∧ x < u + i)) ∧ x < u + W0 ∧ y < v + H0 ∧ x + x0 < w + u ∧ y + y0 < q + v) ↔ ((u ≤ x ∧ v ≤ y ∧ (y < v + j' ∨ y = v + j' ∧ x < u + i')) ∧ x < u + W0 ∧ y < v + H0 ∧ x + x0 < w + u ∧ y + y0 < q + v)) : cpF src w q x0 y0 W0 H0 u v i j x y = cpF src w q x0 y0 W0 H0 u v i' j' x y := ite_iff h
theorem cpF_congr {src src' : Nat → Int32} {w q x0 y0 W0 H0 u v i j x y : Nat} (hx : x < w) (hy : y < q) (h : ∀ k, k < w * q → src k = src' k) : cpF src w q x0 y0 W0 H0 u v i j x y = cpF src' w q x0 y0 W0 H0 u v i j x y := by
  unfold cpF
  by_cases c : (u ≤ x ∧ v ≤ y ∧ (y < v + j ∨ y = v + j ∧ x < u + i)) ∧ x < u + W0 ∧ y < v + H0 ∧ x + x0 < w + u ∧ y + y0 < q + v
  · rw [if_pos c, if_pos c]; exact h _ (cell_lt (by omega) (by omega))
  · rw [if_neg c, if_neg c]; exact h _ (cell_lt hx hy)
theorem takeSpare_ok {σ σ1 : SS} {s t w q : Nat} {F : Nat → Nat → Int32} (hst : s = 3 ∧ t = 6 ∨ s = 6 ∧ t = 3) (hw : w ≤ 40) (hq : q ≤ 40) (e1 : gI σ s 0 = nI w) (e2 : gI σ s 1 = nI q) (h2 : gR σ 1 2 = s) (h3 : gR σ 1 3 = t) (hS : Spare s t w q F σ σ1) : ∃ v, fX7_takeSpare σ1 = some (v, swp s t σ1) := by
  have r2 : gR σ1 1 2 = s := by rw [hS.1]; exact h2
  have r3 : gR σ1 1 3 = t := by rw [hS.1]; exact h3
  unfold fX7_takeSpare
  rw [r2, r3, bnd1_of _ (unlike_eq hw hq (by rw [hS.2.2.2.2 _ _ (by omega) (by omega) (by omega)]; exact e1) (by rw [hS.2.2.2.2 _ _ (by omega) (by omega) (by omega)]; exact e2)), bnd1_of _ (swap_eq r2 r3)]
  exact ⟨_, rfl⟩
theorem isPiece_eq (σ : SS) (x y : Int32) : (fX7_isPiece σ x y = true) = ((1 ≤ x.toInt ∧ x.toInt ≤ 40) ∧ 1 ≤ y.toInt ∧ y.toInt ≤ 40) := by
  unfold fX7_isPiece
  simp only [vthen_eq, lt_i, Int32.reduceToInt]
  by_cases c1 : x.toInt < 1
  · rw [if_pos c1]; simp; omega
  rw [if_neg c1]
  by_cases c2 : 40 < x.toInt
  · rw [if_pos c2]; simp; omega
  rw [if_neg c2]
  by_cases c3 : y.toInt < 1
  · rw [if_pos c3]; simp; omega
  rw [if_neg c3]
  by_cases c4 : 40 < y.toInt
  · rw [if_pos c4]; simp; omega
  rw [if_neg c4]; simp; omega
section COPY
variable {σ : SS} {s t w q x0 y0 W0 H0 u v : Nat}
theorem copy7 (hst : s = 3 ∧ t = 6 ∨ s = 6 ∧ t = 3) (h2 : gR σ 1 2 = s) (h3 : gR σ 1 3 = t) (hw : w ≤ 40) (hq : q ≤ 40) (e1 : gI σ s 0 = nI w) (e2 : gI σ s 1 = nI q) (hx0 : x0 < w) (hy0 : y0 < q) (hu : u < w) (hv : v < q) (hW : 1 ≤ W0 ∧ W0 ≤ 40) (hH : 1 ≤ H0 ∧ H0 ≤ 40) : WP (fX7_copy σ (nI x0) (nI y0) (nI W0) (nI H0) (nI u) (nI v)) (fun r => ∃ σ1, Spare s t w q (cpF (gI σ (s + 1)) w q x0 y0 W0 H0 u v 0 H0) σ σ1 ∧ fX7_takeSpare σ1 = some r) := by
  have ha := area_le hw hq
  unfold fX7_copy
  simp only [vthen_eq]
  rw [h2, h3, if_pos (by rw [isPiece_eq, nI_toInt (by omega), nI_toInt (by omega)]; omega), if_pos (by rw [has_eq e1 e2 hw hq, nI_toInt (by omega), nI_toInt (by omega)]; omega), if_pos (by rw [has_eq e1 e2 hw hq, nI_toInt (by omega), nI_toInt (by omega)]; omega), bnd1_of _ (takeAll_eq (σ := σ) (t := t) (s := s) (by omega)), e1, e2]
  generalize hσ : sI (sI σ t 0 (nI w)) t 1 (nI q) = σ0
  have f0 : gI σ0 t 0 = nI w := by rw [← hσ, gI_nk (by omega), gI_eq]
  have f1 : gI σ0 t 1 = nI q := by rw [← hσ, gI_eq]
  have fk : ∀ c, c ≠ t → gI σ0 c = gI σ c := fun c hc => by rw [← hσ, gI_ne hc, gI_ne hc]
  have fR : gR σ0 = gR σ := by rw [← hσ]; rfl
  have r2 : ∀ d, gR (sA σ0 (t + 1) d) 1 2 = s := fun d => by show gR σ0 1 2 = s; rw [fR]; exact h2
  have r3 : ∀ d, gR (sA σ0 (t + 1) d) 1 3 = t := fun d => by show gR σ0 1 3 = t; rw [fR]; exact h3
  have k0 : ∀ d, gI (sA σ0 (t + 1) d) s 0 = nI w := fun d => by rw [gI_A_ne (by omega), fk s (by omega)]; exact e1
  have k1 : ∀ d, gI (sA σ0 (t + 1) d) s 1 = nI q := fun d => by rw [gI_A_ne (by omega), fk s (by omega)]; exact e2
  have g0 : ∀ d, gI (sA σ0 (t + 1) d) t 0 = nI w := fun d => by rw [gI_A_ne (by omega)]; exact f0
  have g1 : ∀ d, gI (sA σ0 (t + 1) d) t 1 = nI q := fun d => by rw [gI_A_ne (by omega)]; exact f1
  rw [r2, k0, k1, max_nI (by omega) (by omega), max_nI (by omega) (by omega), nI_sub (by omega), nI_sub (by omega), min_nI (by omega) (by omega), min_nI (by omega) (by omega)]
  unfold X7_copy_L92
  refine wf_2 (min H0 (q - max y0 v)) (fun j x s' => x = nI j ∧ ∃ d, s' = sA σ0 (t + 1) d ∧ Vis d w q (cpF (gI σ (s + 1)) w q x0 y0 W0 H0 u v 0 j) fun _ _ => True) ⟨rfl, _, rfl, fun x y hx hy _ => ?_⟩ (by omega) ?_ ?_
  · have hk := cell_lt hx hy
    show (if y * w + x < 1600 then _ else _) = _
    rw [if_pos (by omega)]
    unfold cpF
    rw [if_neg (by omega)]
  · rintro j _ _ rec hj ⟨rfl, d, rfl, hd⟩ hr
    rw [if_neg (nI_ge hj (by omega))]
    unfold X7_copy_L102
    refine wf_2 (min W0 (w - max x0 u)) (fun i x s' => x = nI i ∧ ∃ d, s' = sA σ0 (t + 1) d ∧ Vis d w q (cpF (gI σ (s + 1)) w q x0 y0 W0 H0 u v i j) fun _ _ => True) ⟨rfl, d, rfl, hd⟩ (by omega) ?_ ?_
    · rintro i _ _ rec2 hi ⟨rfl, d2, rfl, hd2⟩ hr2
      rw [if_neg (nI_ge hi (by omega)), r2, r3, nI_add, nI_add, nI_add, nI_add, at_in (k0 d2) (k1 d2) hw hq (show x0 + i < w by omega) (show y0 + j < q by omega), bnd1_some, gI_A_ne (c' := s + 1) (by omega), fk (s + 1) (by omega)]
      obtain ⟨b, z, -⟩ := put_in (σ := sA σ0 (t + 1) d2) (s := t) (w := w) (h := q) (X := u + i) (Y := v + j) (g0 d2) (g1 d2) hw hq (by omega) (by omega) (gI σ (s + 1) ((y0 + j) * w + (x0 + i)))
      rw [bnd_of _ z, sI_A, nI_1]
      refine hr2 _ _ ⟨rfl, _, rfl, hd2.chg (by omega) (fun x y hx hy hn => cpF_if (by omega)) ?_⟩
      unfold cpF
      rw [if_pos (by omega), show v + j + y0 - v = y0 + j by omega, show u + i + x0 - u = x0 + i by omega]
    · rintro _ _ rec2 ⟨rfl, d2, rfl, hd2⟩
      rw [if_pos (nI_le (Nat.le_refl _) (by omega)), nI_1]
      exact hr _ _ ⟨rfl, _, rfl, hd2.fn fun x y hx hy => cpF_if (by omega)⟩
  · rintro _ _ rec ⟨rfl, d, rfl, hd⟩
    have hS : Spare s t w q (cpF (gI σ (s + 1)) w q x0 y0 W0 H0 u v 0 H0) σ (sA σ0 (t + 1) d) := by
      refine ⟨fR, g0 d, g1 d, ?_, fun c k h1 h2 h3 => ?_⟩
      · rw [gI_A]; exact hd.fn fun x y hx hy => cpF_if (by omega)
      · rw [gI_A_ne h2, fk c h1]
    obtain ⟨v', hv'⟩ := takeSpare_ok hst hw hq e1 e2 h2 h3 hS
    rw [if_pos (nI_le (Nat.le_refl _) (by omega)), bnd_of _ hv']
    exact wp_some ⟨_, hS, hv'⟩
theorem copy8 (hw : 1 ≤ w ∧ w ≤ 40) (hq : 1 ≤ q ∧ q ≤ 40) (e3 : gI σ 73 29 = nI w) (e4 : gI σ 73 30 = nI q) (hx0 : x0 < w) (hy0 : y0 < q) (hu : u < w) (hv : v < q) (hW : 1 ≤ W0 ∧ W0 ≤ 40) (hH : 1 ≤ H0 ∧ H0 ≤ 40) : WP (fX8_copy σ (nI x0) (nI y0) (nI W0) (nI H0) (nI u) (nI v)) (fun r => Dots w q (cpF (gI σ 83) w q x0 y0 W0 H0 u v 0 H0) σ r.2 ∧ fX8_others r.2 = some r.1) := by
  obtain ⟨d0, h0, hd0⟩ := puts_eq (σ := σ)
  have ha := area_le hw.2 hq.2
  unfold fX8_copy
  simp only [in_eq, le_i, Int32.reduceToInt]
  rw [nI_toInt (by omega), nI_toInt (by omega), if_pos (by omega), if_pos (by omega), if_pos (by rw [isDot_eq e3 e4 hw.1 hq.1 hw.2 hq.2, nI_toInt (by omega), nI_toInt (by omega)]; omega), if_pos (by rw [isDot_eq e3 e4 hw.1 hq.1 hw.2 hq.2, nI_toInt (by omega), nI_toInt (by omega)]; omega), bnd1_of _ h0]
  have c3 : ∀ d, gI (sA (sA σ 84 d0) 83 d) 73 29 = nI w := fun d => by rw [gI_A_ne (by omega), gI_A_ne (by omega)]; exact e3
  have c4 : ∀ d, gI (sA (sA σ 84 d0) 83 d) 73 30 = nI q := fun d => by rw [gI_A_ne (by omega), gI_A_ne (by omega)]; exact e4
  suffices hh : WP (X8_copy_L50 (nI x0) (nI y0) (nI W0) (nI H0) (nI u) (nI v) fuel (0 : Int32) (sA (sA σ 84 d0) 83 (gI σ 83))) (fun r => (∃ d, r.2 = sA (sA σ 84 d0) 83 d ∧ Vis d w q (cpF (gI σ 83) w q x0 y0 W0 H0 u v 0 H0) fun _ _ => True) ∧ fX8_others r.2 = some r.1) by
    rw [show sA (sA σ 84 d0) 83 (gI σ 83) = sA σ 84 d0 by rw [show gI σ 83 = gI (sA σ 84 d0) 83 by rw [gI_A_ne (by omega)], sA_self]] at hh
    refine wp_imp hh ?_
    rintro ⟨r1, r2⟩ ⟨⟨d, h1, hd⟩, ho⟩
    refine ⟨?_, ho⟩
    dsimp only at h1 ⊢
    subst h1
    refine ⟨rfl, ?_, fun k hk => ?_, fun c k k1 k2 k3 => ?_⟩
    · rw [gI_A]; exact hd
    · rw [gI_A_ne (by omega), gI_A]; exact hd0 k hk
    · rw [gI_A_ne k1, gI_A_ne k2]
  unfold X8_copy_L50
  refine wf_2 H0 (fun j x s' => x = nI j ∧ ∃ d, s' = sA (sA σ 84 d0) 83 d ∧ Vis d w q (cpF (gI σ 83) w q x0 y0 W0 H0 u v 0 j) fun _ _ => True) ⟨rfl, _, rfl, fun x y hx hy _ => ?_⟩ (by omega) ?_ ?_
  · unfold cpF
    rw [if_neg (by omega)]
  · rintro j _ _ rec hj ⟨rfl, d, rfl, hd⟩ hr
    rw [if_neg (nI_ge hj (by omega))]
    unfold X8_copy_L60
    refine wf_2 W0 (fun i x s' => x = nI i ∧ ∃ d, s' = sA (sA σ 84 d0) 83 d ∧ Vis d w q (cpF (gI σ 83) w q x0 y0 W0 H0 u v i j) fun _ _ => True) ⟨rfl, d, rfl, hd⟩ (by omega) ?_ ?_
    · rintro i _ _ rec2 hi ⟨rfl, d2, rfl, hd2⟩ hr2
      have ca := isDot_eq (σ := sA (sA σ 84 d0) 83 d2) (c3 d2) (c4 d2) hw.1 hq.1 hw.2 hq.2 (nI (x0 + i)) (nI (y0 + j))
      have cb := isDot_eq (σ := sA (sA σ 84 d0) 83 d2) (c3 d2) (c4 d2) hw.1 hq.1 hw.2 hq.2 (nI (u + i)) (nI (v + j))
      rw [nI_toInt (by omega), nI_toInt (by omega)] at ca cb
      rw [if_neg (nI_ge hi (by omega)), nI_add, nI_add, nI_add, nI_add, c3, nI_1]
      by_cases cc : (x0 + i < w ∧ y0 + j < q) ∧ u + i < w ∧ v + j < q
      · have k1 := cell_lt (w := w) (h := q) cc.1.1 cc.1.2
        have k2 := cell_lt (w := w) (h := q) cc.2.1 cc.2.2
        have i1 : nI w * nI (y0 + j) + nI x0 + nI i = nI ((y0 + j) * w + (x0 + i)) := by rw [nI_mul, nI_add, nI_add, Nat.mul_comm, Nat.add_assoc]
        have i2 : nI w * nI (v + j) + nI u + nI i = nI ((v + j) * w + (u + i)) := by rw [nI_mul, nI_add, nI_add, Nat.mul_comm, Nat.add_assoc]
        rw [if_pos (by rw [ca]; omega), if_pos (by rw [cb]; omega), i1, i2, grd_eq _ (inb_nI (by omega) (by omega)), grd_eq _ (inb_nI (by omega) (by omega)), vthen_eq, nI_clamp (by omega), nI_clamp (by omega), gI_A_ne (c' := 84) (by omega), gI_A, sI_A]
        refine hr2 _ _ ⟨rfl, _, rfl, hd2.chg (by omega) (fun x y hx hy hn => cpF_if (by omega)) ?_⟩
        unfold cpF
        rw [if_pos (by omega), hd0 _ (by omega), show v + j + y0 - v = y0 + j by omega, show u + i + x0 - u = x0 + i by omega]
      · have go : WP (rec2 (nI (i + 1)) (sA (sA σ 84 d0) 83 d2)) (fun r => (∃ d, r.2 = sA (sA σ 84 d0) 83 d ∧ Vis d w q (cpF (gI σ 83) w q x0 y0 W0 H0 u v 0 H0) fun _ _ => True) ∧ fX8_others r.2 = some r.1) := hr2 _ _ ⟨rfl, _, rfl, hd2.fn fun x y hx hy => cpF_if (by omega)⟩
        by_cases c1 : fX8_isDot (sA (sA σ 84 d0) 83 d2) (nI (x0 + i)) (nI (y0 + j)) = true
        · rw [if_pos c1]
          rw [ca] at c1
          rw [if_neg (by rw [cb]; omega)]
          exact go
        · rw [if_neg c1]; exact go
    · rintro _ _ rec2 ⟨rfl, d2, rfl, hd2⟩
      rw [if_pos (nI_le (Nat.le_refl _) (by omega)), nI_1]
      exact hr _ _ ⟨rfl, _, rfl, hd2.fn fun x y hx hy => cpF_if (by omega)⟩
  · rintro _ _ rec ⟨rfl, d, rfl, hd⟩
    have o := others_eq (σ := sA (sA σ 84 d0) 83 d) hw.2 hq.2 (c3 d) (c4 d)
    rw [if_pos (nI_le (Nat.le_refl _) (by omega)), bnd1_of _ o]
    exact wp_some ⟨⟨d, rfl, hd⟩, o⟩
end COPY
theorem op12 : ∀ a σ, Rel σ → st12 Rel a σ := by
  intro a σ ⟨s, f, h⟩
  obtain ⟨t, hst, r3⟩ := st_of h.1
  obtain ⟨hs, hf, hR1, -⟩ := id h.1
  obtain ⟨w, q, hw, hq, e1, e2, e3, e4, hd⟩ := h.2.2.1
  have ca := has_eq e1 e2 hw.2 hq.2 (a 1) (a 2)
  have cb := has_eq e1 e2 hw.2 hq.2 (a 5) (a 6)
  have da := isDot_eq e3 e4 (by omega) (by omega) hw.2 hq.2 (a 1) (a 2)
  have db := isDot_eq e3 e4 (by omega) (by omega) hw.2 hq.2 (a 5) (a 6)
  by_cases hc : (1 ≤ (a 3).toInt ∧ (a 3).toInt ≤ 40) ∧ (1 ≤ (a 4).toInt ∧ (a 4).toInt ≤ 40) ∧ ((0 ≤ (a 1).toInt ∧ (a 1).toInt < w) ∧ 0 ≤ (a 2).toInt ∧ (a 2).toInt < q) ∧ ((0 ≤ (a 5).toInt ∧ (a 5).toInt < w) ∧ 0 ≤ (a 6).toInt ∧ (a 6).toInt < q)
  · obtain ⟨hc3, hc4, hc12, hc56⟩ := hc
    obtain ⟨W0, hW, eW⟩ := in_of (x := a 3) (w := 41) (by decide) (by omega)
    obtain ⟨H0, hH, eH⟩ := in_of (x := a 4) (w := 41) (by decide) (by omega)
    obtain ⟨x0, hx0, ex0⟩ := in_of (by omega) hc12.1
    obtain ⟨y0, hy0, ey0⟩ := in_of (by omega) hc12.2
    obtain ⟨u, hu, eu⟩ := in_of (by omega) hc56.1
    obtain ⟨v, hv, ev⟩ := in_of (by omega) hc56.2
    have tW : (a 3).toInt = W0 := by rw [eW, nI_toInt (by omega)]
    have tH : (a 4).toInt = H0 := by rw [eH, nI_toInt (by omega)]
    obtain ⟨r, x1, σ1, hS, hT⟩ := copy7 (σ := σ) (x0 := x0) (y0 := y0) (W0 := W0) (H0 := H0) (u := u) (v := v) hst hR1 r3 hw.2 hq.2 e1 e2 hx0 hy0 hu hv (by omega) (by omega)
    have k83 : gI (swp s t σ1) 83 = gI σ 83 := funext fun k => by rw [swp_I, hS.2.2.2.2 83 k (by omega) (by omega) (by omega)]
    obtain ⟨⟨v', σ2⟩, x2, hD, ho⟩ := copy8 (σ := swp s t σ1) (x0 := x0) (y0 := y0) (W0 := W0) (H0 := H0) (u := u) (v := v) (w := w) (q := q) ⟨by omega, hw.2⟩ ⟨by omega, hq.2⟩ (by rw [swp_I, hS.2.2.2.2 73 29 (by omega) (by omega) (by omega)]; exact e3) (by rw [swp_I, hS.2.2.2.2 73 30 (by omega) (by omega) (by omega)]; exact e4) hx0 hy0 hu hv (by omega) (by omega)
    rw [k83] at hD
    have hF : ∀ x y, x < w → y < q → inR (cpF (gI σ 83) w q x0 y0 W0 H0 u v 0 H0 x y) 0 9 := fun x y hx hy => by
      unfold cpF
      by_cases c : (u ≤ x ∧ v ≤ y ∧ (y < v + H0 ∨ y = v + H0 ∧ x < u + 0)) ∧ x < u + W0 ∧ y < v + H0 ∧ x + x0 < w + u ∧ y + y0 < q + v
      · rw [if_pos c]; exact (hd _ (cell_lt (by omega) (by omega))).2
      · rw [if_neg c]; exact (hd _ (cell_lt hx hy)).2
    obtain ⟨y1, y2⟩ := spare_fin hst h hw hq e1 e2 e3 e4 hd hF (hS.congr fun x y hx hy => cpF_congr hx hy (fun k hk => (hd k hk).1)) hD ho
    rw [hT] at y1
    cases Option.some.inj y1
    unfold st12
    rw [ex0, ey0, eW, eH, eu, ev]
    exact ⟨v', swp s t σ1, σ2, x1, x2, t, f, y2⟩
  · refine ⟨-1, σ, σ, ?_, ?_, s, f, h⟩
    · unfold fX7_copy
      rw [hR1]
      simp only [isPiece_eq, ca, cb]
      repeat' split
      all_goals first | omega | rfl
    · unfold fX8_copy
      simp only [in_eq, lt_i, le_i, Int32.reduceToInt, da, db]
      repeat' split
      all_goals first | omega | rfl
