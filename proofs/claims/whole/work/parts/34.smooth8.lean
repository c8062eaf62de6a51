/-! Smooth: the reference's half. -/
/-- not by rfl: the kernel would unfold a loop's fuel to see it -/
theorem vthen_q {α β : Type} (x : α) (f : α → β) : vthen x f = f x := (Eq.refl _).trans (Eq.refl _)
def MS (σ : SS) (d e : Nat → Int32) (s' : SS) : Prop := gR s' = gR σ ∧ gI s' 83 = d ∧ gI s' 91 = e ∧ (∀ k, k < 1600 → gI s' 84 k = gI σ 83 k) ∧ ∀ c k, c ≠ 83 → c ≠ 84 → c ≠ 91 → gI s' c k = gI σ c k
theorem gI_up (σ : SS) (c k : Nat) (v : Int32) : gI (sI σ c k v) c = upd (gI σ c) k v := gI_A _ _ _
theorem MS.near {σ s' : SS} {d e : Nat → Int32} (h : MS σ d e s') (k : Nat) (v : Int32) : MS σ d (upd e k v) (sI s' 91 k v) := by
  obtain ⟨h1, h2, h3, h4, h5⟩ := h
  refine ⟨h1, by rw [gI_ne (by omega)]; exact h2, by rw [gI_up, h3], fun j hj => by rw [gI_ne (by omega)]; exact h4 j hj, fun c j c1 c2 c3 => by rw [gI_ne c3]; exact h5 c j c1 c2 c3⟩
theorem MS.dot {σ s' : SS} {d e : Nat → Int32} (h : MS σ d e s') (k : Nat) (v : Int32) : MS σ (upd d k v) e (sI s' 83 k v) := by
  obtain ⟨h1, h2, h3, h4, h5⟩ := h
  refine ⟨h1, by rw [gI_up, h2], by rw [gI_ne (by omega)]; exact h3, fun j hj => by rw [gI_ne (by omega)]; exact h4 j hj, fun c j c1 c2 c3 => by rw [gI_ne c1]; exact h5 c j c1 c2 c3⟩
theorem ti_pm {x k : Nat} (hx : x ≤ 1000) (hk : k ≤ 1000) : (nI x - 1 + nI k).toInt = (x : Int) - 1 + k := by
  have h1 : (nI x - 1).toInt = (x : Int) - 1 := sub1z (by omega)
  rw [ti_add] <;> rw [h1, nI_toInt (by omega)] <;> omega
theorem ti_p2 {x : Nat} (hx : x ≤ 1000) : (nI x + 2).toInt = (x : Int) + 2 := by
  rw [show nI x + 2 = nI (x + 2) from nI_add x 2, nI_toInt (by omega)]; omega
theorem pm_nI {x k : Nat} (h : 1 ≤ x + k) : nI x - 1 + nI k = nI (x + k - 1) := by
  have e : nI x - 1 + nI k = nI (x + k) - 1 := by rw [← nI_add, Int32.sub_eq_add_neg, Int32.sub_eq_add_neg, Int32.add_assoc, Int32.add_comm (-1), ← Int32.add_assoc]
  rw [e]; exact nI_sub (a := x + k) (b := 1) h
section SMOOTH8
variable {σ : SS} {w q x y : Nat} {d : Nat → Int32}
def smG (src : Nat → Int32) (w q x : Nat) (v4 : Int32) (i : Nat) (r : (Nat → Nat) × Nat) : (Nat → Nat) × Nat := if 0 ≤ v4.toInt ∧ v4.toInt < q then smI src w x v4.toInt.toNat i r else r
theorem near8 {P : Int32 × SS → Prop} {v4 : Int32} {k139 : Int32 → SS → Option (Int32 × SS)} {r : (Nat → Nat) × Nat} {e : Nat → Int32} {s1 : SS} (hw : 1 ≤ w ∧ w ≤ 40) (hq : 1 ≤ q ∧ q ≤ 40) (e3 : gI σ 73 29 = nI w) (e4 : gI σ 73 30 = nI q) (hd : ∀ k, k < w * q → inR (gI σ 83 k) 0 9) (hx : x < w) (hm : MS σ d e s1) (ht : Tly e r) (hk : ∀ e' s', MS σ d e' s' → Tly e' (itr (smG (gI σ 83) w q x v4) r (x + 2)) → WP (k139 (nI (itr (smG (gI σ 83) w q x v4) r (x + 2)).2) s') P) : WP (X8_smooth_L65 (nI x) v4 k139 fuel (nI r.2) (nI x - 1) s1) P := by
  have ha := area_le hw.2 hq.2
  unfold X8_smooth_L65
  refine wf_3 3 (fun k n c s' => c = nI x - 1 + nI k ∧ n = nI (itr (smG (gI σ 83) w q x v4) r (x + k - 1)).2 ∧ ∃ e', MS σ d e' s' ∧ Tly e' (itr (smG (gI σ 83) w q x v4) r (x + k - 1))) ?_ (by omega) ?_ ?_
  · have e0 : itr (smG (gI σ 83) w q x v4) r (x + 0 - 1) = r := itr_id (M := 0) (by omega) fun j _ hj r => by
      unfold smG smI
      split
      · rw [if_neg (by omega)]
      · rfl
    rw [e0]
    exact ⟨(Int32.add_zero _).symm, rfl, e, hm, ht⟩
  · rintro k _ _ s2 rec hk2 ⟨rfl, rfl, e', hm2, ht2⟩ hr
    have c3 : gI s2 73 29 = nI w := (hm2.2.2.2.2 _ _ (by omega) (by omega) (by omega)).trans e3
    have c4 : gI s2 73 30 = nI q := (hm2.2.2.2.2 _ _ (by omega) (by omega) (by omega)).trans e4
    have cd := isDot_eq (σ := s2) c3 c4 hw.1 hq.1 hw.2 hq.2 (nI x - 1 + nI k) v4
    rw [ti_pm (by omega) (by omega)] at cd
    simp only [vthen_eq]
    rw [if_neg (by rw [le_i, ti_p2 (by omega), ti_pm (by omega) (by omega)]; omega), show nI x - 1 + nI k + 1 = nI x - 1 + nI (k + 1) by rw [Int32.add_assoc, nI_1], c3]
    by_cases hxk : x + k = 0
    · rw [if_neg (by rw [cd]; omega)]
      refine hr _ _ _ ⟨rfl, ?_, e', hm2, ?_⟩
      · rw [show x + (k + 1) - 1 = x + k - 1 by omega]
      · rw [show x + (k + 1) - 1 = x + k - 1 by omega]; exact ht2
    · generalize hi : x + k - 1 = i at *
      have ei : nI x - 1 + nI k = nI i := by rw [pm_nI (by omega), hi]
      rw [show x + (k + 1) - 1 = i + 1 by omega] at hr
      rw [show itr (smG (gI σ 83) w q x v4) r (i + 1) = smG (gI σ 83) w q x v4 i (itr (smG (gI σ 83) w q x v4) r i) from rfl] at hr
      generalize itr (smG (gI σ 83) w q x v4) r i = r2 at *
      by_cases c : i < w ∧ 0 ≤ v4.toInt ∧ v4.toInt < q
      · obtain ⟨j, hj, ej⟩ := in_of (x := v4) (by omega) c.2
        have tj : v4.toInt.toNat = j := by rw [ej, nI_toInt (by omega)]; omega
        have hix := cell_lt c.1 hj
        have hs := sN_of (hd _ hix)
        have eg : smG (gI σ 83) w q x v4 i r2 = smS (gI σ 83) (j * w + i) r2 := by
          unfold smG smI
          rw [if_pos c.2, if_pos (by omega), tj]
        rw [eg] at hr
        rw [if_pos (by rw [cd]; omega), ei, ej, ix_m, grd_eq _ (inb_nI (by omega) (by omega)), nI_clamp (by omega), hm2.2.2.2.1 _ (by omega), hs.1, grd_eq _ (inb_nI (by omega) (by decide)), nI_clamp (by omega), hm2.2.2.1, nI_1]
        exact hr _ _ _ ⟨rfl, rfl, _, hm2.near _ _, ht2.up (by omega)⟩
      · have eg : smG (gI σ 83) w q x v4 i r2 = r2 := by
          unfold smG smI
          by_cases c2 : 0 ≤ v4.toInt ∧ v4.toInt < q
          · rw [if_pos c2, if_neg (by omega)]
          · rw [if_neg c2]
        rw [eg] at hr
        rw [if_neg (by rw [cd]; omega)]
        exact hr _ _ _ ⟨rfl, rfl, e', hm2, ht2⟩
  · rintro _ _ s2 rec ⟨rfl, rfl, e', hm2, ht2⟩
    rw [if_pos (by rw [le_i, ti_p2 (by omega), ti_pm (by omega) (by omega)]; omega)]
    exact hk _ _ hm2 ht2
theorem tally8 {P : Int32 × SS → Prop} {k145 : Int32 → SS → Option (Int32 × SS)} {e : Nat → Int32} {s1 : SS} (hw : 1 ≤ w ∧ w ≤ 40) (hq : 1 ≤ q ∧ q ≤ 40) (e3 : gI σ 73 29 = nI w) (e4 : gI σ 73 30 = nI q) (hd : ∀ k, k < w * q → inR (gI σ 83 k) 0 9) (hx : x < w) (hy : y < q) (hm : MS σ d e s1) (ht : Tly e sm0) (hk : ∀ e' s', MS σ d e' s' → Tly e' (smR (gI σ 83) w q x y) → WP (k145 (nI (smR (gI σ 83) w q x y).2) s') P) : WP (X8_smooth_L52 (nI y) (nI x) k145 fuel (0 : Int32) (nI y - 1) s1) P := by
  unfold X8_smooth_L52
  refine wf_3 3 (fun k n c s' => c = nI y - 1 + nI k ∧ n = nI (itr (smJ (gI σ 83) w q x y) sm0 (y + k - 1)).2 ∧ ∃ e', MS σ d e' s' ∧ Tly e' (itr (smJ (gI σ 83) w q x y) sm0 (y + k - 1))) ?_ (by omega) ?_ ?_
  · have e0 : itr (smJ (gI σ 83) w q x y) sm0 (y + 0 - 1) = sm0 := itr_id (M := 0) (by omega) fun j _ hj r => by
      unfold smJ; rw [if_neg (by omega)]
    rw [e0]
    exact ⟨(Int32.add_zero _).symm, rfl, e, hm, ht⟩
  · rintro k _ _ s2 rec hk2 ⟨rfl, rfl, e', hm2, ht2⟩ hr
    simp only [vthen_eq]
    rw [if_neg (by rw [le_i, ti_p2 (by omega), ti_pm (by omega) (by omega)]; omega), show nI y - 1 + nI k + 1 = nI y - 1 + nI (k + 1) by rw [Int32.add_assoc, nI_1]]
    refine near8 hw hq e3 e4 hd hx hm2 ht2 fun e5 s5 hm5 ht5 => ?_
    have key : itr (smJ (gI σ 83) w q x y) sm0 (y + (k + 1) - 1) = itr (smG (gI σ 83) w q x (nI y - 1 + nI k)) (itr (smJ (gI σ 83) w q x y) sm0 (y + k - 1)) (x + 2) := by
      have tv := ti_pm (x := y) (k := k) (by omega) (by omega)
      by_cases hyk : y + k = 0
      · rw [show y + (k + 1) - 1 = 0 by omega, show y + k - 1 = 0 by omega]
        have z := itr_id (f := smG (gI σ 83) w q x (nI y - 1 + nI k)) (s := sm0) (M := 0) (N := x + 2) (by omega) fun j _ hj r => by
          unfold smG; rw [if_neg (by omega)]
        exact z.symm
      · rw [show y + (k + 1) - 1 = (y + k - 1) + 1 by omega]
        generalize hj : y + k - 1 = j at *
        show smJ (gI σ 83) w q x y j (itr (smJ (gI σ 83) w q x y) sm0 j) = _
        generalize itr (smJ (gI σ 83) w q x y) sm0 j = r2
        unfold smJ
        by_cases c : j < q
        · rw [if_pos (by omega)]
          refine itr_congr fun i _ r => ?_
          unfold smG
          rw [if_pos (by omega), show (nI y - 1 + nI k).toInt.toNat = j by omega]
        · rw [if_neg (by omega)]
          refine (itr_id (M := 0) (by omega) fun i _ _ r => ?_).symm
          unfold smG; rw [if_neg (by omega)]
    rw [key] at hr
    exact hr _ _ _ ⟨rfl, rfl, e5, hm5, ht5⟩
  · rintro _ _ s2 rec ⟨rfl, rfl, e', hm2, ht2⟩
    rw [if_pos (by rw [le_i, ti_p2 (by omega), ti_pm (by omega) (by omega)]; omega)]
    exact hk _ _ hm2 ht2
theorem pick8 {P : Int32 × SS → Prop} {k188 : Int32 → Option (Int32 × SS)} {e : Nat → Int32} {s1 : SS} {r : (Nat → Nat) × Nat} (he : gI s1 91 = e) (ht : Tly e r) (h1 : 1 ≤ r.2) (h2 : csum r.1 10 = r.2 ∧ r.2 ≤ 1764) (hk : ∀ v, v ≤ 9 → midP r v → WP (k188 (nI v)) P) : WP (X8_smooth_L155 s1 k188 fuel (nI ((r.2 - 1) / 2)) (0 : Int32)) P := by
  unfold X8_smooth_L155
  refine wl_2 (fun m a b => ∃ v, m + v = 10 ∧ v ≤ 9 ∧ a = nI ((r.2 - 1) / 2 - csum r.1 v) ∧ b = nI v ∧ csum r.1 v ≤ (r.2 - 1) / 2) ?_ fuel 10 _ _ (fuel_gt (by omega)) ⟨0, rfl, by omega, rfl, rfl, Nat.zero_le _⟩
  rintro m _ _ ⟨v, hm, hv, rfl, rfl, hc⟩ rec hr
  have m1 := csum_mono r.1 (a := v + 1) (b := 10) (by omega)
  have sv : csum r.1 (v + 1) = csum r.1 v + r.1 v := rfl
  simp only [vthen_eq]
  rw [grd_eq _ (inb_nI (by omega) (by decide)), nI_clamp (by omega), he, ht v (by omega), nI_1]
  by_cases c : (r.2 - 1) / 2 - csum r.1 v < r.1 v
  · rw [if_pos (nI_lt c (by omega))]
    exact hk v hv ⟨hc, by omega⟩
  · rw [if_neg (nI_nlt (by omega) (by omega)), nI_sub (by omega)]
    have : v ≠ 9 := fun q => by subst q; have : csum r.1 (9 + 1) = csum r.1 10 := rfl; omega
    exact hr (m - 1) _ _ (by omega) ⟨v + 1, by omega, by omega, congrArg nI (by omega), rfl, by omega⟩
theorem smooth8 (hw : 1 ≤ w ∧ w ≤ 40) (hq : 1 ≤ q ∧ q ≤ 40) (e3 : gI σ 73 29 = nI w) (e4 : gI σ 73 30 = nI q) (hd : ∀ k, k < w * q → inR (gI σ 83 k) 0 9) : WP (fX8_smooth σ) (fun r => Dots w q (fun x y => nI (midV (smR (gI σ 83) w q x y))) σ r.2 ∧ fX8_others r.2 = some r.1) := by
  obtain ⟨d0, h0, hd0⟩ := puts_eq (σ := σ)
  have ha := area_le hw.2 hq.2
  unfold fX8_smooth
  rw [bnd1_of _ h0]
  have m0 : MS σ (gI σ 83) (gI σ 91) (sA σ 84 d0) := ⟨rfl, by rw [gI_A_ne (by omega)], by rw [gI_A_ne (by omega)], fun k hk => by rw [gI_A]; exact hd0 k hk, fun c k _ c2 _ => by rw [gI_A_ne c2]⟩
  unfold X8_smooth_L6
  refine wf_2 q (fun j vv s' => vv = nI j ∧ ∃ d e, MS σ d e s' ∧ Vis d w q (fun x y => nI (midV (smR (gI σ 83) w q x y))) fun x y => y < j) ⟨rfl, _, _, m0, fun x y _ _ h => absurd h (by omega)⟩ (by omega) ?_ ?_
  · rintro j _ s1 rec hj ⟨rfl, d, e, hm, hv⟩ hr
    have c4 : gI s1 73 30 = nI q := (hm.2.2.2.2 _ _ (by omega) (by omega) (by omega)).trans e4
    rw [c4, if_neg (nI_ge hj (by omega))]
    unfold X8_smooth_L16
    refine wf_2 w (fun i x s' => x = nI i ∧ ∃ d e, MS σ d e s' ∧ Vis d w q (fun x y => nI (midV (smR (gI σ 83) w q x y))) fun x y => y < j ∨ y = j ∧ x < i) ⟨rfl, d, e, hm, hv.imp fun x y _ _ h => by omega⟩ (by omega) ?_ ?_
    · rintro i _ s2 rec2 hi ⟨rfl, d2, e2, hm2, hv2⟩ hr2
      have c3 : gI s2 73 29 = nI w := (hm2.2.2.2.2 _ _ (by omega) (by omega) (by omega)).trans e3
      rw [c3, if_neg (nI_ge hi (by omega))]
      unfold X8_smooth_L26
      refine wf_2 10 (fun k x s' => x = nI k ∧ ∃ e, MS σ d2 e s' ∧ ∀ v, v < k → e v = 0) ⟨rfl, e2, hm2, fun v hv => absurd hv (by omega)⟩ (by omega) ?_ ?_
      · rintro k _ s3 rec3 hk ⟨rfl, e3', hm3, hz⟩ hr3
        rw [if_neg (by show ¬ nI 10 ≤ nI k; exact nI_ge hk (by decide)), grd_eq _ (inb_nI (by omega) (by decide)), vthen_q, nI_clamp (by omega), nI_1]
        refine hr3 _ _ ⟨rfl, _, hm3.near _ _, fun v hv => ?_⟩
        show (if v = k then (0 : Int32) else e3' v) = 0
        by_cases c : v = k
        · rw [if_pos c]
        · rw [if_neg c]; exact hz v (by omega)
      · rintro _ s3 rec3 ⟨rfl, e3', hm3, hz⟩
        rw [if_pos (by show nI 10 ≤ nI 10; exact nI_le (Nat.le_refl _) (by decide))]
        simp only [vthen_q]
        refine tally8 hw hq e3 e4 hd hi hj hm3 (fun v hv => hz v hv) fun e5 s5 hm5 ht5 => ?_
        have hp := smR_pos (src := gI σ 83) hi hj
        have hb := sm_b (x := i) (y := j) (j := j + 2) hd (by omega) (by omega)
        rw [show itr (smJ (gI σ 83) w q i j) sm0 (j + 2) = smR (gI σ 83) w q i j from rfl] at hb
        have hh : (nI (smR (gI σ 83) w q i j).2 - 1) / 2 = nI (((smR (gI σ 83) w q i j).2 - 1) / 2) := by
          rw [show nI (smR (gI σ 83) w q i j).2 - 1 = nI ((smR (gI σ 83) w q i j).2 - 1) from nI_sub (a := (smR (gI σ 83) w q i j).2) (b := 1) (by omega)]; exact pk_div (d := 2) (by omega) (by omega) (by omega)
        rw [hh]
        refine pick8 hm5.2.2.1 ht5 hp hb fun v hv hmid => ?_
        have c5 : gI s5 73 29 = nI w := (hm5.2.2.2.2 _ _ (by omega) (by omega) (by omega)).trans e3
        have hix := cell_lt hi hj
        rw [c5, ix_m, grd_eq _ (inb_nI (by omega) (by omega)), nI_clamp (by omega), nI_1]
        refine hr2 _ _ ⟨rfl, _, e5, hm5.dot _ _, hv2.put hi (fun x y _ _ h => by omega) (by rw [midV_eq hmid])⟩
    · rintro _ s2 rec2 ⟨rfl, d2, e2, hm2, hv2⟩
      have c3 : gI s2 73 29 = nI w := (hm2.2.2.2.2 _ _ (by omega) (by omega) (by omega)).trans e3
      rw [c3, if_pos (nI_le (Nat.le_refl _) (by omega)), nI_1]
      exact hr _ _ ⟨rfl, d2, e2, hm2, hv2.imp fun x y _ _ h => by omega⟩
  · rintro _ s1 rec ⟨rfl, d, e, hm, hv⟩
    have c3 : gI s1 73 29 = nI w := (hm.2.2.2.2 _ _ (by omega) (by omega) (by omega)).trans e3
    have c4 : gI s1 73 30 = nI q := (hm.2.2.2.2 _ _ (by omega) (by omega) (by omega)).trans e4
    have o := others_eq (σ := s1) hw.2 hq.2 c3 c4
    rw [c4, if_pos (nI_le (Nat.le_refl _) (by omega)), bnd1_of _ o]
    exact wp_some ⟨⟨hm.1, by rw [hm.2.1]; exact hv.imp fun x y _ h _ => h, hm.2.2.2.1, hm.2.2.2.2⟩, o⟩
end SMOOTH8
theorem mid_rng {src : Nat → Int32} {w q x y : Nat} (hd : ∀ k, k < w * q → inR (src k) 0 9) (hx : x < w) (hw : w ≤ 40) (hy : y < q) (hq : q ≤ 40) : inR (nI (midV (smR src w q x y))) 0 9 := by
  have hp := smR_pos (src := src) hx hy
  have hb := sm_b (x := x) (y := y) (j := y + 2) hd (by omega) (by omega)
  rw [show itr (smJ src w q x y) sm0 (y + 2) = smR src w q x y from rfl] at hb
  generalize smR src w q x y = r at *
  have ex : ∀ n, (r.2 - 1) / 2 < csum r.1 n → ∃ v, v < n ∧ midP r v := by
    intro n
    induction n with
    | zero => intro h; exact absurd h (Nat.not_lt_zero _)
    | succ n ih =>
      intro h
      by_cases c : (r.2 - 1) / 2 < csum r.1 n
      · obtain ⟨v, h1, h2⟩ := ih c; exact ⟨v, by omega, h2⟩
      · exact ⟨n, by omega, by omega, h⟩
  obtain ⟨v, h1, h2⟩ := ex 10 (by rw [hb.1]; omega)
  rw [midV_eq h2]
  unfold inR
  rw [nI_toInt (by omega)]; omega
theorem op16 : ∀ a σ, Rel σ → st16 Rel a σ := by
  intro a σ ⟨s, f, h⟩
  obtain ⟨t, hst, r3⟩ := st_of h.1
  obtain ⟨hs, hf, hR1, -⟩ := id h.1
  obtain ⟨w, q, hw, hq, e1, e2, e3, e4, hd⟩ := h.2.2.1
  obtain ⟨σ1, x1, hS⟩ := smooth7 (σ := σ) (s := s) (t := t) (w := w) (q := q) hst hw.2 hq.2 e1 e2 fun k hk => by rw [(hd k hk).1]; exact (hd k hk).2
  have k83 : gI (swp s t σ1) 83 = gI σ 83 := funext fun k => by rw [swp_I, hS.2.2.2.2 83 k (by omega) (by omega) (by omega)]
  obtain ⟨⟨v, σ2⟩, x2, hD, ho⟩ := smooth8 (σ := swp s t σ1) (w := w) (q := q) ⟨by omega, hw.2⟩ ⟨by omega, hq.2⟩ (by rw [swp_I, hS.2.2.2.2 73 29 (by omega) (by omega) (by omega)]; exact e3) (by rw [swp_I, hS.2.2.2.2 73 30 (by omega) (by omega) (by omega)]; exact e4) fun k hk => by rw [k83]; exact (hd k hk).2
  rw [k83] at hD
  obtain ⟨y1, y2⟩ := spare_fin hst h hw hq e1 e2 e3 e4 hd (fun x y hx hy => mid_rng (fun k hk => (hd k hk).2) hx hw.2 hy hq.2) (hS.congr fun x y hx hy => by rw [smR_congr fun k hk => (hd k hk).1]) hD ho
  refine ⟨v, swp s t σ1, σ2, ?_, x2, t, f, y2⟩
  unfold fX7_smooth
  rw [r3, hR1, bnd1_of _ x1, bnd_of _ y1]
