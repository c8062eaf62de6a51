/-! Pictures by places; the spare scan filled and taken; shift. -/
theorem ix_inj {w x y x' y' : Nat} (hx : x < w) (hx' : x' < w) (h : y * w + x = y' * w + x') : x = x' ∧ y = y' := by
  have h1 : (y * w + x) % w = x := by rw [Nat.mul_comm, Nat.mul_add_mod, Nat.mod_eq_of_lt hx]
  have h2 : (y' * w + x') % w = x' := by rw [Nat.mul_comm, Nat.mul_add_mod, Nat.mod_eq_of_lt hx']
  have e : x = x' := by rw [← h1, h, h2]
  subst e
  exact ⟨rfl, Nat.eq_of_mul_eq_mul_right (show 0 < w by omega) (by omega)⟩
def Vis (d : Nat → Int32) (w q : Nat) (F : Nat → Nat → Int32) (V : Nat → Nat → Prop) : Prop := ∀ x y, x < w → y < q → V x y → d (y * w + x) = F x y
theorem Vis.put {d : Nat → Int32} {w q X Y : Nat} {F : Nat → Nat → Int32} {V V' : Nat → Nat → Prop} {v : Int32} (h : Vis d w q F V) (hX : X < w) (hV : ∀ x y, x < w → y < q → V' x y → V x y ∨ (x = X ∧ y = Y)) (hv : v = F X Y) : Vis (upd d (Y * w + X) v) w q F V' := by
  intro x y hx hy hxy
  show (if y * w + x = Y * w + X then v else d (y * w + x)) = F x y
  by_cases e : y * w + x = Y * w + X
  · obtain ⟨rfl, rfl⟩ := ix_inj hx hX e
    rw [if_pos rfl]; exact hv
  · rw [if_neg e]
    rcases hV x y hx hy hxy with h1 | ⟨rfl, rfl⟩
    · exact h x y hx hy h1
    · exact absurd rfl e
theorem Vis.keep {d : Nat → Int32} {w q X Y : Nat} {F : Nat → Nat → Int32} {V V' : Nat → Nat → Prop} {v : Int32} (h : Vis d w q F V) (hX : X < w) (hV : ∀ x y, x < w → y < q → V' x y → V x y ∧ ¬ (x = X ∧ y = Y)) : Vis (upd d (Y * w + X) v) w q F V' := by
  intro x y hx hy hxy
  show (if y * w + x = Y * w + X then v else d (y * w + x)) = F x y
  obtain ⟨h1, h2⟩ := hV x y hx hy hxy
  rw [if_neg fun e => h2 (ix_inj hx hX e)]
  exact h x y hx hy h1
theorem Vis.imp {d : Nat → Int32} {w q : Nat} {F : Nat → Nat → Int32} {V V' : Nat → Nat → Prop} (h : Vis d w q F V) (hV : ∀ x y, x < w → y < q → V' x y → V x y) : Vis d w q F V' := fun x y hx hy hxy => h x y hx hy (hV x y hx hy hxy)
/-- a place by its number -/
theorem of_ix {w q k : Nat} (hk : k < w * q) : ∃ x y, x < w ∧ y < q ∧ k = y * w + x := by
  have hw : 0 < w := Nat.pos_of_ne_zero fun h => by subst h; omega
  refine ⟨k % w, k / w, Nat.mod_lt _ hw, Nat.div_lt_of_lt_mul hk, ?_⟩
  have := Nat.div_add_mod k w
  rw [Nat.mul_comm (k / w) w]; omega
theorem at_eq {σ : SS} {s w h : Nat} (hw : gI σ s 0 = nI w) (hh : gI σ s 1 = nI h) (hw2 : w ≤ 40) (hh2 : h ≤ 40) (x y : Int32) : fX6_at σ s x y = some (if (0 ≤ x.toInt ∧ x.toInt < w) ∧ 0 ≤ y.toInt ∧ y.toInt < h then gI σ (s + 1) (y.toInt.toNat * w + x.toInt.toNat) else 0) := by
  unfold fX6_at
  by_cases c : (0 ≤ x.toInt ∧ x.toInt < w) ∧ 0 ≤ y.toInt ∧ y.toInt < h
  · rw [if_pos (by rw [has_eq hw hh hw2 hh2]; exact c), if_pos c]
    obtain ⟨X, hX, rfl⟩ := in_of (by omega) c.1
    obtain ⟨Y, hY, rfl⟩ := in_of (by omega) c.2
    have hk := cell_lt hX hY
    have ha := area_le hw2 hh2
    rw [hw, ix_c, grd_eq _ (inb_nI (by omega) (by omega)), nI_clamp (by omega), nI_toInt (by omega), nI_toInt (by omega)]
    rfl
  · rw [if_neg (by rw [has_eq hw hh hw2 hh2]; exact c), if_neg c]
theorem at_in {σ : SS} {s w h X Y : Nat} (hw : gI σ s 0 = nI w) (hh : gI σ s 1 = nI h) (hw2 : w ≤ 40) (hh2 : h ≤ 40) (hX : X < w) (hY : Y < h) : fX6_at σ s (nI X) (nI Y) = some (gI σ (s + 1) (Y * w + X)) := by
  rw [at_eq hw hh hw2 hh2, nI_toInt (by omega), nI_toInt (by omega), if_pos (by omega)]
  rfl
def Spare (s t w q : Nat) (F : Nat → Nat → Int32) (σ σ1 : SS) : Prop := gR σ1 = gR σ ∧ gI σ1 t 0 = nI w ∧ gI σ1 t 1 = nI q ∧ Vis (gI σ1 (t + 1)) w q F (fun _ _ => True) ∧ ∀ c k, c ≠ t → c ≠ t + 1 → c ≠ s + 2 → gI σ1 c k = gI σ c k
def Dots (w q : Nat) (F : Nat → Nat → Int32) (σ σ2 : SS) : Prop := gR σ2 = gR σ ∧ Vis (gI σ2 83) w q F (fun _ _ => True) ∧ (∀ k, k < 1600 → gI σ2 84 k = gI σ 83 k) ∧ ∀ c k, c ≠ 83 → c ≠ 84 → c ≠ 91 → gI σ2 c k = gI σ c k
theorem unlike_eq {σ : SS} {s t w q : Nat} (hw : w ≤ 40) (hq : q ≤ 40) (e1 : gI σ s 0 = nI w) (e2 : gI σ s 1 = nI q) : fX6_unlikeDots σ s t = some (itr (fun i n => if gI σ (s + 1) i = gI σ (t + 1) i then n else n + 1) 0 (w * q)) := by
  have ha := area_le hw hq
  unfold fX6_unlikeDots X6_unlikeDots_L4
  refine lp_2 (fun i => itr (fun i n => if gI σ (s + 1) i = gI σ (t + 1) i then n else n + 1) 0 i) (fun i => nI i) (w * q) _ (fun i hi rec => ?_) (fun rec => ?_) fuel (fuel_gt (by omega))
  · rw [e1, e2, nI_mul, if_neg (nI_ge hi (by omega)), grd_eq _ (inb_nI (by omega) (by omega)), nI_clamp (by omega), nI_1]
    show _ = rec (if gI σ (s + 1) i = gI σ (t + 1) i then _ else _) _
    by_cases c : gI σ (s + 1) i = gI σ (t + 1) i
    · rw [if_pos c, if_pos c]
    · rw [if_neg c, if_neg c]
  · rw [e1, e2, nI_mul, if_pos (nI_le (Nat.le_refl _) (by omega))]
theorem others_eq {σ : SS} {w q : Nat} (hw : w ≤ 40) (hq : q ≤ 40) (e3 : gI σ 73 29 = nI w) (e4 : gI σ 73 30 = nI q) : fX8_others σ = some (itr (fun i n => if gI σ 83 i = gI σ 84 i then n else n + 1) 0 (w * q)) := by
  have ha := area_le hw hq
  unfold fX8_others X8_others_L4
  refine lp_2 (fun i => itr (fun i n => if gI σ 83 i = gI σ 84 i then n else n + 1) 0 i) (fun i => nI i) (w * q) _ (fun i hi rec => ?_) (fun rec => ?_) fuel (fuel_gt (by omega))
  · rw [all_eq e3 e4, if_neg (nI_ge hi (by omega)), grd_eq _ (inb_nI (by omega) (by omega)), nI_clamp (by omega), nI_1]
    simp only [vthen_eq]
    rw [Int32.add_zero]
    show _ = rec (if gI σ 83 i = gI σ 84 i then _ else _) _
    by_cases c : gI σ 83 i = gI σ 84 i
    · rw [if_pos c, if_pos c]
    · rw [if_neg c, if_neg c]
  · rw [all_eq e3 e4, if_pos (nI_le (Nat.le_refl _) (by omega))]
theorem puts_eq {σ : SS} : ∃ d, fX8_puts σ = some (sA σ 84 d) ∧ ∀ k, k < 1600 → d k = gI σ 83 k := by
  suffices hh : WP (fX8_puts (sA σ 84 (gI σ 84))) (fun r => ∃ d, r = sA σ 84 d ∧ ∀ k, k < 1600 → d k = gI σ 83 k) by
    rw [sA_self] at hh
    obtain ⟨r, h1, d, rfl, h2⟩ := hh
    exact ⟨d, h1, h2⟩
  unfold fX8_puts X8_puts_L2
  refine wf_2 1600 (fun i v s => v = nI i ∧ ∃ d, s = sA σ 84 d ∧ ∀ k, k < i → d k = gI σ 83 k) ⟨rfl, _, rfl, fun k hk => absurd hk (by omega)⟩ (by omega) ?_ ?_
  · rintro i _ _ rec hi ⟨rfl, d, rfl, hd⟩ hr
    rw [if_neg (by show ¬ nI 1600 ≤ nI i; exact nI_ge hi (by decide)), grd_eq _ (inb_nI (by omega) (by decide)), vthen_eq, nI_clamp (by omega), gI_A_ne (by omega), sI_A, nI_1]
    refine hr _ _ ⟨rfl, _, rfl, fun k hk => ?_⟩
    show (if k = i then gI σ 83 i else d k) = gI σ 83 k
    by_cases c : k = i
    · rw [if_pos c, c]
    · rw [if_neg c]; exact hd k (by omega)
  · rintro _ _ rec ⟨rfl, d, rfl, hd⟩
    rw [if_pos (by show nI 1600 ≤ nI 1600; exact nI_le (Nat.le_refl _) (by decide))]
    exact wp_some ⟨d, rfl, hd⟩
/-- the two scans exchanged -/
def swp (s t : Nat) (σ : SS) : SS := sR (sR σ 1 2 t) 1 3 s
theorem swp_I (s t : Nat) (σ : SS) : gI (swp s t σ) = gI σ := rfl
theorem swap_eq {s t : Nat} {σ : SS} (h2 : gR σ 1 2 = s) (h3 : gR σ 1 3 = t) : fX7_swapScans σ = some (swp s t σ) := by
  unfold fX7_swapScans
  simp only [vthen_eq]
  rw [h2, h3]
  rfl
theorem RAll.sw {s t f : Nat} {σ σ' : SS} (hst : s = 3 ∧ t = 6 ∨ s = 6 ∧ t = 3) (h : RAll s f σ) (hR : gR σ' = gR (swp s t σ)) (h2 : RScan t σ') (hk : ∀ c k, ¬ (3 ≤ c ∧ c ≤ 8) → c ≠ 83 → c ≠ 84 → c ≠ 91 → ¬ (c = 73 ∧ (k = 29 ∨ k = 30)) → gI σ' c k = gI σ c k) : RAll t f σ' := by
  obtain ⟨⟨g1, g2, g3, g4, g5, g6, g7⟩, r2, r3, r4, r5, r6, r7, r8, r9, r10⟩ := h
  have hR' : ∀ c k, gR σ' c k = if c = 1 ∧ k = 3 then s else if c = 1 ∧ k = 2 then t else gR σ c k := fun c k => by
    rw [hR]; unfold swp; rw [gR_sR, gR_sR]
  refine ⟨⟨by omega, g2, by rw [hR']; rfl, by rw [hR', if_pos ⟨rfl, rfl⟩]; omega, by rw [hR']; exact g5, by rw [hR']; exact g6, by rw [hR']; exact g7.1, by rw [hR']; exact g7.2.1, by rw [hR']; exact g7.2.2⟩, ?_, h2, fun i hi => ?_, ?_, ?_, ?_, ?_, ?_, ?_⟩
  · exact r2.fr (hk _ _ (by omega) (by omega) (by omega) (by omega) (by omega)) (hk _ _ (by omega) (by omega) (by omega) (by omega) (by omega)) (funext fun k => hk _ _ (by omega) (by omega) (by omega) (by omega) (by omega)) (funext fun k => hk _ _ (by omega) (by omega) (by omega) (by omega) (by omega))
  · exact (r4 i hi).fr (funext fun k => hk _ _ (by omega) (by omega) (by omega) (by omega) (by omega)) (funext fun k => hk _ _ (by omega) (by omega) (by omega) (by omega) (by omega)) (funext fun k => hk _ _ (by omega) (by omega) (by omega) (by omega) (by omega)) (funext fun k => hk _ _ (by omega) (by omega) (by omega) (by omega) (by omega)) (funext fun k => hk _ _ (by omega) (by omega) (by omega) (by omega) (by omega))
  · exact r5.fr (funext fun k => hk _ _ (by omega) (by omega) (by omega) (by omega) (by omega)) (funext fun k => hk _ _ (by omega) (by omega) (by omega) (by omega) (by omega))
  · exact r6.fr (funext fun k => hk _ _ (by omega) (by omega) (by omega) (by omega) (by omega)) (funext fun k => hk _ _ (by omega) (by omega) (by omega) (by omega) (by omega)) (funext fun k => hk _ _ (by omega) (by omega) (by omega) (by omega) (by omega)) (funext fun k => hk _ _ (by omega) (by omega) (by omega) (by omega) (by omega))
  · exact r7.fr (hk _ _ (by omega) (by omega) (by omega) (by omega) (by omega)) (hk _ _ (by omega) (by omega) (by omega) (by omega) (by omega))
  · exact r8.fr (fun j hj => funext fun k => hk _ _ (by omega) (by omega) (by omega) (by omega) (by omega)) (hk _ _ (by omega) (by omega) (by omega) (by omega) (by omega)) (hk _ _ (by omega) (by omega) (by omega) (by omega) (by omega)) (fun c h1 h2 => funext fun k => hk _ _ (by omega) (by omega) (by omega) (by omega) (by omega))
  · exact r9.fr (funext fun k => hk _ _ (by omega) (by omega) (by omega) (by omega) (by omega)) (funext fun k => hk _ _ (by omega) (by omega) (by omega) (by omega) (by omega))
  · exact r10.fr (hk _ _ (by omega) (by omega) (by omega) (by omega) (by omega)) (hk _ _ (by omega) (by omega) (by omega) (by omega) (by omega)) (hk _ _ (by omega) (by omega) (by omega) (by omega) (by omega)) (fun c h1 h2 => funext fun k => hk _ _ (by omega) (by omega) (by omega) (by omega) (by omega)) (fun c h1 h2 => funext fun k => hk _ _ (by omega) (by omega) (by omega) (by omega) (by omega))
/-- the spare scan is filled and taken, the reference's dots are alike: the same number of others, and the relation -/
theorem spare_fin {s t f w q : Nat} {F : Nat → Nat → Int32} {σ σ1 σ2 : SS} {v : Int32} (hst : s = 3 ∧ t = 6 ∨ s = 6 ∧ t = 3) (h : RAll s f σ) (hw : 8 ≤ w ∧ w ≤ 40) (hq : 8 ≤ q ∧ q ≤ 40) (e1 : gI σ s 0 = nI w) (e2 : gI σ s 1 = nI q) (e3 : gI σ 73 29 = nI w) (e4 : gI σ 73 30 = nI q) (hd : ∀ k, k < w * q → gI σ (s + 1) k = gI σ 83 k ∧ inR (gI σ 83 k) 0 9) (hF : ∀ x y, x < w → y < q → inR (F x y) 0 9) (hA : Spare s t w q F σ σ1) (hB : Dots w q F (swp s t σ1) σ2) (ho : fX8_others σ2 = some v) : fX7_takeSpare σ1 = some (v, swp s t σ1) ∧ RAll t f σ2 := by
  obtain ⟨a1, a2, a3, a4, a5⟩ := hA
  obtain ⟨b1, b2, b3, b4⟩ := hB
  have hg := h.1
  have r2 : gR σ1 1 2 = s := by rw [a1]; exact hg.2.2.1
  have r3 : gR σ1 1 3 = t := by rw [a1]; have := hg.2.2.2.1; omega
  have ha := area_le hw.2 hq.2
  have al : ∀ i, i < w * q → gI σ1 (t + 1) i = gI σ2 83 i ∧ gI σ1 (s + 1) i = gI σ2 84 i := fun i hi => by
    obtain ⟨x, y, hx, hy, rfl⟩ := of_ix hi
    refine ⟨by rw [a4 x y hx hy trivial, b2 x y hx hy trivial], ?_⟩
    rw [b3 _ (by omega), swp_I, a5 _ _ (by omega) (by omega) (by omega), a5 83 _ (by omega) (by omega) (by omega)]
    exact (hd _ hi).1
  have c3 : gI σ2 73 29 = nI w := by rw [b4 _ _ (by omega) (by omega) (by omega), swp_I, a5 _ _ (by omega) (by omega) (by omega)]; exact e3
  have c4 : gI σ2 73 30 = nI q := by rw [b4 _ _ (by omega) (by omega) (by omega), swp_I, a5 _ _ (by omega) (by omega) (by omega)]; exact e4
  constructor
  · unfold fX7_takeSpare
    rw [r2, r3, bnd1_of _ (unlike_eq hw.2 hq.2 (by rw [a5 _ _ (by omega) (by omega) (by omega)]; exact e1) (by rw [a5 _ _ (by omega) (by omega) (by omega)]; exact e2)), bnd1_of _ (swap_eq r2 r3)]
    rw [others_eq hw.2 hq.2 c3 c4] at ho
    have hv := Option.some.inj ho
    rw [← hv]
    congr 2
    refine itr_congr fun i hi n => ?_
    rw [(al i hi).1, (al i hi).2]
    by_cases c : gI σ2 84 i = gI σ2 83 i
    · rw [if_pos c, if_pos c.symm]
    · rw [if_neg c, if_neg fun e => c e.symm]
  · refine RAll.sw hst h (b1.trans ?_) ⟨w, q, hw, hq, ?_, ?_, c3, c4, fun k hk => ⟨?_, ?_⟩⟩ (fun c k k1 k2 k3 k4 k5 => ?_)
    · funext c k
      show gR (sR (sR σ1 1 2 t) 1 3 s) c k = gR (sR (sR σ 1 2 t) 1 3 s) c k
      rw [gR_sR, gR_sR, gR_sR, gR_sR, a1]
    · rw [b4 _ _ (by omega) (by omega) (by omega)]; exact a2
    · rw [b4 _ _ (by omega) (by omega) (by omega)]; exact a3
    · rw [b4 _ _ (by omega) (by omega) (by omega), swp_I]; exact (al k hk).1
    · obtain ⟨x, y, hx, hy, rfl⟩ := of_ix hk
      rw [b2 x y hx hy trivial]; exact hF x y hx hy
    · rw [b4 _ _ (by omega) (by omega) (by omega), swp_I, a5 _ _ (by omega) (by omega) (by omega)]
