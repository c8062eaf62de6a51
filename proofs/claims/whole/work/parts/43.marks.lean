/-! Marks: the class's. -/
/-- the b-th blob's first dot, its size and sums -/
noncomputable def blS (w q spk : Nat) (ink : Nat → Prop) (b : Nat) : Nat := Classical.epsilon fun st => st < w * q ∧ ql w q spk ink st ∧ nB w q spk ink st = b
noncomputable def zS (w q spk : Nat) (ink : Nat → Prop) (b : Nat) : Nat := szS w q ink (blS w q spk ink b)
noncomputable def zX (w q spk : Nat) (ink : Nat → Prop) (b : Nat) : Nat := gs (Conn w q ink (blS w q spk ink b)) (fun k => k % w) (w * q)
noncomputable def zY (w q spk : Nat) (ink : Nat → Prop) (b : Nat) : Nat := gs (Conn w q ink (blS w q spk ink b)) (fun k => k / w) (w * q)
section BLS
variable {w q spk b : Nat} {ink : Nat → Prop}
theorem blS_p (h : b < nB w q spk ink (w * q)) : blS w q spk ink b < w * q ∧ ql w q spk ink (blS w q spk ink b) ∧ nB w q spk ink (blS w q spk ink b) = b :=
  Classical.epsilon_spec (p := fun st => st < w * q ∧ ql w q spk ink st ∧ nB w q spk ink st = b) (gs_at _ _ h)
theorem gs_bd {m : Nat → Prop} {f : Nat → Nat} {B : Nat} : ∀ N, (∀ k, k < N → f k ≤ B) → gs m f N ≤ B * N
  | 0, _ => Nat.zero_le _
  | N + 1, h => by
    have ih := gs_bd (m := m) N fun k hk => h k (by omega)
    have h1 := h N (by omega)
    have e : B * (N + 1) = B * N + B := by rw [Nat.mul_add, Nat.mul_one]
    by_cases c : m N
    · rw [gs_t c]; omega
    · rw [gs_f c]; omega
theorem z_bd (hw : 1 ≤ w ∧ w ≤ 40) (hq : 1 ≤ q ∧ q ≤ 40) (hspk : 1 ≤ spk) (h : b < nB w q spk ink (w * q)) : (1 ≤ zS w q spk ink b ∧ zS w q spk ink b ≤ 1600) ∧ zX w q spk ink b ≤ 64000 ∧ zY w q spk ink b ≤ 64000 := by
  have hN := area_le hw.2 hq.2
  obtain ⟨h1, h2, h3⟩ := blS_p h
  refine ⟨⟨by have := h2.2; show 1 ≤ szS w q ink (blS w q spk ink b); omega, Nat.le_trans (gs_le _) hN⟩, ?_, ?_⟩
  · refine Nat.le_trans (gs_bd (B := 40) _ fun k hk => ?_) (by omega)
    have : k % w < w := Nat.mod_lt _ (by omega)
    omega
  · refine Nat.le_trans (gs_bd (B := 40) _ fun k hk => ?_) (by omega)
    have : k / w < q := Nat.div_lt_of_lt_mul hk
    omega
theorem nB_le (hw : w ≤ 40) (hq : q ≤ 40) : nB w q spk ink (w * q) ≤ 800 := by
  have := st_few (m := ql w q spk ink) hw (fun k h => h.1) q (Nat.le_refl _)
  rw [Nat.mul_comm q w] at this
  show gs _ _ _ ≤ _; omega
end BLS
/-- one step of the search for the nearest -/
def nrS (w q : Nat) (s x y : Nat → Nat) (cx cy : Int64) (mk : Int32) (b : Nat) (r : Int32 × Int64 × Int64) : Int32 × Int64 × Int64 :=
  if nI (s b) < mk then r else
    if r.1 < 0 then (nI b, (lN (x b) - lN (s b) * cx) * (lN (x b) - lN (s b) * cx) + (lN (y b) - lN (s b) * cy) * (lN (y b) - lN (s b) * cy), lN (s b) * lN (s b))
    else if 0 ≤ lg_cmp (((lN (x b) - lN (s b) * cx) * (lN (x b) - lN (s b) * cx) + (lN (y b) - lN (s b) * cy) * (lN (y b) - lN (s b) * cy)) * r.2.2) (r.2.1 * (lN (s b) * lN (s b))) then r
    else (nI b, (lN (x b) - lN (s b) * cx) * (lN (x b) - lN (s b) * cx) + (lN (y b) - lN (s b) * cy) * (lN (y b) - lN (s b) * cy), lN (s b) * lN (s b))
def nrR (w q : Nat) (s x y : Nat → Nat) (cx cy : Int64) (mk : Int32) (n : Nat) : Int32 × Int64 × Int64 := itr (nrS w q s x y cx cy mk) (-1, 0, 1) n
def crX (w k : Nat) : Nat := if k % 2 = 0 then 0 else w - 1
def crY (q k : Nat) : Nat := if k / 2 = 0 then 0 else q - 1
noncomputable def mkB (w q spk : Nat) (mk : Int32) (ink : Nat → Prop) (k : Nat) : Int32 := (nrR w q (zS w q spk ink) (zX w q spk ink) (zY w q spk ink) (lN (crX w k)) (lN (crY q k)) mk (nB w q spk ink (w * q))).1
/-- up to k, each mark is there and another blob -/
def frU (B : Nat → Int32) (n : Nat) : Prop := ∀ k, k < n → 0 ≤ B k ∧ ∀ i, i < k → ¬ B i = B k
theorem nrR_rng {w q : Nat} {s x y : Nat → Nat} {cx cy : Int64} {mk : Int32} : ∀ n, n ≤ 1000 → (nrR w q s x y cx cy mk n).1 = -1 ∨ ∃ b, b < n ∧ (nrR w q s x y cx cy mk n).1 = nI b ∧ (nrR w q s x y cx cy mk n).2.2 = lN (s b) * lN (s b)
  | 0, _ => Or.inl rfl
  | n + 1, hn => by
    have ih := nrR_rng (w := w) (q := q) (s := s) (x := x) (y := y) (cx := cx) (cy := cy) (mk := mk) n (by omega)
    have e : nrR w q s x y cx cy mk (n + 1) = nrS w q s x y cx cy mk n (nrR w q s x y cx cy mk n) := rfl
    rw [e]
    generalize nrR w q s x y cx cy mk n = r at ih ⊢
    have keep : r.1 = -1 ∨ ∃ b, b < n + 1 ∧ r.1 = nI b ∧ r.2.2 = lN (s b) * lN (s b) := ih.imp id fun ⟨b, h1, h2⟩ => ⟨b, by omega, h2⟩
    unfold nrS
    split
    · exact keep
    · split
      · exact Or.inr ⟨n, by omega, rfl, rfl⟩
      · split
        · exact keep
        · exact Or.inr ⟨n, by omega, rfl, rfl⟩
section NEAR7
variable {σ : SS} {w q n : Nat} {s x y : Nat → Nat} {mk : Int32}
theorem nearest7 {X Y : Nat} (hX : X < 100) (hY : Y < 100) (hn : n ≤ 800) (e33 : gI σ 33 0 = nI n) (hz : ∀ b, b < n → gI σ 34 b = nI (s b) ∧ gI σ 35 b = nI (x b) ∧ gI σ 36 b = nI (y b)) (hb : ∀ b, b < n → s b < 2 ^ 31 ∧ x b < 2 ^ 31 ∧ y b < 2 ^ 31) : fX0_nearest σ (nI X) (nI Y) mk = some (nrR w q s x y (lN X) (lN Y) mk n).1 := by
  unfold fX0_nearest X0_nearest_L12
  refine lp_4 (fun i => (nrR w q s x y (lN X) (lN Y) mk i).1) (fun i => (nrR w q s x y (lN X) (lN Y) mk i).2.1) (fun i => (nrR w q s x y (lN X) (lN Y) mk i).2.2) (fun i => nI i) n _ (fun i hi rec => ?_) (fun rec => ?_) fuel (fuel_gt (by omega))
  · obtain ⟨h1, h2, h3⟩ := hz i hi
    obtain ⟨l1, l2, l3⟩ := hb i hi
    have e : nrR w q s x y (lN X) (lN Y) mk (i + 1) = nrS w q s x y (lN X) (lN Y) mk i (nrR w q s x y (lN X) (lN Y) mk i) := rfl
    rw [e]
    simp only [vthen_q]
    rw [e33, if_neg (nI_ge hi (by omega)), grd_eq _ (inb_nI (by omega) (by decide)), nI_clamp (by omega), h1, h2, h3, nI_l l1, nI_l l2, nI_l l3, nI_l (by omega), nI_l (by omega), nI_1]
    generalize nrR w q s x y (lN X) (lN Y) mk i = r
    unfold nrS
    by_cases c1 : nI (s i) < mk
    · rw [if_pos c1, if_pos c1]
    rw [if_neg c1, if_neg c1]
    by_cases c2 : r.1 < 0
    · rw [if_pos c2, if_pos c2]
    rw [if_neg c2, if_neg c2]
    by_cases c3 : 0 ≤ lg_cmp (((lN (x i) - lN (s i) * lN X) * (lN (x i) - lN (s i) * lN X) + (lN (y i) - lN (s i) * lN Y) * (lN (y i) - lN (s i) * lN Y)) * r.2.2) (r.2.1 * (lN (s i) * lN (s i)))
    · rw [if_pos c3, if_pos c3]
    · rw [if_neg c3, if_neg c3]
  · rw [e33, if_pos (nI_le (Nat.le_refl _) (by omega))]
end NEAR7
theorem four7 {σ : SS} {B : Nat → Int32} (hB : ∀ k, k < 4 → gI σ 44 k = B k) : WP (fX3_marksAreFour σ) (fun b => b = true ↔ frU B 4) := by
  unfold fX3_marksAreFour X3_marksAreFour_L2
  refine wf_1 4 (fun k v => v = nI k ∧ frU B k) ⟨rfl, fun k hk => absurd hk (by omega)⟩ (by omega) ?_ ?_
  · rintro k _ rec hk ⟨rfl, hf⟩ hr
    rw [if_neg (by show ¬ nI 4 ≤ nI k; exact nI_ge hk (by decide)), nI_clamp (by omega), hB k hk]
    refine wp_grd (inb_nI (by omega) (by decide)) (wp_if (fun h0 => ?_) fun h0 => wp_some ?_)
    · unfold X3_marksAreFour_L20
      refine wf_1 k (fun i v => v = nI i ∧ ∀ i', i' < i → ¬ B i' = B k) ⟨rfl, fun i hi => absurd hi (by omega)⟩ (by omega) ?_ ?_
      · rintro i _ rec2 hi ⟨rfl, hi2⟩ hr2
        rw [if_neg (nI_ge hi (by omega)), nI_clamp (by omega), nI_clamp (by omega), hB k hk, hB i (by omega), nI_1]
        refine wp_grd (inb_nI (by omega) (by decide)) (wp_grd (inb_nI (by omega) (by decide)) (wp_if (fun h1 => wp_some ?_) fun h1 => hr2 _ ⟨rfl, fun i' hi' => ?_⟩))
        · exact ⟨fun h => absurd h (by decide), fun h => absurd h1 ((h k hk).2 i hi)⟩
        · by_cases e : i' = i
          · subst e; exact h1
          · exact hi2 i' (by omega)
      · rintro _ rec2 ⟨rfl, hi2⟩
        rw [if_pos (nI_le (Nat.le_refl _) (by omega)), nI_1]
        refine hr _ ⟨rfl, fun j hj => ?_⟩
        by_cases e : j = k
        · subst e; exact ⟨h0, hi2⟩
        · exact hf j (by omega)
    · exact ⟨fun h => absurd h (by decide), fun h => absurd (h k hk).1 h0⟩
  · rintro _ rec ⟨rfl, hf⟩
    rw [if_pos (by decide)]
    exact wp_some ⟨fun _ => hf, fun _ => rfl⟩
/-- the class's marks as they are told: their numbers, and the three rows of longs -/
theorem locate7 {σ : SS} {s w q spk : Nat} {mk : Int32} {ink : Nat → Prop} (hs : s = 3 ∨ s = 6) (hw : 8 ≤ w ∧ w ≤ 40) (hq : 8 ≤ q ∧ q ≤ 40) (e1 : gI σ s 0 = nI w) (e2 : gI σ s 1 = nI q) (hink : ∀ k, k < w * q → (gI σ 32 0 ≤ gI σ (s + 1) k ↔ ink k)) (e32 : gI σ 32 1 = nI spk) (hspk : 1 ≤ spk ∧ spk ≤ 20) (emk : gI σ 32 2 = mk) : WP (fX3_locate σ s) (fun r => (r.1 = true ↔ frU (mkB w q spk mk ink) 4) ∧ gR r.2 = gR σ ∧ (∀ c k, ¬ (33 ≤ c ∧ c ≤ 44) → gI r.2 c k = gI σ c k) ∧ (∀ k, k < 4 → gI r.2 44 k = mkB w q spk mk ink k) ∧ (frU (mkB w q spk mk ink) 4 → ∀ k, k < 4 → ∃ b, b < nB w q spk ink (w * q) ∧ mkB w q spk mk ink k = nI b ∧ gL r.2 46 k = lN (zX w q spk ink b) ∧ gL r.2 47 k = lN (zY w q spk ink b) ∧ gL r.2 48 k = lN (zS w q spk ink b))) := by
  obtain ⟨r1, x1, a1, a2, a3, a4⟩ := find7 (σ := σ) (lvl := gI σ 32 0) hs ⟨by omega, hw.2⟩ ⟨by omega, hq.2⟩ e1 e2 hink hspk
  have hn8 := nB_le (spk := spk) (ink := ink) hw.2 hq.2
  have hz : ∀ b, b < nB w q spk ink (w * q) → gI r1 34 b = nI (zS w q spk ink b) ∧ gI r1 35 b = nI (zX w q spk ink b) ∧ gI r1 36 b = nI (zY w q spk ink b) := fun b hb => by
    obtain ⟨h1, h2, h3⟩ := blS_p hb
    obtain ⟨⟨u0, u1, u2⟩, -⟩ := a4 _ h1 h2
    rw [h3] at u0 u1 u2
    exact ⟨u0, u1, u2⟩
  have hzb := fun b (hb : b < nB w q spk ink (w * q)) => z_bd (spk := spk) (ink := ink) ⟨by omega, hw.2⟩ ⟨by omega, hq.2⟩ hspk.1 hb
  have hl : ∀ b, b < nB w q spk ink (w * q) → zS w q spk ink b < 2 ^ 31 ∧ zX w q spk ink b < 2 ^ 31 ∧ zY w q spk ink b < 2 ^ 31 := fun b hb => by
    obtain ⟨⟨_, h1⟩, h2, h3⟩ := hzb b hb
    exact ⟨by omega, by omega, by omega⟩
  unfold fX3_locate
  rw [e32, bnd1_of _ x1]
  unfold X3_locate_L22
  refine wf_2 4 (fun k v s' => v = nI k ∧ gR s' = gR r1 ∧ (∀ c k, c ≠ 44 → gI s' c k = gI r1 c k) ∧ ∀ j, j < k → gI s' 44 j = mkB w q spk mk ink j) ⟨rfl, rfl, fun _ _ _ => rfl, fun j hj => absurd hj (by omega)⟩ (by omega) ?_ ?_
  · rintro k _ s' rec hk ⟨rfl, i1, i2, i3⟩ hr
    rw [if_neg (by show ¬ nI 4 ≤ nI k; exact nI_ge hk (by decide)), show irm (nI k) (2 : Int32) = nI (k % 2) from rem_nI (w := 2) (by omega) (by omega) (by omega), show nI k / (2 : Int32) = nI (k / 2) from pk_div (d := 2) (by omega) (by omega) (by omega)]
    refine wp_vk1 (fun v => v = nI (crX w k)) ?_ fun j hj => ?_
    · rintro _ rfl
      refine wp_vk1 (fun v => v = nI (crY q k)) ?_ fun j hj => ?_
      · rintro _ rfl
        have lx : crX w k < 100 := by unfold crX; split <;> omega
        have ly : crY q k < 100 := by unfold crY; split <;> omega
        rw [i2 32 2 (by omega), a2 32 2 (by omega), emk, bnd1_of _ (nearest7 (w := w) (q := q) (s := zS w q spk ink) (x := zX w q spk ink) (y := zY w q spk ink) (mk := mk) lx ly hn8 (by rw [i2 _ _ (by omega)]; exact a3) (fun b hb => by rw [i2 _ _ (by omega), i2 _ _ (by omega), i2 _ _ (by omega)]; exact hz b hb) hl), nI_clamp (by omega), nI_1]
        refine wp_grd (inb_nI (by omega) (by decide)) ?_
        refine wp_vv ?_; intro s2 g2
        refine hr _ _ ⟨rfl, by rw [g2]; exact i1, fun c k hc => by rw [g2, gI_ne hc]; exact i2 c k hc, fun j hj => ?_⟩
        rw [g2]
        by_cases e : j = k
        · subst e; rw [gI_eq]; rfl
        · rw [gI_nk (by omega)]; exact i3 j (by omega)
      · unfold crY at hj
        by_cases c : k / 2 = 0
        · rw [if_pos (by rw [c]; rfl)]; exact hj _ (by rw [if_pos c]; rfl)
        · rw [if_neg (nI_ne0 (by omega) (by omega)), i2 _ _ (by omega), a2 _ _ (by omega), e2]
          exact hj _ (by rw [if_neg c]; exact nI_sub (a := q) (b := 1) (by omega))
    · unfold crX at hj
      by_cases c : k % 2 = 0
      · rw [if_pos (by rw [c]; rfl)]; exact hj _ (by rw [if_pos c]; rfl)
      · rw [if_neg (nI_ne0 (by omega) (by omega)), i2 _ _ (by omega), a2 _ _ (by omega), e1]
        exact hj _ (by rw [if_neg c]; exact nI_sub (a := w) (b := 1) (by omega))
  · rintro _ s' rec ⟨rfl, i1, i2, i3⟩
    rw [if_pos (by decide)]
    have fr : ∀ c k, ¬ (33 ≤ c ∧ c ≤ 44) → gI s' c k = gI σ c k := fun c k hc => by rw [i2 c k (by omega), a2 c k (by omega)]
    refine wp_bnd1 (four7 i3) fun b hb => ?_
    refine wp_if (fun h1 => ?_) fun h1 => wp_some ⟨⟨fun h => absurd (show false = true from h) (by decide), fun h => absurd (hb.mpr h) h1⟩, i1.trans a1, fr, i3, fun h => absurd (hb.mpr h) h1⟩
    have hfour := hb.mp h1
    have hbk : ∀ k, k < 4 → ∃ b, b < nB w q spk ink (w * q) ∧ mkB w q spk mk ink k = nI b := fun k hk => by
      rcases nrR_rng (w := w) (q := q) (s := zS w q spk ink) (x := zX w q spk ink) (y := zY w q spk ink) (cx := lN (crX w k)) (cy := lN (crY q k)) (mk := mk) (nB w q spk ink (w * q)) (by omega) with h | ⟨b, h2, h3, -⟩
      · have := (hfour k hk).1
        unfold mkB at this
        rw [h] at this
        exact absurd this (by decide)
      · exact ⟨b, h2, h3⟩
    unfold X3_locate_L101
    refine wf_2 4 (fun k v s7 => v = nI k ∧ gR s7 = gR s' ∧ (∀ c k, gI s7 c k = gI s' c k) ∧ ∀ j, j < k → ∃ b, b < nB w q spk ink (w * q) ∧ mkB w q spk mk ink j = nI b ∧ gL s7 46 j = lN (zX w q spk ink b) ∧ gL s7 47 j = lN (zY w q spk ink b) ∧ gL s7 48 j = lN (zS w q spk ink b)) ⟨rfl, rfl, fun _ _ => rfl, fun j hj => absurd hj (by omega)⟩ (by omega) ?_ ?_
    · rintro k _ s7 rec7 hk ⟨rfl, l1, l2, l3⟩ hr7
      obtain ⟨b, hb1, hb2⟩ := hbk k hk
      obtain ⟨z1, z2, z3⟩ := hz b hb1
      obtain ⟨p1, p2, p3⟩ := hl b hb1
      rw [if_neg (by show ¬ nI 4 ≤ nI k; exact nI_ge hk (by decide)), nI_clamp (by omega), l2 44 k, i3 k hk, hb2, nI_1]
      refine wp_grd (inb_nI (by omega) (by decide)) ?_
      refine wp_v (wp_grd (inb_nI (by omega) (by decide)) ?_)
      rw [nI_clamp (by omega), l2 35, l2 36, l2 34, i2 _ _ (by omega), i2 _ _ (by omega), i2 _ _ (by omega), z1, z2, z3, nI_l p1, nI_l p2, nI_l p3]
      unfold fX5_put
      simp only [vthen_q]
      rw [grd_eq _ (inb_nI (by omega) (by decide)), nI_clamp (by omega), bnd1_some]
      refine hr7 _ _ ⟨rfl, l1, l2, fun j hj => ?_⟩
      by_cases e : j = k
      · subst e
        exact ⟨b, hb1, hb2, by rw [gL_sL, if_neg (by omega), gL_sL, if_neg (by omega), gL_sL, if_pos ⟨rfl, rfl⟩], by rw [gL_sL, if_neg (by omega), gL_sL, if_pos ⟨rfl, rfl⟩], by rw [gL_sL, if_pos ⟨rfl, rfl⟩]⟩
      · obtain ⟨b', k1, k2, k3, k4, k5⟩ := l3 j (by omega)
        refine ⟨b', k1, k2, ?_, ?_, ?_⟩
        · rw [gL_sL, if_neg (by omega), gL_sL, if_neg (by omega), gL_sL, if_neg (by omega)]; exact k3
        · rw [gL_sL, if_neg (by omega), gL_sL, if_neg (by omega), gL_sL, if_neg (by omega)]; exact k4
        · rw [gL_sL, if_neg (by omega), gL_sL, if_neg (by omega), gL_sL, if_neg (by omega)]; exact k5
    · rintro _ s7 rec7 ⟨rfl, l1, l2, l3⟩
      rw [if_pos (by decide)]
      exact wp_some ⟨⟨fun _ => hfour, fun _ => rfl⟩, (l1.trans i1).trans a1, fun c k hc => by rw [l2]; exact fr c k hc, fun k hk => by rw [l2]; exact i3 k hk, fun _ => l3⟩
