/-! Print kept. -/
def Dg (G : Nat → Nat → Int32) : Prop := ∀ x y, inR (G x y) 0 9
theorem itr_P {S : Type} {P : S → Prop} {f : Nat → S → S} {s : S} (h0 : P s) (hs : ∀ i s, P s → P (f i s)) : ∀ n, P (itr f s n)
  | 0 => h0
  | n + 1 => hs n _ (itr_P h0 hs n)
theorem rn_in {v : Int32} {G : Nat → Nat → Int32} {X Y i j : Nat} (hv : inR v 0 9) (hG : Dg G) : Dg (rnF v G X Y i j) := by
  intro x y
  unfold rnF
  by_cases c : (X ≤ x + 1 ∧ x ≤ X + 1 ∧ Y ≤ y + 1 ∧ y < j) ∨ (y = j ∧ X ≤ x + 1 ∧ x < i)
  · rw [if_pos c]; exact hv
  · rw [if_neg c]; exact hG x y
theorem pr_in {cx cy : Nat → Nat} : ∀ k, Dg (prF cx cy k)
  | 0 => fun _ _ => ⟨by show (0 : Int) ≤ (0 : Int32).toInt; decide, by show (0 : Int32).toInt ≤ 9; decide⟩
  | k + 1 => rn_in ⟨by decide, by decide⟩ (pr_in k)
theorem pt_in {w q : Nat} {v xx yy : Int32} {G : Nat → Nat → Int32} (hv : inR v 0 9) (hG : Dg G) : Dg (ptF w q v xx yy G) := by
  intro x y
  unfold ptF
  by_cases c : ((0 ≤ xx.toInt ∧ xx.toInt < w) ∧ 0 ≤ yy.toInt ∧ yy.toInt < q) ∧ x = xx.toInt.toNat ∧ y = yy.toInt.toNat
  · rw [if_pos c]; exact hv
  · rw [if_neg c]; exact hG x y
theorem al_in {w q U2 V2 A B : Nat} {v : Int32} {T : Nat → Int32} {X Y S cx cy N : Nat → Nat} {G : Nat → Nat → Int32} (hv : inR v 0 9) (hG : Dg G) (n : Nat) : Dg (alF w q v X Y S U2 V2 A B T cx cy N G n) := by
  unfold alF
  refine itr_P (P := Dg) hG (fun p G hG => ?_) n
  unfold bqF
  refine itr_P (P := Dg) hG (fun i G hG => ?_) _
  by_cases c : ((T p >>> (nI i &&& 31)) &&& (1 : Int32)) = (1 : Int32)
  · rw [if_pos c]
    unfold bxF
    refine itr_P (P := Dg) hG (fun j G hG => ?_) _
    unfold rwF
    exact itr_P (P := Dg) hG (fun i G hG => pt_in hv hG) _
  · rw [if_neg c]; exact hG
theorem op32 : ∀ a σ, Rel σ → st32 Rel a σ := by
  intro a σ ⟨s, f, h⟩
  obtain ⟨hs, hf, hR1, -, hR5, -⟩ := id h.1
  have hC := h.2.2.2.2.2.1
  have h9 := h.2.2.2.2.2.2.2.2.1
  have z1 : (1 : Int32).toInt = 1 := rfl
  have z9 : (9 : Int32).toInt = 9 := rfl
  rcases h.2.2.2.2.2.2.2.1.told with ⟨t1, t2, t3, t4⟩ | ⟨t1, t2⟩
  · refine ⟨-1, σ, σ, ?_, ?_, s, f, h⟩
    · unfold fX7_print; rw [hR5, t1, if_pos rfl]
    · unfold fX8_print; rw [t2, if_pos rfl]
  by_cases hv : 1 ≤ (a 1).toInt ∧ (a 1).toInt ≤ 9
  case neg =>
    refine ⟨-1, σ, σ, ?_, ?_, s, f, h⟩
    · unfold fX7_print
      rw [hR5, t1, if_neg (by decide)]
      by_cases c : a 1 < (1 : Int32)
      · rw [if_pos c]
      · rw [if_neg c, if_neg (c := a 1 ≤ (9 : Int32)) (by rw [lt_i, z1] at c; rw [le_i, z9]; omega)]
    · unfold fX8_print
      rw [t2, if_neg (by decide), if_neg (c := fX8_in σ (a 1) (1 : Int32) (9 : Int32) = true) (by rw [in_eq, le_i, le_i, z1, z9]; omega)]
  obtain ⟨w, q, spk, b, U, V, A, B, Q, N, cx, cy, h7, h8, e5, -, hF⟩ := h.ctx t1
  obtain ⟨-, -, hw, hq, -, e1, e2, -, -, -, -, hU, hV, hA, hB, hT, g1, g2, g3, g4, g6, hc⟩ := id h7
  obtain ⟨-, -, -, e3, e4, -, -, -, -, -, -, -, -, hQ, hHd, hN⟩ := id h8
  have i7 : a 1 < (1 : Int32) ↔ False := ⟨fun z => by rw [lt_i, z1] at z; omega, False.elim⟩
  have j7 : a 1 ≤ (9 : Int32) := by rw [le_i, z9]; omega
  have i8 : ∀ t, fX8_in t (a 1) (1 : Int32) (9 : Int32) = true := fun t => by rw [in_eq, le_i, le_i, z1, z9]; omega
  by_cases hk : ∀ k, k < 4 → okC σ w q k
  case neg =>
    refine ⟨-2, σ, σ, ?_, ?_, s, f, h⟩
    · unfold fX7_print
      rw [hR5, t1, if_neg (by decide), if_neg i7.mp, if_pos j7, (chk7 hw hq e1 e2 hC hR1).2 hk]
    · unfold fX8_print
      rw [t2, if_neg (by decide), if_pos (i8 σ), (chk8 (σ := σ) hw hq e3 e4 rfl rfl).2 hk]
  obtain ⟨CX, CY, hCX⟩ : ∃ CX CY : Nat → Nat, ∀ k, k < 4 → gI σ 89 k = nI (CX k) ∧ gI σ 90 k = nI (CY k) ∧ (1 ≤ CX k ∧ CX k + 2 ≤ w) ∧ 1 ≤ CY k ∧ CY k + 2 ≤ q := by
    refine ⟨fun k => (gI σ 89 k).toNatClampNeg, fun k => (gI σ 90 k).toNatClampNeg, fun k hk4 => ?_⟩
    obtain ⟨⟨o1, o2⟩, o3, o4⟩ := hk k hk4
    obtain ⟨m, hm, em⟩ := in_of (x := gI σ 89 k) (w := 40) (by omega) (by omega)
    obtain ⟨n, hn, en⟩ := in_of (x := gI σ 90 k) (w := 40) (by omega) (by omega)
    rw [em, nI_toInt (by omega)] at o1 o2
    rw [en, nI_toInt (by omega)] at o3 o4
    dsimp only
    rw [em, en, nI_clamp (by omega), nI_clamp (by omega)]
    exact ⟨rfl, rfl, by omega, by omega⟩
  have hS1 : ∀ k, k < 4 → 1 ≤ (fun _ : Nat => 1) k ∧ (fun _ : Nat => 1) k ≤ 1600 := fun k _ => ⟨Nat.le_refl 1, by show 1 ≤ 1600; omega⟩
  have har := area_le hw.2 hq.2
  have hh7 : WP (fX7_print σ (a 1)) (fun r => r.1 = itr (fun i n => if gI r.2 (s + 1) i < 1 then n else n + 1) 0 (w * q) ∧ gR r.2 = gR σ ∧ (∀ c k, c ≠ s → c ≠ s + 1 → c ≠ 45 → gI r.2 c k = gI σ c k) ∧ gI r.2 s 0 = nI w ∧ gI r.2 s 1 = nI q ∧ Vis (gI r.2 (s + 1)) w q (alF w q (a 1) CX CY (fun _ => 1) (2 * U) (2 * V) A B (gI σ 30) cx cy N (prF CX CY 4) Q) fun _ _ => True) := by
    have em : fX6_empty σ s (nI w) (nI q) = some (flI (sI (sI σ s 0 (nI w)) s 1 (nI q)) (s + 1) 1600 0) := by
      unfold fX6_empty; rw [vthen_q, vthen_q, vthen_q]
    unfold fX7_print
    rw [hR5, t1, if_neg (by decide), if_neg i7.mp, if_pos j7, (chk7 hw hq e1 e2 hC hR1).1 hk]
    rw [hR1, e1, e2, bnd1_of _ em]
    have k0 : ∀ c, c ≠ s → c ≠ s + 1 → gI (flI (sI (sI σ s 0 (nI w)) s 1 (nI q)) (s + 1) 1600 0) c = gI σ c := fun c c1 c2 => by rw [gI_fl_ne c2, gI_ne c1, gI_ne c1]
    have k1 : gI (flI (sI (sI σ s 0 (nI w)) s 1 (nI q)) (s + 1) 1600 0) s 0 = nI w := by rw [gI_fl_ne (by omega), gI_nk (by omega), gI_eq]
    have k2 : gI (flI (sI (sI σ s 0 (nI w)) s 1 (nI q)) (s + 1) 1600 0) s 1 = nI q := by rw [gI_fl_ne (by omega), gI_eq]
    refine puts7 (cx := CX) (cy := CY) hw.2 hq.2 hs k1 k2 hR1 (fun k hk4 => ?_) (fun x y hx hy _ => ?_) (fun t x1 x2 x3 x4 => ?_)
    · obtain ⟨c1, c2, -⟩ := hC k hk4
      rw [k0 28 (by omega) (by omega), k0 29 (by omega) (by omega), c1, c2]
      exact hCX k hk4
    · have hl := cell_lt hx hy
      rw [gI_fl (by omega)]; rfl
    · have y5 : gR t 1 5 = f := by rw [x1]; exact hR5
      have y2 : gR t 1 2 = s := by rw [x1]; exact hR1
      rw [y5, x2 f (by omega), k0 f (by omega) (by omega), g1, g2]
      refine wp_bnd1 (spread7 (X := CX) (Y := CY) (S := fun _ => 1) x4 hU.2 hV.2) ?_
      rintro r ⟨a1, a2, a3⟩
      have kk : ∀ c k, c ≠ s → c ≠ s + 1 → c ≠ 45 → gI r c k = gI σ c k := fun c k c1 c2 c3 => by rw [a2 c k c3, x2 c c2, k0 c c1 c2]
      have ks : ∀ k, gI r s k = gI (flI (sI (sI σ s 0 (nI w)) s 1 (nI q)) (s + 1) 1600 0) s k := fun k => by rw [a2 s k (by omega), x2 s (by omega)]
      refine wp_imp (ticks7 (T := gI σ 30) (N := N) (cx := cx) (cy := cy) (A := A) (B := B) hs hf hw.2 hq.2 (by omega) (by omega) hQ hT (by rw [a1]; exact y2) (by rw [a1]; exact y5) (by rw [ks]; exact k1) (by rw [ks]; exact k2) (by rw [kk _ _ (by omega) (by omega) (by omega)]; exact g3) (by rw [kk _ _ (by omega) (by omega) (by omega)]; exact g4) (by rw [kk _ _ (by omega) (by omega) (by omega)]; exact e5) (fun p hp => ?_) (fun k hk' => ?_) hS1 a3 (G := prF CX CY 4) ?_) ?_
      · obtain ⟨f2, f3, -⟩ := hF p hp
        rw [kk _ _ (by omega) (by omega) (by omega), kk _ _ (by omega) (by omega) (by omega), kk _ _ (by omega) (by omega) (by omega)]
        exact ⟨(hN p hp).1.2, f2, f3, rfl⟩
      · rw [kk _ _ (by omega) (by omega) (by omega), kk _ _ (by omega) (by omega) (by omega)]
        exact hc k hk'
      · rw [show gI r (s + 1) = gI t (s + 1) from funext fun k => a2 _ _ (by omega)]; exact x3
      · rintro _ ⟨d, rfl, hd⟩
        dsimp only
        refine ⟨by rw [gI_A], (show gR r = gR σ from a1.trans x1), fun c k c1 c2 c3 => by rw [gI_A_ne c2]; exact kk c k c1 c2 c3, by rw [gI_A_ne (by omega), ks]; exact k1, by rw [gI_A_ne (by omega), ks]; exact k2, by rw [gI_A]; exact hd⟩
  obtain ⟨⟨v1, r1⟩, y1, y2, y3, y4, y5, y6, y7⟩ := hh7
  dsimp only at y2 y3 y4 y5 y6 y7
  have hv9 : inR (a 1) 0 9 := ⟨by omega, by omega⟩
  have hh8 : WP (fX8_print r1 (a 1)) (fun r => r.1 = itr (fun i n => if gI r1 (s + 1) i < 1 then n else n + 1) 0 (w * q) ∧ gR r.2 = gR r1 ∧ (∀ c k, c ≠ 83 → gI r.2 c k = gI r1 c k) ∧ alk (w * q) (gI r1 (s + 1)) (gI r.2 83)) := by
    have f8 : ∀ c k, c ≠ s → c ≠ s + 1 → c ≠ 45 → gI r1 c k = gI σ c k := y4
    have e3' : gI r1 73 29 = nI w := by rw [f8 _ _ (by omega) (by omega) (by omega)]; exact e3
    have e4' : gI r1 73 30 = nI q := by rw [f8 _ _ (by omega) (by omega) (by omega)]; exact e4
    unfold fX8_print
    rw [f8 73 12 (by omega) (by omega) (by omega), t2, if_neg (by decide), if_pos (i8 r1), (chk8 (σ := σ) hw hq e3' e4' (funext fun k => f8 _ _ (by omega) (by omega) (by omega)) (funext fun k => f8 _ _ (by omega) (by omega) (by omega))).1 hk]
    rw [bnd1_of _ (clears_eq r1)]
    have k0 : ∀ c k, c ≠ 83 → gI (flI r1 83 1600 0) c k = gI r1 c k := fun c k c1 => by rw [gI_fl_ne c1]
    refine puts8' (cx := CX) (cy := CY) hw.2 hq.2 (by rw [k0 _ _ (by omega)]; exact e3') (fun k hk4 => ?_) (fun x y hx hy _ => ?_) (fun t x1 x2 x3 x4 => ?_)
    · rw [k0 _ _ (by omega), k0 _ _ (by omega), f8 _ _ (by omega) (by omega) (by omega), f8 _ _ (by omega) (by omega) (by omega)]
      exact hCX k hk4
    · have hl := cell_lt hx hy
      rw [gI_fl (by omega)]; rfl
    · have kk : ∀ c k, c ≠ s → c ≠ s + 1 → c ≠ 45 → c ≠ 83 → gI t c k = gI σ c k := fun c k c1 c2 c3 c4 => by rw [x2 c c4, k0 c k c4, f8 c k c1 c2 c3]
      refine ticks8 (X := CX) (Y := CY) (S := fun _ => 1) (T := gI σ 30) (N := N) (cx := cx) (cy := cy) (A := A) (B := B) (G := prF CX CY 4) (by omega) (by omega) (by omega) (by omega) hQ (hHd.fr (fun k _ => kk _ _ (by omega) (by omega) (by omega) (by omega)) (fun k => kk _ _ (by omega) (by omega) (by omega) (by omega))) (by rw [kk _ _ (by omega) (by omega) (by omega) (by omega)]; exact e3) (by rw [kk _ _ (by omega) (by omega) (by omega) (by omega)]; exact e4) x4 hS1 (fun p hp => ?_) x3 (fun t2 u1 u2 u3 => ?_)
      · obtain ⟨⟨n1, n2⟩, n3, n4⟩ := hN p hp
        refine ⟨n2, by rw [kk _ _ (by omega) (by omega) (by omega) (by omega)]; exact n3, by rw [kk _ _ (by omega) (by omega) (by omega) (by omega)]; exact (h9 p (by omega)).1.symm, fun i hi => ?_⟩
        rw [kk _ _ (by omega) (by omega) (by omega) (by omega), kk _ _ (by omega) (by omega) (by omega) (by omega)]
        exact n4 i hi
      · have hal : alk (w * q) (gI r1 (s + 1)) (gI t2 83) := fun i hi => by
          obtain ⟨x, y, hx, hy, rfl⟩ := of_ix hi
          rw [y7 x y hx hy trivial, u3 x y hx hy trivial]
          exact ⟨rfl, al_in hv9 (pr_in 4) Q x y⟩
        rw [cnt8 (σ := r1) (s := s) hw.2 hq.2 (by rw [u2 _ _ (by omega), kk _ _ (by omega) (by omega) (by omega) (by omega)]; exact e3) (by rw [u2 _ _ (by omega), kk _ _ (by omega) (by omega) (by omega) (by omega)]; exact e4) hal]
        exact wp_some ⟨rfl, u1.trans x1, fun c k c1 => by rw [u2 c k c1, x2 c c1, k0 c k c1], hal⟩
  obtain ⟨⟨v2, r2⟩, z1', z2, z3, z4, z5⟩ := hh8
  dsimp only at z2 z3 z4 z5
  have fr : ∀ c k, c ≠ s → c ≠ s + 1 → c ≠ 45 → c ≠ 83 → gI r2 c k = gI σ c k := fun c k c1 c2 c3 c4 => by rw [z4 c k c4, y4 c k c1 c2 c3]
  refine ⟨v1, r1, r2, y1, by rw [z1', z2, y2], s, f, ?_⟩
  refine h.of (z3.trans y3) ?h1 ?h2 ?h3 ?h4 ?h5 ?h6 ?h7 ?h8 ?h9
  case h2 =>
    refine Or.inl ⟨w, q, hw, hq, by rw [z4 _ _ (by omega)]; exact y5, by rw [z4 _ _ (by omega)]; exact y6, by rw [fr _ _ (by omega) (by omega) (by omega) (by omega)]; exact e3, by rw [fr _ _ (by omega) (by omega) (by omega) (by omega)]; exact e4, fun k hk' => ?_⟩
    rw [z4 _ _ (by omega)]
    exact z5 k hk'
  all_goals exact Or.inr fun c k hp => fr c k (by omega) (by omega) (by omega) (by omega)
