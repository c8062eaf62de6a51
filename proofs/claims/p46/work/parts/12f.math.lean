/-! from 72.corners of the class-and-reference proof: what speaks of the class alone -/
/-! Print kept: the corners are held. -/
def okC (σ : SS) (w q k : Nat) : Prop := (1 ≤ (gI σ 89 k).toInt ∧ (gI σ 89 k).toInt + 2 ≤ w) ∧ 1 ≤ (gI σ 90 k).toInt ∧ (gI σ 90 k).toInt + 2 ≤ q
section CORNER
variable {σ : SS} {s w q : Nat}
theorem addI {x : Int32} (h : 0 ≤ x.toInt ∧ x.toInt ≤ 39) : (x + 1).toInt = x.toInt + 1 ∧ (x - 1).toInt = x.toInt - 1 := by
  have z : (1 : Int32).toInt = 1 := rfl
  rw [Int32.toInt_add, Int32.toInt_sub, z]
  simp only [Int.bmod]
  constructor <;> split <;> omega
end CORNER

/-! from 74.printcount of the class-and-reference proof: what speaks of the class alone -/
/-! Print kept: the dots not white, counted. -/
section CNT
variable {σ τ : SS} {s w q : Nat}
theorem cnt_at {v : Int32} (h : inR v 0 9) : (v < 1) ↔ v ≤ 0 := by
  have z1 : (1 : Int32).toInt = 1 := rfl
  have z0 : (0 : Int32).toInt = 0 := rfl
  rw [lt_i, le_i, z1, z0]
  omega
end CNT

/-! from 75.round of the class-and-reference proof: what speaks of the class alone -/
/-! Print kept: a round put, the class's half. -/
def rnF (v : Int32) (G : Nat → Nat → Int32) (X Y i j x y : Nat) : Int32 := if (X ≤ x + 1 ∧ x ≤ X + 1 ∧ Y ≤ y + 1 ∧ y < j) ∨ (y = j ∧ X ≤ x + 1 ∧ x < i) then v else G x y
section ROUND7
variable {σ : SS} {s w q X Y : Nat} {v : Int32}
theorem rn_put {G : Nat → Nat → Int32} {i j : Nat} {d : Nat → Int32} (h : Vis d w q (rnF v G X Y i j) fun _ _ => True) (hi : i < w) (hX : X ≤ i + 1) : Vis (upd d (j * w + i) v) w q (rnF v G X Y (i + 1) j) fun _ _ => True := by
  refine h.chg hi (fun x y hx hy hn => ?_) ?_
  · unfold rnF
    by_cases c : (X ≤ x + 1 ∧ x ≤ X + 1 ∧ Y ≤ y + 1 ∧ y < j) ∨ (y = j ∧ X ≤ x + 1 ∧ x < i)
    · rw [if_pos c, if_pos (by omega)]
    · rw [if_neg c, if_neg (by omega)]
  · unfold rnF
    rw [if_pos (by omega)]
theorem round7 (hw : w ≤ 40) (hq : q ≤ 40) (e1 : gI σ s 0 = nI w) (e2 : gI σ s 1 = nI q) (hX : 1 ≤ X ∧ X + 2 ≤ w) (hY : 1 ≤ Y ∧ Y + 2 ≤ q) {G : Nat → Nat → Int32} (hG : Vis (gI σ (s + 1)) w q G fun _ _ => True) : WP (fX6_putRound σ s (nI X) (nI Y) v) (fun r => ∃ d, r = sA σ (s + 1) d ∧ Vis d w q (rnF v G X Y 0 (Y + 2)) fun _ _ => True) := by
  have g0 : ∀ d, gI (sA σ (s + 1) d) s 0 = nI w := fun d => by rw [gI_A_ne (by omega)]; exact e1
  have g1 : ∀ d, gI (sA σ (s + 1) d) s 1 = nI q := fun d => by rw [gI_A_ne (by omega)]; exact e2
  have p1 : nI Y - 1 = nI (Y - 1) := nI_sub (a := Y) (b := 1) (by omega)
  have p2 : nI X - 1 = nI (X - 1) := nI_sub (a := X) (b := 1) (by omega)
  suffices hh : WP (fX6_putRound (sA σ (s + 1) (gI σ (s + 1))) s (nI X) (nI Y) v) (fun r => ∃ d, r = sA σ (s + 1) d ∧ Vis d w q (rnF v G X Y 0 (Y + 2)) fun _ _ => True) by
    rw [sA_self] at hh; exact hh
  unfold fX6_putRound X6_putRound_L5
  rw [vthen_q, p1]
  refine wf_2 3 (fun jj c t => c = nI (Y - 1 + jj) ∧ ∃ d, t = sA σ (s + 1) d ∧ Vis d w q (rnF v G X Y 0 (Y - 1 + jj)) fun _ _ => True) ⟨rfl, _, rfl, hG.fn fun x y hx hy => ?_⟩ (by omega) ?_ ?_
  · unfold rnF; rw [if_neg (by omega)]
  · rintro jj _ _ rec hj ⟨rfl, d, rfl, hd⟩ hr
    rw [nI_1, if_neg (fun k => by have := nI_ltN k (by omega) (by omega); omega), vthen_q, p2, nI_1]
    unfold X6_putRound_L18
    refine wf_2 3 (fun ii c t => c = nI (X - 1 + ii) ∧ ∃ d, t = sA σ (s + 1) d ∧ Vis d w q (rnF v G X Y (X - 1 + ii) (Y - 1 + jj)) fun _ _ => True) ⟨rfl, d, rfl, hd.fn fun x y hx hy => ?_⟩ (by omega) ?_ ?_
    · unfold rnF
      by_cases c : (X ≤ x + 1 ∧ x ≤ X + 1 ∧ Y ≤ y + 1 ∧ y < Y - 1 + jj) ∨ (y = Y - 1 + jj ∧ X ≤ x + 1 ∧ x < X - 1 + 0)
      · rw [if_pos c, if_pos (by omega)]
      · rw [if_neg c, if_neg (by omega)]
    · rintro ii _ _ rec2 hi ⟨rfl, d2, rfl, hd2⟩ hr2
      rw [nI_1, if_neg (fun k => by have := nI_ltN k (by omega) (by omega); omega), nI_1]
      obtain ⟨b, z, -⟩ := put_in (σ := sA σ (s + 1) d2) (s := s) (w := w) (h := q) (X := X - 1 + ii) (Y := Y - 1 + jj) (g0 d2) (g1 d2) hw hq (by omega) (by omega) v
      rw [bnd_of _ z, sI_A]
      exact hr2 _ _ ⟨rfl, _, rfl, rn_put hd2 (by omega) (by omega)⟩
    · rintro _ _ rec2 ⟨rfl, d2, rfl, hd2⟩
      rw [nI_1, if_pos (nI_lt (by omega) (by omega))]
      refine hr _ _ ⟨rfl, d2, rfl, hd2.fn fun x y hx hy => ?_⟩
      unfold rnF
      by_cases c : (X ≤ x + 1 ∧ x ≤ X + 1 ∧ Y ≤ y + 1 ∧ y < Y - 1 + jj) ∨ (y = Y - 1 + jj ∧ X ≤ x + 1 ∧ x < X - 1 + 3)
      · rw [if_pos c, if_pos (by omega)]
      · rw [if_neg c, if_neg (by omega)]
  · rintro _ _ rec ⟨rfl, d, rfl, hd⟩
    rw [nI_1, if_pos (nI_lt (by omega) (by omega))]
    refine wp_some ⟨d, rfl, ?_⟩
    rw [show Y - 1 + 3 = Y + 2 by omega] at hd
    exact hd
end ROUND7

/-! from 77.put of the class-and-reference proof: what speaks of the class alone -/
/-! Print kept: the four corners put. -/
def prF (cx cy : Nat → Nat) : Nat → Nat → Nat → Int32
  | 0 => fun _ _ => 0
  | k + 1 => rnF 9 (prF cx cy k) (cx k) (cy k) 0 (cy k + 2)
section PUT
variable {τ : SS} {s w q : Nat} {cx cy : Nat → Nat}
theorem puts7 (hw : w ≤ 40) (hq : q ≤ 40) (hs : s = 3 ∨ s = 6) (e1 : gI τ s 0 = nI w) (e2 : gI τ s 1 = nI q) (hR : gR τ 1 2 = s) (hC : ∀ k, k < 4 → gI τ 28 k = nI (cx k) ∧ gI τ 29 k = nI (cy k) ∧ (1 ≤ cx k ∧ cx k + 2 ≤ w) ∧ 1 ≤ cy k ∧ cy k + 2 ≤ q) (h0 : Vis (gI τ (s + 1)) w q (prF cx cy 0) fun _ _ => True) {k144 : SS → Option (Int32 × SS)} {P : Int32 × SS → Prop} (hk : ∀ t, gR t = gR τ → (∀ c, c ≠ s + 1 → gI t c = gI τ c) → Vis (gI t (s + 1)) w q (prF cx cy 4) (fun _ _ => True) → (∀ k, k < 4 → gL t 46 k = lN (cx k) ∧ gL t 47 k = lN (cy k) ∧ gL t 48 k = lN 1) → WP (k144 t) P) : WP (X7_print_L92 k144 fuel (0 : Int32) τ) P := by
  unfold X7_print_L92
  refine wf_2 4 (fun i v t => v = nI i ∧ gR t = gR τ ∧ (∀ c, c ≠ s + 1 → gI t c = gI τ c) ∧ Vis (gI t (s + 1)) w q (prF cx cy i) (fun _ _ => True) ∧ ∀ k, k < i → gL t 46 k = lN (cx k) ∧ gL t 47 k = lN (cy k) ∧ gL t 48 k = lN 1) ⟨rfl, rfl, fun c hc => rfl, h0, fun k hk => absurd hk (by omega)⟩ (by omega) ?_ ?_
  · rintro i _ t rec hi ⟨rfl, i1, i2, i3, i4⟩ hr
    obtain ⟨c1, c2, c3, c4⟩ := hC i hi
    rw [if_neg (by show ¬ nI 4 ≤ nI i; exact nI_ge hi (by omega)), nI_clamp (by omega), i1, hR, i2 28 (by omega), i2 29 (by omega), c1, c2, nI_1]
    refine wp_grd (inb_nI hi (by decide)) (wp_bnd1 (round7 (σ := t) (v := 9) hw hq (by rw [i2 s (by omega)]; exact e1) (by rw [i2 s (by omega)]; exact e2) c3 c4 i3) ?_)
    rintro _ ⟨d, rfl, hd⟩
    rw [gI_A_ne (by omega), gI_A_ne (by omega), i2 28 (by omega), i2 29 (by omega), c1, c2, nI_l (by omega), nI_l (by omega)]
    unfold fX5_put
    rw [nI_clamp (by omega), grd_eq _ (inb_nI hi (by decide)), vthen_q, vthen_q, vthen_q, bnd1_some]
    refine hr _ _ ⟨rfl, i1, fun c hc => ?_, ?_, fun k hk => ?_⟩
    · show gI (sA t (s + 1) d) c = _
      funext j
      rw [gI_A_ne hc]; exact congrFun (i2 c hc) j
    · show Vis (gI (sA t (s + 1) d) (s + 1)) w q (prF cx cy (i + 1)) fun _ _ => True
      rw [show gI (sA t (s + 1) d) (s + 1) = d from funext fun j => by rw [gI_A]]
      exact hd
    · by_cases ck : k = i
      · subst ck
        refine ⟨?_, ?_, ?_⟩
        · rw [gL_sL, if_neg (by omega), gL_sL, if_neg (by omega), gL_sL, if_pos ⟨rfl, rfl⟩]
        · rw [gL_sL, if_neg (by omega), gL_sL, if_pos ⟨rfl, rfl⟩]
        · rw [gL_sL, if_pos ⟨rfl, rfl⟩]; rfl
      · obtain ⟨o1, o2, o3⟩ := i4 k (by omega)
        refine ⟨?_, ?_, ?_⟩
        · rw [gL_sL, if_neg (by omega), gL_sL, if_neg (by omega), gL_sL, if_neg (by omega)]; exact o1
        · rw [gL_sL, if_neg (by omega), gL_sL, if_neg (by omega), gL_sL, if_neg (by omega)]; exact o2
        · rw [gL_sL, if_neg (by omega), gL_sL, if_neg (by omega), gL_sL, if_neg (by omega)]; exact o3
  · rintro _ t rec ⟨rfl, i1, i2, i3, i4⟩
    rw [if_pos (by decide)]
    exact hk t i1 i2 i3 i4
end PUT

/-! from 78.ink1 of the class-and-reference proof: what speaks of the class alone -/
/-! Print kept: a box inked, the class's half. -/
def ptF (w q : Nat) (v : Int32) (xx yy : Int32) (G : Nat → Nat → Int32) (x y : Nat) : Int32 := if ((0 ≤ xx.toInt ∧ xx.toInt < w) ∧ 0 ≤ yy.toInt ∧ yy.toInt < q) ∧ x = xx.toInt.toNat ∧ y = yy.toInt.toNat then v else G x y
theorem ptF_in {w q X Y : Nat} {v : Int32} {G : Nat → Nat → Int32} {d : Nat → Int32} (hw : w ≤ 40) (hq : q ≤ 40) (hX : X < w) (hY : Y < q) (h : Vis d w q G fun _ _ => True) : Vis (upd d (Y * w + X) v) w q (ptF w q v (nI X) (nI Y) G) fun _ _ => True := by
  have tx : (nI X).toInt = X := nI_toInt (by omega)
  have ty : (nI Y).toInt = Y := nI_toInt (by omega)
  refine h.chg hX (fun x y hx hy hn => ?_) ?_
  · unfold ptF; rw [tx, ty, if_neg (by omega)]
  · unfold ptF; rw [tx, ty, if_pos (by omega)]
theorem ptF_out {w q : Nat} {v xx yy : Int32} {G : Nat → Nat → Int32} {d : Nat → Int32} (hn : ¬ ((0 ≤ xx.toInt ∧ xx.toInt < w) ∧ 0 ≤ yy.toInt ∧ yy.toInt < q)) (h : Vis d w q G fun _ _ => True) : Vis d w q (ptF w q v xx yy G) fun _ _ => True := by
  refine h.fn fun x y hx hy => ?_
  unfold ptF; rw [if_neg fun k => hn k.1]
theorem pt7 {t : SS} {s w q : Nat} {v xx yy : Int32} {G : Nat → Nat → Int32} (hw : w ≤ 40) (hq : q ≤ 40) (e1 : gI t s 0 = nI w) (e2 : gI t s 1 = nI q) (h : Vis (gI t (s + 1)) w q G fun _ _ => True) : ∃ b d, fX6_put t s xx yy v = some (b, sA t (s + 1) d) ∧ Vis d w q (ptF w q v xx yy G) fun _ _ => True := by
  by_cases c : (0 ≤ xx.toInt ∧ xx.toInt < w) ∧ 0 ≤ yy.toInt ∧ yy.toInt < q
  · obtain ⟨X, hX, rfl⟩ := in_of (by omega) c.1
    obtain ⟨Y, hY, rfl⟩ := in_of (by omega) c.2
    obtain ⟨b, z, -⟩ := put_in (σ := t) (s := s) e1 e2 hw hq hX hY v
    refine ⟨b, upd (gI t (s + 1)) (Y * w + X) v, ?_, ptF_in hw hq hX hY h⟩
    rw [z, ← sI_A, sA_self]
  · refine ⟨false, gI t (s + 1), ?_, ptF_out c h⟩
    rw [put_out e1 e2 hw hq c v, sA_self]

/-! from 79.ink7 of the class-and-reference proof: what speaks of the class alone -/
/-! Print kept: a box inked, the class's loops. -/
def rwF (w q : Nat) (v : Int32) (X Y S : Nat → Nat) (U2 V2 bx y0 : Nat) (G : Nat → Nat → Int32) (n : Nat) : Nat → Nat → Int32 := itr (fun i G => ptF w q v (rdV X S U2 V2 (2 * (bx + i) + 1) (2 * y0 + 1)) (rdV Y S U2 V2 (2 * (bx + i) + 1) (2 * y0 + 1)) G) G n
def bxF (w q : Nat) (v : Int32) (X Y S : Nat → Nat) (U2 V2 A bx by' : Nat) (G : Nat → Nat → Int32) (n : Nat) : Nat → Nat → Int32 := itr (fun j G => rwF w q v X Y S U2 V2 bx (by' + j) G A) G n
theorem ink7 {τ : SS} {s f w q U V A B bx by' k0 : Nat} {v : Int32} {X Y S : Nat → Nat} {G : Nat → Nat → Int32} (hs : s = 3 ∨ s = 6) (hf : f = 10 ∨ f = 18) (hw : w ≤ 40) (hq : q ≤ 40) (hU : 1 ≤ U ∧ U ≤ 40) (hV : 1 ≤ V ∧ V ≤ 40) (hk0 : k0 < 72) (r2 : gR τ 1 2 = s) (r5 : gR τ 1 5 = f) (e1 : gI τ s 0 = nI w) (e2 : gI τ s 1 = nI q) (g3 : gI τ f 3 = nI A) (g4 : gI τ f 4 = nI B) (gx : gI τ (f + 6) k0 = nI bx) (gy : gI τ (f + 7) k0 = nI by') (hx : bx + A ≤ U) (hy : by' + B ≤ V) (hS : ∀ k, k < 4 → 1 ≤ S k ∧ S k ≤ 1600) (hPl : ∀ d, Pl X Y S (2 * U) (2 * V) (sA τ (s + 1) d)) (hG : Vis (gI τ (s + 1)) w q G fun _ _ => True) : WP (fX7_inkBox τ (nI k0) v) (fun r => ∃ d, r = sA τ (s + 1) d ∧ Vis d w q (bxF w q v X Y S (2 * U) (2 * V) A bx by' G B) fun _ _ => True) := by
  have k1 : ∀ d, gI (sA τ (s + 1) d) s 0 = nI w := fun d => by rw [gI_A_ne (by omega)]; exact e1
  have k2 : ∀ d, gI (sA τ (s + 1) d) s 1 = nI q := fun d => by rw [gI_A_ne (by omega)]; exact e2
  have k3 : ∀ d, gI (sA τ (s + 1) d) f 3 = nI A := fun d => by rw [gI_A_ne (by omega)]; exact g3
  have k4 : ∀ d, gI (sA τ (s + 1) d) f 4 = nI B := fun d => by rw [gI_A_ne (by omega)]; exact g4
  have kR : ∀ d, gR (sA τ (s + 1) d) = gR τ := fun d => rfl
  unfold fX7_inkBox
  rw [r5, nI_clamp (by omega), gx, gy, grd_eq _ (inb_nI hk0 (by decide)), vthen_q, vthen_q]
  unfold X7_inkBox_L34
  refine wf_2 B (fun j c t => c = nI (by' + j) ∧ ∃ d, t = sA τ (s + 1) d ∧ Vis d w q (bxF w q v X Y S (2 * U) (2 * V) A bx by' G j) fun _ _ => True) ⟨rfl, gI τ (s + 1), (sA_self τ (s + 1)).symm, hG⟩ (by omega) ?_ ?_
  · rintro j _ _ rec hj ⟨rfl, d, rfl, hd⟩ hr
    rw [kR, r5, k4, nI_add, if_neg (nI_ge (by omega) (by omega))]
    unfold X7_inkBox_L53
    refine wf_2 A (fun i c t => c = nI (bx + i) ∧ ∃ d, t = sA τ (s + 1) d ∧ Vis d w q (rwF w q v X Y S (2 * U) (2 * V) bx (by' + j) (bxF w q v X Y S (2 * U) (2 * V) A bx by' G j) i) fun _ _ => True) ⟨rfl, d, rfl, hd⟩ (by omega) ?_ ?_
    · rintro i _ _ rec2 hi ⟨rfl, d2, rfl, hd2⟩ hr2
      have t1 : (2 : Int32) * nI (bx + i) + 1 = nI (2 * (bx + i) + 1) := by rw [two_t, nI_1]
      have t2 : (2 : Int32) * nI (by' + j) + 1 = nI (2 * (by' + j) + 1) := by rw [two_t, nI_1]
      obtain ⟨x1, x2, -⟩ := dots7 (i := 2 * (bx + i) + 1) (j := 2 * (by' + j) + 1) (hPl d2) hS (by omega) (by omega) (by omega) (by omega)
      rw [kR, r5, k3, nI_add, if_neg (nI_ge (by omega) (by omega)), t1, t2, bnd1_of _ x1, bnd1_of _ x2, r2, nI_1]
      obtain ⟨b, d3, z, hd3⟩ := pt7 (v := v) (xx := rdV X S (2 * U) (2 * V) (2 * (bx + i) + 1) (2 * (by' + j) + 1)) (yy := rdV Y S (2 * U) (2 * V) (2 * (bx + i) + 1) (2 * (by' + j) + 1)) hw hq (k1 d2) (k2 d2) (show Vis (gI (sA τ (s + 1) d2) (s + 1)) w q _ fun _ _ => True by rw [show gI (sA τ (s + 1) d2) (s + 1) = d2 from funext fun j => by rw [gI_A]]; exact hd2)
      rw [bnd_of _ z, sA_sA]
      exact hr2 _ _ ⟨rfl, d3, rfl, hd3⟩
    · rintro _ _ rec2 ⟨rfl, d2, rfl, hd2⟩
      rw [kR, r5, k3, nI_add, if_pos (nI_le (Nat.le_refl _) (by omega)), nI_1]
      exact hr _ _ ⟨rfl, d2, rfl, hd2⟩
  · rintro _ _ rec ⟨rfl, d, rfl, hd⟩
    rw [kR, r5, k4, nI_add, if_pos (nI_le (Nat.le_refl _) (by omega))]
    exact wp_some ⟨d, rfl, hd⟩

/-! from 81.ticks of the class-and-reference proof: what speaks of the class alone -/
/-! Print kept: the boxes told inked, the class's half. -/
def bqF (w q : Nat) (v : Int32) (X Y S : Nat → Nat) (U2 V2 A B : Nat) (T : Nat → Int32) (cx cy N : Nat → Nat) (p : Nat) (G : Nat → Nat → Int32) (n : Nat) : Nat → Nat → Int32 := itr (fun i G => if ((T p >>> (nI i &&& 31)) &&& (1 : Int32)) = (1 : Int32) then bxF w q v X Y S U2 V2 A (cx (psum N p + i)) (cy (psum N p + i)) G B else G) G n
def alF (w q : Nat) (v : Int32) (X Y S : Nat → Nat) (U2 V2 A B : Nat) (T : Nat → Int32) (cx cy N : Nat → Nat) (G : Nat → Nat → Int32) (n : Nat) : Nat → Nat → Int32 := itr (fun p G => bqF w q v X Y S U2 V2 A B T cx cy N p G (N p)) G n
theorem Pl.A {X Y S : Nat → Nat} {A B c : Nat} {τ : SS} (h : Pl X Y S A B τ) (hc : c ≠ 45) (d : Nat → Int32) : Pl X Y S A B (sA τ c d) := by
  obtain ⟨h1, h2, h3, h4⟩ := h
  exact ⟨h1, h2, by rw [gI_A_ne (by omega)]; exact h3, by rw [gI_A_ne (by omega)]; exact h4⟩
theorem ticks7 {τ : SS} {s f w q U V A B Q : Nat} {v : Int32} {T : Nat → Int32} {N cx cy X Y S : Nat → Nat} {G : Nat → Nat → Int32} (hs : s = 3 ∨ s = 6) (hf : f = 10 ∨ f = 18) (hw : w ≤ 40) (hq : q ≤ 40) (hU : 1 ≤ U ∧ U ≤ 40) (hV : 1 ≤ V ∧ V ≤ 40) (hQ : Q ≤ 12) (hT : psum N Q ≤ 72) (r2 : gR τ 1 2 = s) (r5 : gR τ 1 5 = f) (e1 : gI τ s 0 = nI w) (e2 : gI τ s 1 = nI q) (g3 : gI τ f 3 = nI A) (g4 : gI τ f 4 = nI B) (g5 : gI τ f 5 = nI Q) (hN : ∀ p, p < Q → N p ≤ 6 ∧ gI τ (f + 2) p = nI (psum N p) ∧ gI τ (f + 3) p = nI (N p) ∧ gI τ 30 p = T p) (hc : ∀ k, k < psum N Q → (gI τ (f + 6) k = nI (cx k) ∧ cx k + A ≤ U) ∧ (gI τ (f + 7) k = nI (cy k) ∧ cy k + B ≤ V)) (hS : ∀ k, k < 4 → 1 ≤ S k ∧ S k ≤ 1600) (hPl : Pl X Y S (2 * U) (2 * V) τ) (hG : Vis (gI τ (s + 1)) w q G fun _ _ => True) : WP (X7_print_L164 v fuel (0 : Int32) τ) (fun r => ∃ d, r = (itr (fun i n => if d i < 1 then n else n + 1) 0 (w * q), sA τ (s + 1) d) ∧ Vis d w q (alF w q v X Y S (2 * U) (2 * V) A B T cx cy N G Q) fun _ _ => True) := by
  have kR : ∀ d, gR (sA τ (s + 1) d) = gR τ := fun d => rfl
  have kI : ∀ d c, c ≠ s + 1 → gI (sA τ (s + 1) d) c = gI τ c := fun d c h => gI_A_ne h
  unfold X7_print_L164
  refine wf_2 Q (fun p c t => c = nI p ∧ ∃ d, t = sA τ (s + 1) d ∧ Vis d w q (alF w q v X Y S (2 * U) (2 * V) A B T cx cy N G p) fun _ _ => True) ⟨rfl, gI τ (s + 1), (sA_self τ (s + 1)).symm, hG⟩ (by omega) ?_ ?_
  · rintro p _ _ rec hp ⟨rfl, d, rfl, hd⟩ hr
    obtain ⟨n1, n2, n3, n4⟩ := hN p hp
    rw [kR, r5, kI d f (by omega), g5, if_neg (nI_ge hp (by omega)), nI_1]
    unfold X7_print_L178
    refine wf_2 (N p) (fun i c t => c = nI i ∧ ∃ d, t = sA τ (s + 1) d ∧ Vis d w q (bqF w q v X Y S (2 * U) (2 * V) A B T cx cy N p (alF w q v X Y S (2 * U) (2 * V) A B T cx cy N G p) i) fun _ _ => True) ⟨rfl, d, rfl, hd⟩ (by omega) ?_ ?_
    · rintro i _ _ rec2 hi ⟨rfl, d2, rfl, hd2⟩ hr2
      have hk := psum_lt hp hi
      have hck := hc _ hk
      rw [kR, r5, kI d2 (f + 3) (by omega), kI d2 (f + 2) (by omega), kI d2 30 (by omega), nI_clamp (by omega), n2, n3, n4, if_neg (nI_ge hi (by omega)), nI_add, nI_1]
      have es : bqF w q v X Y S (2 * U) (2 * V) A B T cx cy N p (alF w q v X Y S (2 * U) (2 * V) A B T cx cy N G p) (i + 1) = if ((T p >>> (nI i &&& 31)) &&& (1 : Int32)) = (1 : Int32) then bxF w q v X Y S (2 * U) (2 * V) A (cx (psum N p + i)) (cy (psum N p + i)) (bqF w q v X Y S (2 * U) (2 * V) A B T cx cy N p (alF w q v X Y S (2 * U) (2 * V) A B T cx cy N G p) i) B else bqF w q v X Y S (2 * U) (2 * V) A B T cx cy N p (alF w q v X Y S (2 * U) (2 * V) A B T cx cy N G p) i := rfl
      refine wp_grd (inb_nI (by omega) (by decide)) (wp_if (fun ht => ?_) fun ht => ?_)
      · refine wp_bnd1 (ink7 (τ := sA τ (s + 1) d2) (U := U) (V := V) (A := A) (B := B) (bx := cx (psum N p + i)) (by' := cy (psum N p + i)) (v := v) hs hf hw hq hU hV (by omega) r2 r5 (by rw [kI d2 s (by omega)]; exact e1) (by rw [kI d2 s (by omega)]; exact e2) (by rw [kI d2 f (by omega)]; exact g3) (by rw [kI d2 f (by omega)]; exact g4) (by rw [kI d2 (f + 6) (by omega)]; exact hck.1.1) (by rw [kI d2 (f + 7) (by omega)]; exact hck.2.1) hck.1.2 hck.2.2 hS (fun d' => by rw [sA_sA]; exact hPl.A (by omega) d') (by rw [gI_A]; exact hd2)) ?_
        rintro _ ⟨d3, rfl, hd3⟩
        rw [sA_sA]
        refine hr2 _ _ ⟨rfl, d3, rfl, ?_⟩
        rw [es, if_pos ht]; exact hd3
      · refine hr2 _ _ ⟨rfl, d2, rfl, ?_⟩
        rw [es, if_neg ht]; exact hd2
    · rintro _ _ rec2 ⟨rfl, d2, rfl, hd2⟩
      rw [kR, r5, kI d2 (f + 3) (by omega), nI_clamp (by omega), n3]
      refine wp_grd (inb_nI (by omega) (by decide)) ?_
      rw [if_pos (nI_le (Nat.le_refl _) (by omega))]
      exact hr _ _ ⟨rfl, d2, rfl, hd2⟩
  · rintro _ _ rec ⟨rfl, d, rfl, hd⟩
    rw [kR, r5, r2, kI d f (by omega), g5, if_pos (nI_le (Nat.le_refl _) (by omega)), bnd1_of _ (notBelow_eq hw hq (by rw [kI d s (by omega)]; exact e1) (by rw [kI d s (by omega)]; exact e2) 1), gI_A]
    exact wp_some ⟨d, rfl, hd⟩

/-! from 83.printkept of the class-and-reference proof: what speaks of the class alone -/
/-! Print kept. -/
def Dg (G : Nat → Nat → Int32) : Prop := ∀ x y, inR (G x y) 0 9
theorem itr_P {S : Type} {P : S → Prop} {f : Nat → S → S} {s : S} (h0 : P s) (hs : ∀ i s, P s → P (f i s)) : ∀ n, P (itr f s n)
  | 0 => h0
  | n + 1 => hs n _ (itr_P h0 hs n)
theorem rn_in {v : Int32} {G : Nat → Nat → Int32} {X Y i j : Nat} (hv : inR v 0 9) (hG : Dg G) : Dg (rnF v G X Y i j) := by
  intro x y
  unfold rnF
  by_cases c : (X ≤ x + 1 ∧ x ≤ X + 1 ∧ Y ≤ y + 1 ∧ y < j) ∨ (y = j ∧ X ≤ x + 1 ∧ x < i)
  · rw [if_pos c]; exact hv
  · rw [if_neg c]; exact hG x y
theorem pr_in {cx cy : Nat → Nat} : ∀ k, Dg (prF cx cy k)
  | 0 => fun _ _ => ⟨by show (0 : Int) ≤ (0 : Int32).toInt; decide, by show (0 : Int32).toInt ≤ 9; decide⟩
  | k + 1 => rn_in ⟨by decide, by decide⟩ (pr_in k)
theorem pt_in {w q : Nat} {v xx yy : Int32} {G : Nat → Nat → Int32} (hv : inR v 0 9) (hG : Dg G) : Dg (ptF w q v xx yy G) := by
  intro x y
  unfold ptF
  by_cases c : ((0 ≤ xx.toInt ∧ xx.toInt < w) ∧ 0 ≤ yy.toInt ∧ yy.toInt < q) ∧ x = xx.toInt.toNat ∧ y = yy.toInt.toNat
  · rw [if_pos c]; exact hv
  · rw [if_neg c]; exact hG x y
theorem al_in {w q U2 V2 A B : Nat} {v : Int32} {T : Nat → Int32} {X Y S cx cy N : Nat → Nat} {G : Nat → Nat → Int32} (hv : inR v 0 9) (hG : Dg G) (n : Nat) : Dg (alF w q v X Y S U2 V2 A B T cx cy N G n) := by
  unfold alF
  refine itr_P (P := Dg) hG (fun p G hG => ?_) n
  unfold bqF
  refine itr_P (P := Dg) hG (fun i G hG => ?_) _
  by_cases c : ((T p >>> (nI i &&& 31)) &&& (1 : Int32)) = (1 : Int32)
  · rw [if_pos c]
    unfold bxF
    refine itr_P (P := Dg) hG (fun j G hG => ?_) _
    unfold rwF
    exact itr_P (P := Dg) hG (fun i G hG => pt_in hv hG) _
  · rw [if_neg c]; exact hG
