/-! Turn: a scan by quarters. -/
/-- a picture of w by q dots, by k quarters to the right -/
def tF (src : Nat → Int32) (w q : Nat) : Nat → Nat → Nat → Int32
  | 0, x, y => src (y * w + x)
  | 1, x, y => src ((q - 1 - x) * w + y)
  | 2, x, y => src ((q - 1 - y) * w + (w - 1 - x))
  | 3, x, y => src (x * w + (w - 1 - y))
  | _, x, y => src (y * w + x)
def tW (w q k : Nat) : Nat := if k % 2 = 0 then w else q
theorem tF_s (src : Nat → Int32) {w q k X Y : Nat} (hk : k < 4) (hX : X < tW q w k) (hY : Y < tW w q k) : tF src w q (k + 1) X Y = tF src w q k Y (tW q w k - 1 - X) := by
  rcases (show k = 0 ∨ k = 1 ∨ k = 2 ∨ k = 3 by omega) with rfl | rfl | rfl | rfl
  · rfl
  · rfl
  · have h : X < q := hX
    show src (X * w + (w - 1 - Y)) = src ((q - 1 - (q - 1 - X)) * w + (w - 1 - Y))
    rw [show q - 1 - (q - 1 - X) = X by omega]
  · have h : X < w := hX
    show src (Y * w + X) = src (Y * w + (w - 1 - (w - 1 - X)))
    rw [show w - 1 - (w - 1 - X) = X by omega]
theorem tF_congr {src src' : Nat → Int32} {w q k X Y : Nat} (hk : k < 4) (hX : X < tW w q k) (hY : Y < tW q w k) (h : ∀ j, j < w * q → src j = src' j) : tF src w q k X Y = tF src' w q k X Y := by
  rcases (show k = 0 ∨ k = 1 ∨ k = 2 ∨ k = 3 by omega) with rfl | rfl | rfl | rfl
  · exact h _ (cell_lt (show X < w from hX) (show Y < q from hY))
  · have h1 : X < q := hX
    have h2 : Y < w := hY
    exact h _ (cell_lt h2 (show q - 1 - X < q by omega))
  · have h1 : X < w := hX
    have h2 : Y < q := hY
    exact h _ (cell_lt (show w - 1 - X < w by omega) (show q - 1 - Y < q by omega))
  · have h1 : X < q := hX
    have h2 : Y < w := hY
    exact h _ (cell_lt (show w - 1 - Y < w by omega) h1)
theorem tF_rng {src : Nat → Int32} {w q k X Y : Nat} (hk : k < 4) (hX : X < tW w q k) (hY : Y < tW q w k) (h : ∀ j, j < w * q → inR (src j) 0 9) : inR (tF src w q k X Y) 0 9 := by
  rcases (show k = 0 ∨ k = 1 ∨ k = 2 ∨ k = 3 by omega) with rfl | rfl | rfl | rfl
  · exact h _ (cell_lt (show X < w from hX) (show Y < q from hY))
  · have h1 : X < q := hX
    have h2 : Y < w := hY
    exact h _ (cell_lt h2 (show q - 1 - X < q by omega))
  · have h1 : X < w := hX
    have h2 : Y < q := hY
    exact h _ (cell_lt (show w - 1 - X < w by omega) (show q - 1 - Y < q by omega))
  · have h1 : X < q := hX
    have h2 : Y < w := hY
    exact h _ (cell_lt (show w - 1 - Y < w by omega) h1)
theorem tW_le {w q k : Nat} (hw : 8 ≤ w ∧ w ≤ 40) (hq : 8 ≤ q ∧ q ≤ 40) : 8 ≤ tW w q k ∧ tW w q k ≤ 40 := by
  unfold tW; split <;> assumption
/-- which dots of the turned picture are done: those of source rows below j, in row j below i -/
def tV (w q : Nat) : Nat → Nat → Nat → Nat → Nat → Prop
  | 0, i, j, x, y => y < j ∨ y = j ∧ x < i
  | 1, i, j, x, y => q - 1 - x < j ∨ q - 1 - x = j ∧ y < i
  | 2, i, j, x, y => q - 1 - y < j ∨ q - 1 - y = j ∧ w - 1 - x < i
  | 3, i, j, x, y => x < j ∨ x = j ∧ w - 1 - y < i
  | _, _, _, _, _ => False
theorem tV_0 {w q k x y : Nat} : ¬ tV w q k 0 0 x y := by
  rcases k with _ | _ | _ | _ | k
  · show ¬ (y < 0 ∨ y = 0 ∧ x < 0); omega
  · show ¬ (q - 1 - x < 0 ∨ q - 1 - x = 0 ∧ y < 0); omega
  · show ¬ (q - 1 - y < 0 ∨ q - 1 - y = 0 ∧ w - 1 - x < 0); omega
  · show ¬ (x < 0 ∨ x = 0 ∧ w - 1 - y < 0); omega
  · exact fun h => h
theorem tV_row {w q k j x y : Nat} (hk : k < 4) (hw : 1 ≤ w) (hx : x < tW w q k) (hy : y < tW q w k) (h : tV w q k 0 (j + 1) x y) : tV w q k w j x y := by
  rcases (show k = 0 ∨ k = 1 ∨ k = 2 ∨ k = 3 by omega) with rfl | rfl | rfl | rfl
  · have h1 : x < w := hx
    have h2 : y < j + 1 ∨ y = j + 1 ∧ x < 0 := h
    show y < j ∨ y = j ∧ x < w; omega
  · have h1 : y < w := hy
    have h2 : q - 1 - x < j + 1 ∨ q - 1 - x = j + 1 ∧ y < 0 := h
    show q - 1 - x < j ∨ q - 1 - x = j ∧ y < w; omega
  · have h2 : q - 1 - y < j + 1 ∨ q - 1 - y = j + 1 ∧ w - 1 - x < 0 := h
    show q - 1 - y < j ∨ q - 1 - y = j ∧ w - 1 - x < w; omega
  · have h2 : x < j + 1 ∨ x = j + 1 ∧ w - 1 - y < 0 := h
    show x < j ∨ x = j ∧ w - 1 - y < w; omega
theorem tV_all {w q k x y : Nat} (hk : k < 4) (hx : x < tW w q k) (hy : y < tW q w k) (hq : 1 ≤ q) : tV w q k 0 q x y := by
  rcases (show k = 0 ∨ k = 1 ∨ k = 2 ∨ k = 3 by omega) with rfl | rfl | rfl | rfl
  · have h1 : y < q := hy
    show y < q ∨ y = q ∧ x < 0; omega
  · show q - 1 - x < q ∨ q - 1 - x = q ∧ y < 0; omega
  · show q - 1 - y < q ∨ q - 1 - y = q ∧ w - 1 - x < 0; omega
  · have h1 : x < q := hx
    show x < q ∨ x = q ∧ w - 1 - y < 0; omega
section TURN
variable {σ : SS} {s t w q k : Nat}
theorem turned7 (hst : s = 3 ∧ t = 6 ∨ s = 6 ∧ t = 3) (hw : 1 ≤ w ∧ w ≤ 40) (hq : 1 ≤ q ∧ q ≤ 40) (e1 : gI σ s 0 = nI w) (e2 : gI σ s 1 = nI q) (hk : k < 4) : WP (fX6_takeTurned σ t s (nI k)) (Spare s t (tW w q k) (tW q w k) (tF (gI σ (s + 1)) w q k) σ) := by
  have hm : irm (nI k) 2 = nI (k % 2) := pk_rem (d := 2) (by omega) (by omega) (by omega)
  have ez : (nI (k % 2) = 0) ↔ k % 2 = 0 := nI_eq (b := 0) (by omega) (by omega)
  unfold fX6_takeTurned
  simp only [vthen_eq]
  rw [hm, e1, e2]
  have go : WP (X6_takeTurned_L46 t s (nI k) (nI w) (nI q) fuel 0 (sI (sI σ t 0 (nI (tW w q k))) t 1 (nI (tW q w k)))) (Spare s t (tW w q k) (tW q w k) (tF (gI σ (s + 1)) w q k) σ) := by
    generalize hσ : sI (sI σ t 0 (nI (tW w q k))) t 1 (nI (tW q w k)) = σ0
    have f0 : gI σ0 t 0 = nI (tW w q k) := by rw [← hσ, gI_nk (by omega), gI_eq]
    have f1 : gI σ0 t 1 = nI (tW q w k) := by rw [← hσ, gI_eq]
    have fk : ∀ c, c ≠ t → gI σ0 c = gI σ c := fun c hc => by rw [← hσ, gI_ne hc, gI_ne hc]
    have fR : gR σ0 = gR σ := by rw [← hσ]; rfl
    have hW : tW w q k ≤ 40 := by unfold tW; split <;> omega
    have hH : tW q w k ≤ 40 := by unfold tW; split <;> omega
    have k0 : ∀ d, gI (sA σ0 (t + 1) d) s 0 = nI w := fun d => by rw [gI_A_ne (by omega), fk s (by omega)]; exact e1
    have k1 : ∀ d, gI (sA σ0 (t + 1) d) s 1 = nI q := fun d => by rw [gI_A_ne (by omega), fk s (by omega)]; exact e2
    have g0 : ∀ d, gI (sA σ0 (t + 1) d) t 0 = nI (tW w q k) := fun d => by rw [gI_A_ne (by omega)]; exact f0
    have g1 : ∀ d, gI (sA σ0 (t + 1) d) t 1 = nI (tW q w k) := fun d => by rw [gI_A_ne (by omega)]; exact f1
    suffices hh : WP (X6_takeTurned_L46 t s (nI k) (nI w) (nI q) fuel (0 : Int32) (sA σ0 (t + 1) (gI σ0 (t + 1)))) (fun r => ∃ d, r = sA σ0 (t + 1) d ∧ Vis d (tW w q k) (tW q w k) (tF (gI σ (s + 1)) w q k) fun _ _ => True) by
      rw [sA_self] at hh
      refine wp_imp hh ?_
      rintro _ ⟨d, rfl, hd⟩
      refine ⟨fR, ?_, ?_, ?_, fun c k h1 h2 h3 => ?_⟩
      · exact g0 d
      · exact g1 d
      · rw [gI_A]; exact hd
      · rw [gI_A_ne h2, fk c h1]
    unfold X6_takeTurned_L46
    refine wf_2 q (fun j vv s' => vv = nI j ∧ ∃ d, s' = sA σ0 (t + 1) d ∧ Vis d (tW w q k) (tW q w k) (tF (gI σ (s + 1)) w q k) (tV w q k 0 j)) ⟨rfl, _, rfl, fun x y _ _ h => absurd h tV_0⟩ (by omega) ?_ ?_
    · rintro j _ _ rec hj ⟨rfl, d, rfl, hd⟩ hr
      rw [if_neg (nI_ge hj (by omega))]
      unfold X6_takeTurned_L56
      refine wf_2 w (fun i x s' => x = nI i ∧ ∃ d, s' = sA σ0 (t + 1) d ∧ Vis d (tW w q k) (tW q w k) (tF (gI σ (s + 1)) w q k) (tV w q k i j)) ⟨rfl, d, rfl, hd⟩ (by omega) ?_ ?_
      · rintro i _ _ rec2 hi ⟨rfl, d2, rfl, hd2⟩ hr2
        have sq : nI q - 1 - nI j = nI (q - 1 - j) := by rw [show nI q - 1 = nI (q - 1) from nI_sub (a := q) (b := 1) (by omega), nI_sub (by omega)]
        have sw : nI w - 1 - nI i = nI (w - 1 - i) := by rw [show nI w - 1 = nI (w - 1) from nI_sub (a := w) (b := 1) (by omega), nI_sub (by omega)]
        rw [if_neg (nI_ge hi (by omega)), at_in (k0 d2) (k1 d2) hw.2 hq.2 hi hj, bnd1_some, gI_A_ne (c' := s + 1) (by omega), fk (s + 1) (by omega), sq, sw, nI_1]
        have ke : ∀ m : Nat, m < 4 → (nI k = nI m ↔ k = m) := fun m hm => nI_eq (by omega) (by omega)
        have put : ∀ X Y, X < tW w q k → Y < tW q w k → tF (gI σ (s + 1)) w q k X Y = gI σ (s + 1) (j * w + i) → (∀ x y, x < tW w q k → y < tW q w k → tV w q k (i + 1) j x y → tV w q k i j x y ∨ (x = X ∧ y = Y)) → WP (bnd (fX6_put (sA σ0 (t + 1) d2) t (nI X) (nI Y) (gI σ (s + 1) (j * w + i))) fun b11 σ13 => rec2 (nI (i + 1)) σ13) (fun r => ∃ d, r = sA σ0 (t + 1) d ∧ Vis d (tW w q k) (tW q w k) (tF (gI σ (s + 1)) w q k) fun _ _ => True) := fun X Y hX hY hv hV => by
          obtain ⟨b, z, -⟩ := put_in (σ := sA σ0 (t + 1) d2) (s := t) (w := tW w q k) (h := tW q w k) (X := X) (Y := Y) (g0 d2) (g1 d2) hW hH hX hY (gI σ (s + 1) (j * w + i))
          rw [bnd_of _ z, sI_A]
          exact hr2 _ _ ⟨rfl, _, rfl, hd2.put hX hV hv.symm⟩
        rcases (show k = 0 ∨ k = 1 ∨ k = 2 ∨ k = 3 by omega) with rfl | rfl | rfl | rfl
        · rw [if_neg (by decide), if_neg (by decide), if_neg (by decide)]
          refine put i j hi hj rfl fun x y h1 h2 h3 => ?_
          have h4 : y < j ∨ y = j ∧ x < i + 1 := h3
          show (y < j ∨ y = j ∧ x < i) ∨ _; omega
        · rw [if_pos (by decide)]
          refine put (q - 1 - j) i (show q - 1 - j < q by omega) (show i < w from hi) ?_ fun x y h1 h2 h3 => ?_
          · show gI σ (s + 1) ((q - 1 - (q - 1 - j)) * w + i) = _
            rw [show q - 1 - (q - 1 - j) = j by omega]
          · have h5 : x < q := h1
            have h4 : q - 1 - x < j ∨ q - 1 - x = j ∧ y < i + 1 := h3
            show (q - 1 - x < j ∨ q - 1 - x = j ∧ y < i) ∨ _; omega
        · rw [if_neg (by decide), if_pos (by decide)]
          refine put (w - 1 - i) (q - 1 - j) (show w - 1 - i < w by omega) (show q - 1 - j < q by omega) ?_ fun x y h1 h2 h3 => ?_
          · show gI σ (s + 1) ((q - 1 - (q - 1 - j)) * w + (w - 1 - (w - 1 - i))) = _
            rw [show q - 1 - (q - 1 - j) = j by omega, show w - 1 - (w - 1 - i) = i by omega]
          · have h5 : x < w := h1
            have h6 : y < q := h2
            have h4 : q - 1 - y < j ∨ q - 1 - y = j ∧ w - 1 - x < i + 1 := h3
            show (q - 1 - y < j ∨ q - 1 - y = j ∧ w - 1 - x < i) ∨ _; omega
        · rw [if_neg (by decide), if_neg (by decide), if_pos (by decide)]
          refine put j (w - 1 - i) (show j < q from hj) (show w - 1 - i < w by omega) ?_ fun x y h1 h2 h3 => ?_
          · show gI σ (s + 1) (j * w + (w - 1 - (w - 1 - i))) = _
            rw [show w - 1 - (w - 1 - i) = i by omega]
          · have h5 : x < q := h1
            have h6 : y < w := h2
            have h4 : x < j ∨ x = j ∧ w - 1 - y < i + 1 := h3
            show (x < j ∨ x = j ∧ w - 1 - y < i) ∨ _; omega
      · rintro _ _ rec2 ⟨rfl, d2, rfl, hd2⟩
        rw [if_pos (nI_le (Nat.le_refl _) (by omega)), nI_1]
        exact hr _ _ ⟨rfl, _, rfl, hd2.imp fun x y h1 h2 h => tV_row hk hw.1 h1 h2 h⟩
    · rintro _ _ rec ⟨rfl, d, rfl, hd⟩
      rw [if_pos (nI_le (Nat.le_refl _) (by omega))]
      exact wp_some ⟨d, rfl, hd.imp fun x y h1 h2 _ => tV_all hk h1 h2 hq.1⟩
  by_cases c : k % 2 = 0
  · rw [if_pos (ez.mpr c), if_pos (ez.mpr c)]
    have t1 : tW w q k = w := if_pos c
    have t2 : tW q w k = q := if_pos c
    rw [t1, t2] at go
    rw [t1, t2]
    exact go
  · rw [if_neg fun e => c (ez.mp e), if_neg fun e => c (ez.mp e)]
    have t1 : tW w q k = q := if_neg c
    have t2 : tW q w k = w := if_neg c
    rw [t1, t2] at go
    rw [t1, t2]
    exact go
/-- the reference's dots turned once -/
def Trn (w q : Nat) (F : Nat → Nat → Int32) (σ σ2 : SS) : Prop := gR σ2 = gR σ ∧ gI σ2 73 29 = nI w ∧ gI σ2 73 30 = nI q ∧ Vis (gI σ2 83) w q F (fun _ _ => True) ∧ ∀ c k, c ≠ 83 → c ≠ 84 → ¬ (c = 73 ∧ (k = 29 ∨ k = 30)) → gI σ2 c k = gI σ c k
theorem turns8 (hw : 1 ≤ w ∧ w ≤ 40) (hq : 1 ≤ q ∧ q ≤ 40) (e3 : gI σ 73 29 = nI w) (e4 : gI σ 73 30 = nI q) {F : Nat → Nat → Int32} (hF : Vis (gI σ 83) w q F fun _ _ => True) : WP (fX8_turns σ) (Trn q w (fun x y => F y (q - 1 - x)) σ) := by
  obtain ⟨d0, h0, hd0⟩ := puts_eq (σ := σ)
  have ha := area_le hw.2 hq.2
  have ha2 : w * q = q * w := Nat.mul_comm _ _
  unfold fX8_turns
  simp only [vthen_eq]
  rw [bnd1_of _ h0, gI_A_ne (by omega), e3, e4]
  generalize hσ : sI (sI (sA σ 84 d0) 73 29 (nI q)) 73 30 (nI w) = σ0
  have c3 : ∀ d, gI (sA σ0 83 d) 73 29 = nI q := fun d => by rw [gI_A_ne (by omega), ← hσ, gI_nk (by omega), gI_eq]
  have c4 : ∀ d, gI (sA σ0 83 d) 73 30 = nI w := fun d => by rw [gI_A_ne (by omega), ← hσ, gI_eq]
  have c84 : ∀ d, gI (sA σ0 83 d) 84 = d0 := fun d => by rw [gI_A_ne (by omega), ← hσ, gI_ne (by omega), gI_ne (by omega), gI_A]
  suffices hh : WP (X8_turns_L26 (nI w) (nI q) fuel (0 : Int32) (sA σ0 83 (gI σ0 83))) (fun r => ∃ d, r = sA σ0 83 d ∧ Vis d q w (fun x y => F y (q - 1 - x)) fun _ _ => True) by
    rw [sA_self] at hh
    refine wp_imp hh ?_
    rintro _ ⟨d, rfl, hd⟩
    refine ⟨by rw [← hσ]; rfl, c3 d, c4 d, ?_, fun c k h1 h2 h3 => ?_⟩
    · rw [gI_A]; exact hd
    · rw [gI_A_ne h1, ← hσ, gI_nk (by omega), gI_nk (by omega), gI_A_ne h2]
  unfold X8_turns_L26
  refine wf_2 q (fun j vv s' => vv = nI j ∧ ∃ d, s' = sA σ0 83 d ∧ Vis d q w (fun x y => F y (q - 1 - x)) (fun x y => q - 1 - x < j)) ⟨rfl, _, rfl, fun x y _ _ h => absurd h (by omega)⟩ (by omega) ?_ ?_
  · rintro j _ _ rec hj ⟨rfl, d, rfl, hd⟩ hr
    rw [if_neg (nI_ge hj (by omega))]
    unfold X8_turns_L34
    refine wf_2 w (fun i x s' => x = nI i ∧ ∃ d, s' = sA σ0 83 d ∧ Vis d q w (fun x y => F y (q - 1 - x)) (fun x y => q - 1 - x < j ∨ q - 1 - x = j ∧ y < i)) ⟨rfl, d, rfl, hd.imp fun x y _ _ h => by omega⟩ (by omega) ?_ ?_
    · rintro i _ _ rec2 hi ⟨rfl, d2, rfl, hd2⟩ hr2
      have k1 := cell_lt hi hj
      have k2 := cell_lt (w := q) (h := w) (show q - 1 - j < q by omega) hi
      have i1 : nI w * nI j + nI i = nI (j * w + i) := ix_m _ _ _
      have i2 : nI q * nI i + nI q - 1 - nI j = nI (i * q + (q - 1 - j)) := by
        rw [nI_mul, nI_add, show nI (q * i + q) - 1 = nI (q * i + q - 1) from nI_sub (a := q * i + q) (b := 1) (by omega), nI_sub (by omega), Nat.mul_comm q i]
        exact congrArg nI (by omega)
      rw [if_neg (nI_ge hi (by omega)), c3, c84, i1, i2, grd_eq _ (inb_nI (by omega) (by omega)), grd_eq _ (inb_nI (by omega) (by omega)), vthen_eq, nI_clamp (by omega), nI_clamp (by omega), sI_A, nI_1]
      refine hr2 _ _ ⟨rfl, _, rfl, hd2.put (by omega) (fun x y hx hy h => by omega) ?_⟩
      show d0 (j * w + i) = F i (q - 1 - (q - 1 - j))
      rw [hd0 _ (by omega), show q - 1 - (q - 1 - j) = j by omega]
      exact hF i j hi hj trivial
    · rintro _ _ rec2 ⟨rfl, d2, rfl, hd2⟩
      rw [if_pos (nI_le (Nat.le_refl _) (by omega)), nI_1]
      exact hr _ _ ⟨rfl, _, rfl, hd2.imp fun x y _ _ h => by omega⟩
  · rintro _ _ rec ⟨rfl, d, rfl, hd⟩
    rw [if_pos (nI_le (Nat.le_refl _) (by omega))]
    exact wp_some ⟨d, rfl, hd.imp fun x y _ _ _ => by omega⟩
end TURN
theorem Trn.tr {w q w' q' : Nat} {F F' : Nat → Nat → Int32} {σ σ1 σ2 : SS} (h1 : Trn w q F σ σ1) (h2 : Trn w' q' F' σ1 σ2) : Trn w' q' F' σ σ2 := ⟨h2.1.trans h1.1, h2.2.1, h2.2.2.1, h2.2.2.2.1, fun c k a b d => (h2.2.2.2.2 c k a b d).trans (h1.2.2.2.2 c k a b d)⟩
theorem tW_s (w q k : Nat) : tW w q (k + 1) = tW q w k := by
  unfold tW
  by_cases c : k % 2 = 0
  · rw [if_neg (by omega), if_pos c]
  · rw [if_pos (by omega), if_neg c]
/-- turned from k quarters to k + 1 -/
theorem turn8_s {σ σ1 : SS} {w q k : Nat} {src : Nat → Int32} (hw : 8 ≤ w ∧ w ≤ 40) (hq : 8 ≤ q ∧ q ≤ 40) (hk : k < 4) (h : Trn (tW w q k) (tW q w k) (tF src w q k) σ σ1) : WP (fX8_turns σ1) (Trn (tW w q (k + 1)) (tW q w (k + 1)) (tF src w q (k + 1)) σ) := by
  have a1 := tW_le (k := k) hw hq
  have a2 := tW_le (k := k) hq hw
  refine wp_imp (turns8 ⟨by omega, a1.2⟩ ⟨by omega, a2.2⟩ h.2.1 h.2.2.1 h.2.2.2.1) fun σ2 h2 => ?_
  have h3 := h.tr h2
  rw [tW_s, tW_s]
  exact ⟨h3.1, h3.2.1, h3.2.2.1, h3.2.2.2.1.fn fun x y hx hy => tF_s src hk hx hy, h3.2.2.2.2⟩
theorem turn8 {σ : SS} {w q k : Nat} (hw : 8 ≤ w ∧ w ≤ 40) (hq : 8 ≤ q ∧ q ≤ 40) (e3 : gI σ 73 29 = nI w) (e4 : gI σ 73 30 = nI q) (hk : k < 4) : WP (fX8_turn σ (nI k)) (fun r => r.1 = nI (tW w q k) ∧ Trn (tW w q k) (tW q w k) (tF (gI σ 83) w q k) σ r.2) := by
  unfold fX8_turn
  simp only [in_eq, le_i, Int32.reduceToInt]
  rw [nI_toInt (by omega), if_pos (by omega)]
  unfold X8_turn_L13
  refine wf_2 k (fun i vv s' => vv = nI i ∧ Trn (tW w q i) (tW q w i) (tF (gI σ 83) w q i) σ s') ⟨rfl, rfl, e3, e4, fun _ _ _ _ _ => rfl, fun _ _ _ _ _ => rfl⟩ (by omega) ?_ ?_
  · rintro i _ s' rec hi ⟨rfl, h⟩ hr
    rw [if_neg (nI_ge hi (by omega)), nI_1]
    exact wp_bnd1 (turn8_s hw hq (by omega) h) fun s2 h2 => hr _ _ ⟨rfl, h2⟩
  · rintro _ s' rec ⟨rfl, h⟩
    rw [if_pos (nI_le (Nat.le_refl _) (by omega))]
    exact wp_some ⟨h.2.1, h⟩
theorem op11 : ∀ a σ, Rel σ → st11 Rel a σ := by
  intro a σ ⟨s, f, h⟩
  obtain ⟨t, hst, r3⟩ := st_of h.1
  obtain ⟨hs, hf, hR1, -⟩ := id h.1
  obtain ⟨w, q, hw, hq, e1, e2, e3, e4, hd⟩ := h.2.2.1
  by_cases hc : 0 ≤ (a 1).toInt ∧ (a 1).toInt < 4
  · obtain ⟨k, hk, ek⟩ := in_of (x := a 1) (w := 4) (by decide) hc
    obtain ⟨σ1, x1, hS⟩ := turned7 (σ := σ) (k := k) hst ⟨by omega, hw.2⟩ ⟨by omega, hq.2⟩ e1 e2 hk
    have k83 : gI (swp s t σ1) 83 = gI σ 83 := funext fun j => by rw [swp_I, hS.2.2.2.2 83 j (by omega) (by omega) (by omega)]
    obtain ⟨⟨v, σ2⟩, x2, hv, hT⟩ := turn8 (σ := swp s t σ1) (k := k) hw hq (by rw [swp_I, hS.2.2.2.2 73 29 (by omega) (by omega) (by omega)]; exact e3) (by rw [swp_I, hS.2.2.2.2 73 30 (by omega) (by omega) (by omega)]; exact e4) hk
    rw [k83] at hT
    dsimp only at hv hT
    have r2' : gR σ1 1 2 = s := by rw [hS.1]; exact hR1
    have r3' : gR σ1 1 3 = t := by rw [hS.1]; exact r3
    refine ⟨nI (tW w q k), swp s t σ1, σ2, ?_, by rw [ek, ← hv]; exact x2, t, f, ?_⟩
    · unfold fX7_turn
      simp only [lt_i, le_i, Int32.reduceToInt]
      rw [if_neg (by omega), if_pos (by omega), hR1, r3, ek, bnd1_of _ x1, bnd1_of _ (swap_eq r2' r3'), swp_I, show gR (swp s t σ1) 1 2 = t by unfold swp; rw [gR_sR, gR_sR]; rfl, hS.2.1]
    · have a1 := tW_le (k := k) hw hq
      have a2 := tW_le (k := k) hq hw
      refine RAll.sw hst h (hT.1.trans ?_) ⟨tW w q k, tW q w k, a1, a2, ?_, ?_, hT.2.1, hT.2.2.1, fun j hj => ?_⟩ (fun c j k1 k2 k3 k4 k5 => ?_)
      · funext c j
        show gR (sR (sR σ1 1 2 t) 1 3 s) c j = gR (sR (sR σ 1 2 t) 1 3 s) c j
        rw [gR_sR, gR_sR, gR_sR, gR_sR, hS.1]
      · rw [hT.2.2.2.2 _ _ (by omega) (by omega) (by omega)]; exact hS.2.1
      · rw [hT.2.2.2.2 _ _ (by omega) (by omega) (by omega)]; exact hS.2.2.1
      · obtain ⟨x, y, hx, hy, rfl⟩ := of_ix hj
        rw [hT.2.2.2.1 x y hx hy trivial, hT.2.2.2.2 _ _ (by omega) (by omega) (by omega), swp_I, hS.2.2.2.1 x y hx hy trivial]
        exact ⟨tF_congr hk hx hy fun j hj => (hd j hj).1, tF_rng hk hx hy fun j hj => (hd j hj).2⟩
      · rw [hT.2.2.2.2 _ _ k2 k3 k5, swp_I, hS.2.2.2.2 _ _ (by omega) (by omega) (by omega)]
  · refine ⟨-1, σ, σ, ?_, ?_, s, f, h⟩
    · unfold fX7_turn
      simp only [lt_i, le_i, Int32.reduceToInt]
      repeat' split
      all_goals first | omega | rfl
    · unfold fX8_turn
      simp only [in_eq, lt_i, le_i, Int32.reduceToInt]
      repeat' split
      all_goals first | omega | rfl
