/-! 23: a sheet printed: the picture. -/
section PRINT
variable {σ : SS} {CX CY : Nat → Nat} {v : Nat}
/-- the corners told -/
def Cn (CX CY : Nat → Nat) (w q : Nat) (σ : SS) : Prop := ∀ k, k < 4 → gI σ 28 k = nI (CX k) ∧ gI σ 29 k = nI (CY k) ∧ (1 ≤ CX k ∧ CX k + 2 ≤ w) ∧ 1 ≤ CY k ∧ CY k + 2 ≤ q
theorem holds_s {w q s k : Nat} (hw : w ≤ 40) (hq : q ≤ 40) (e1 : gI σ s 0 = nI w) (e2 : gI σ s 1 = nI q) (hC : Cn CX CY w q σ) (hk : k < 4) : fX6_holdsRound σ s (gI σ 28 k) (gI σ 29 k) = true := by
  obtain ⟨c1, c2, c3, c4⟩ := hC k hk
  have h1 := has_eq (σ := σ) (s := s) e1 e2 hw hq (nI (CX k) - 1) (nI (CY k) - 1)
  have h2 := has_eq (σ := σ) (s := s) e1 e2 hw hq (nI (CX k) + 1) (nI (CY k) + 1)
  have a1 : nI (CX k) - (1 : Int32) = nI (CX k - 1) := nI_sub (a := CX k) (b := 1) c3.1
  have a2 : nI (CY k) - (1 : Int32) = nI (CY k - 1) := nI_sub (a := CY k) (b := 1) c4.1
  rw [a1, a2, nI_toInt (by omega), nI_toInt (by omega)] at h1
  rw [nI_1, nI_1, nI_toInt (by omega), nI_toInt (by omega)] at h2
  unfold fX6_holdsRound
  simp only [vthen_q]
  rw [c1, c2, a1, a2, nI_1, nI_1, if_pos (by rw [h1]; omega), if_pos (by rw [h2]; omega)]
theorem print_s (h : Sd σ) (hC : Cn CX CY (wO σ) (hO σ) σ) (hv : 1 ≤ v ∧ v ≤ 9) : WP (fX7_print σ (nI v)) (fun r => r.1 = itr (fun i n => if gI r.2 (sO σ + 1) i < 1 then n else n + 1) 0 (wO σ * hO σ) ∧ gR r.2 = gR σ ∧ (∀ c k, c ≠ sO σ → c ≠ sO σ + 1 → c ≠ 45 → gI r.2 c k = gI σ c k) ∧ Pc (wO σ) (hO σ) (alF (wO σ) (hO σ) (nI v) CX CY (fun _ => 1) (2 * uO σ) (2 * vO σ) (aO σ) (bO σ) (gI σ 30) (xO σ) (yO σ) (nO σ) (prF CX CY 4) (qO σ)) r.2) := by
  obtain ⟨hs, hf, hw, hq, -, e1, e2, -, -, -, -, hU, hV, hA, hB, hT, g1, g2, g3, g4, g6, hc⟩ := id h.1
  obtain ⟨hQ, e5, -, hF⟩ := id h.2.1
  have hS1 : ∀ k, k < 4 → 1 ≤ (fun _ : Nat => 1) k ∧ (fun _ : Nat => 1) k ≤ 1600 := fun k _ => ⟨Nat.le_refl 1, by show 1 ≤ 1600; omega⟩
  have har := area_le hw.2 hq.2
  have em : fX6_empty σ (sO σ) (nI (wO σ)) (nI (hO σ)) = some (flI (sI (sI σ (sO σ) 0 (nI (wO σ))) (sO σ) 1 (nI (hO σ))) (sO σ + 1) 1600 0) := by
    unfold fX6_empty; rw [vthen_q, vthen_q, vthen_q]
  have hchk : ∀ k61 : Unit → Option (Int32 × SS), X7_print_L25 σ k61 fuel (0 : Int32) = k61 () := fun k61 => by
    unfold X7_print_L25
    refine lp_1 (fun i => nI i) 4 _ (fun k hk rec => ?_) (fun rec => ?_) fuel (fuel_gt (by omega))
    · rw [if_neg (by show ¬ nI 4 ≤ nI k; exact nI_ge hk (by omega)), grd_eq _ (inb_nI hk (by decide)), nI_clamp (by omega), if_pos (show fX6_holdsRound σ (gR σ 1 2) (gI σ 28 k) (gI σ 29 k) = true from holds_s hw.2 hq.2 e1 e2 hC hk), nI_1]
    · rw [if_pos (by decide)]
  unfold fX7_print
  rw [show gR σ 1 5 = fO σ from rfl, h.2.2.2.1, if_neg (by decide), if_neg (c := nI v < (1 : Int32)) (by rw [lt_i, nI_toInt (by omega)]; simp; omega), if_pos (c := nI v ≤ (9 : Int32)) (by rw [le_i, nI_toInt (by omega)]; simp; omega), hchk]
  rw [show gR σ 1 2 = sO σ from rfl, e1, e2, bnd1_of _ em]
  have k0 : ∀ c, c ≠ sO σ → c ≠ sO σ + 1 → gI (flI (sI (sI σ (sO σ) 0 (nI (wO σ))) (sO σ) 1 (nI (hO σ))) (sO σ + 1) 1600 0) c = gI σ c := fun c c1 c2 => by rw [gI_fl_ne c2, gI_ne c1, gI_ne c1]
  have k1 : gI (flI (sI (sI σ (sO σ) 0 (nI (wO σ))) (sO σ) 1 (nI (hO σ))) (sO σ + 1) 1600 0) (sO σ) 0 = nI (wO σ) := by rw [gI_fl_ne (by omega), gI_nk (by omega), gI_eq]
  have k2 : gI (flI (sI (sI σ (sO σ) 0 (nI (wO σ))) (sO σ) 1 (nI (hO σ))) (sO σ + 1) 1600 0) (sO σ) 1 = nI (hO σ) := by rw [gI_fl_ne (by omega), gI_eq]
  refine puts7 (cx := CX) (cy := CY) hw.2 hq.2 hs k1 k2 rfl (fun k hk4 => ?_) (fun x y hx hy _ => ?_) (fun t x1 x2 x3 x4 => ?_)
  · rw [k0 28 (by omega) (by omega), k0 29 (by omega) (by omega)]
    exact hC k hk4
  · have hl := cell_lt hx hy
    rw [gI_fl (by omega)]; rfl
  · have y5 : gR t 1 5 = fO σ := by rw [x1]; rfl
    have y2 : gR t 1 2 = sO σ := by rw [x1]; rfl
    rw [y5, x2 (fO σ) (by omega), k0 (fO σ) (by omega) (by omega), g1, g2]
    refine wp_bnd1 (spread7 (X := CX) (Y := CY) (S := fun _ => 1) x4 hU.2 hV.2) ?_
    rintro r ⟨a1, a2, a3⟩
    have kk : ∀ c k, c ≠ sO σ → c ≠ sO σ + 1 → c ≠ 45 → gI r c k = gI σ c k := fun c k c1 c2 c3 => by rw [a2 c k c3, x2 c c2, k0 c c1 c2]
    have ks : ∀ k, gI r (sO σ) k = gI (flI (sI (sI σ (sO σ) 0 (nI (wO σ))) (sO σ) 1 (nI (hO σ))) (sO σ + 1) 1600 0) (sO σ) k := fun k => by rw [a2 (sO σ) k (by omega), x2 (sO σ) (by omega)]
    refine wp_imp (ticks7 (T := gI σ 30) (N := nO σ) (cx := xO σ) (cy := yO σ) (A := aO σ) (B := bO σ) hs hf hw.2 hq.2 (by omega) (by omega) hQ hT (by rw [a1]; exact y2) (by rw [a1]; exact y5) (by rw [ks]; exact k1) (by rw [ks]; exact k2) (by rw [kk _ _ (by omega) (by omega) (by omega)]; exact g3) (by rw [kk _ _ (by omega) (by omega) (by omega)]; exact g4) (by rw [kk _ _ (by omega) (by omega) (by omega)]; exact e5) (fun p hp => ?_) (fun k hk' => ?_) hS1 a3 (G := prF CX CY 4) ?_) ?_
    · obtain ⟨f1, f2, f3⟩ := hF p hp
      rw [kk _ _ (by omega) (by omega) (by omega), kk _ _ (by omega) (by omega) (by omega), kk _ _ (by omega) (by omega) (by omega)]
      exact ⟨f1.2, f2, f3, rfl⟩
    · rw [kk _ _ (by omega) (by omega) (by omega), kk _ _ (by omega) (by omega) (by omega)]
      exact hc k hk'
    · rw [show gI r (sO σ + 1) = gI t (sO σ + 1) from funext fun k => a2 _ _ (by omega)]; exact x3
    · rintro _ ⟨d, rfl, hd⟩
      have er : gR (sA r (sO σ + 1) d) = gR σ := a1.trans x1
      have es : sO (sA r (sO σ + 1) d) = sO σ := congrFun (congrFun er 1) 2
      refine ⟨by dsimp only; rw [gI_A], er, fun c k c1 c2 c3 => by dsimp only; rw [gI_A_ne c2]; exact kk c k c1 c2 c3, ?_⟩
      unfold Pc
      dsimp only
      rw [es]
      exact ⟨by rw [gI_A_ne (by omega), ks]; exact k1, by rw [gI_A_ne (by omega), ks]; exact k2, fun x y hx hy => by rw [gI_A]; exact hd x y hx hy trivial⟩
end PRINT
/-! the units' dots of an upright map -/
section UPRIGHT
variable {U V c : Nat} {Z S : Nat → Nat}
theorem mp_up (hS : ∀ k, k < 4 → S k = c) (z0 : Z 0 = c * 3) (z1 : Z 1 = c * (U + 3)) (z2 : Z 2 = c * 3) (z3 : Z 3 = c * (U + 3)) {p r : Nat} (hp : p ≤ 2 * U) (hr : r ≤ 2 * V) : mpN Z S (2 * U) (2 * V) p r = c * c * c * c * (2 * U * V * (6 + p)) := by
  have o : ∀ k, k < 4 → oth S k 4 = c * c * c := fun k hk => by
    obtain ⟨o0, o1, o2, o3⟩ := oth_e S
    rcases (show k = 0 ∨ k = 1 ∨ k = 2 ∨ k = 3 by omega) with rfl | rfl | rfl | rfl
    · rw [o0, hS 1 (by decide), hS 2 (by decide), hS 3 (by decide), Nat.one_mul]
    · rw [o1, hS 0 (by decide), hS 2 (by decide), hS 3 (by decide), Nat.one_mul]
    · rw [o2, hS 0 (by decide), hS 1 (by decide), hS 3 (by decide), Nat.one_mul]
    · rw [o3, hS 0 (by decide), hS 1 (by decide), hS 2 (by decide), Nat.one_mul]
  unfold mpN
  rw [o 0 (by decide), o 1 (by decide), o 2 (by decide), o 3 (by decide), z0, z1, z2, z3]
  obtain ⟨p', hp'⟩ := Nat.le.dest hp
  obtain ⟨r', hr'⟩ := Nat.le.dest hr
  rw [show 2 * U - p = p' by omega, show 2 * V - r = r' by omega]
  have e1 : c * 3 * (c * c * c) * (p' * r') + c * (U + 3) * (c * c * c) * (p * r') + c * 3 * (c * c * c) * (p' * r) + c * (U + 3) * (c * c * c) * (p * r) = c * c * c * c * ((3 * p' + (U + 3) * p) * (r' + r)) := by
    simp only [Nat.mul_add, Nat.add_mul]
    have h1 : ∀ a b d : Nat, c * a * (c * c * c) * (b * d) = c * c * c * c * (a * b * d) := fun a b d => by ac_rfl
    simp only [h1]
    have h2 : ∀ a b d : Nat, c * 3 * (c * c * c) * (a * b) = c * c * c * c * (3 * a * b) := fun a b _ => by ac_rfl
    simp only [Nat.mul_add, Nat.add_mul] at *
    omega
  rw [e1, show r' + r = 2 * V by omega]
  congr 1
  have e2 : 3 * p' + (U + 3) * p = U * (6 + p) := by
    have : 3 * p' = 3 * (2 * U) - 3 * p := by omega
    rw [Nat.add_mul, Nat.mul_add]
    omega
  rw [e2]; ac_rfl
end UPRIGHT
