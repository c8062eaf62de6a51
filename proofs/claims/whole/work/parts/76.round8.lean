/-! Print kept: a round put, the reference's half. -/
theorem round8 {τ : SS} {w q X Y c : Nat} {G : Nat → Nat → Int32} (hw : w ≤ 40) (hq : q ≤ 40) (hc : c < 4) (e3 : gI τ 73 29 = nI w) (e89 : gI τ 89 c = nI X) (e90 : gI τ 90 c = nI Y) (hX : 1 ≤ X ∧ X + 2 ≤ w) (hY : 1 ≤ Y ∧ Y + 2 ≤ q) (hG : Vis (gI τ 83) w q G fun _ _ => True) {k135 : SS → Option (Int32 × SS)} {P : Int32 × SS → Prop} (hk : ∀ d, Vis d w q (rnF 9 G X Y 0 (Y + 2)) (fun _ _ => True) → WP (k135 (sA τ 83 d)) P) : WP (X8_print_L86 (nI c) k135 fuel (0 : Int32) τ) P := by
  have ha := area_le hw hq
  rw [← sA_self (σ := τ) (c := 83)]
  unfold X8_print_L86
  refine wf_2 9 (fun m v t => v = nI m ∧ ∃ d, t = sA τ 83 d ∧ Vis d w q (rnF 9 G X Y (X - 1 + m % 3) (Y - 1 + m / 3)) fun _ _ => True) ⟨rfl, _, rfl, hG.fn fun x y hx hy => ?_⟩ (by omega) ?_ ?_
  · unfold rnF; rw [if_neg (by omega)]
  · rintro m _ _ rec hm ⟨rfl, d, rfl, hd⟩ hr
    have y1 : m / 3 ≤ 2 := by omega
    have x1 : m % 3 ≤ 2 := by omega
    have hlt := cell_lt (X := X - 1 + m % 3) (Y := Y - 1 + m / 3) (w := w) (h := q) (by omega) (by omega)
    have hcm : w * (Y - 1 + m / 3) = (Y - 1 + m / 3) * w := Nat.mul_comm _ _
    have ei : nI w * (nI Y - 1 + nI m / 3) + nI X - 1 + irm (nI m) 3 = nI ((Y - 1 + m / 3) * w + (X - 1 + m % 3)) := by
      rw [show nI Y - 1 = nI (Y - 1) from nI_sub (a := Y) (b := 1) (by omega), show nI m / 3 = nI (m / 3) from pk_div (d := 3) (by omega) (by omega) (by omega), show irm (nI m) 3 = nI (m % 3) from pk_rem (d := 3) (by omega) (by omega) (by omega), nI_add, nI_mul, nI_add, show nI (w * (Y - 1 + m / 3) + X) - 1 = nI (w * (Y - 1 + m / 3) + X - 1) from nI_sub (b := 1) (by omega), nI_add, hcm]
      exact congrArg nI (by omega)
    rw [if_neg (by show ¬ nI 9 ≤ nI m; exact nI_ge hm (by omega)), nI_clamp (show c < 2 ^ 31 by omega), gI_A_ne (by omega), gI_A_ne (by omega), gI_A_ne (by omega), e3, e89, e90, ei, nI_clamp (by omega), nI_1]
    refine wp_grd (inb_nI hc (by decide)) (wp_grd (inb_nI (by omega) (by decide)) (wp_v ?_))
    rw [sI_A]
    refine hr _ _ ⟨rfl, _, rfl, ?_⟩
    have hp := rn_put hd (show X - 1 + m % 3 < w by omega) (by omega)
    by_cases c2 : m % 3 = 2
    · rw [show (m + 1) % 3 = 0 by omega, show (m + 1) / 3 = m / 3 + 1 by omega]
      refine hp.fn fun x y hx hy => ?_
      unfold rnF
      by_cases c3 : (X ≤ x + 1 ∧ x ≤ X + 1 ∧ Y ≤ y + 1 ∧ y < Y - 1 + (m / 3 + 1)) ∨ (y = Y - 1 + (m / 3 + 1) ∧ X ≤ x + 1 ∧ x < X - 1 + 0)
      · rw [if_pos c3, if_pos (by omega)]
      · rw [if_neg c3, if_neg (by omega)]
    · rw [show X - 1 + (m + 1) % 3 = X - 1 + m % 3 + 1 by omega, show (m + 1) / 3 = m / 3 by omega]
      exact hp
  · rintro _ _ rec ⟨rfl, d, rfl, hd⟩
    rw [if_pos (by decide)]
    refine hk d (hd.fn fun x y hx hy => ?_)
    rw [show X - 1 + 9 % 3 = X - 1 by omega, show Y - 1 + 9 / 3 = Y + 2 by omega]
    unfold rnF
    by_cases c3 : (X ≤ x + 1 ∧ x ≤ X + 1 ∧ Y ≤ y + 1 ∧ y < Y + 2) ∨ (y = Y + 2 ∧ X ≤ x + 1 ∧ x < X - 1)
    · rw [if_pos c3, if_pos (by omega)]
    · rw [if_neg c3, if_neg (by omega)]
