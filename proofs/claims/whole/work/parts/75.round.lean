/-! Print kept: a round put, the class's half. -/
def rnF (v : Int32) (G : Nat → Nat → Int32) (X Y i j x y : Nat) : Int32 := if (X ≤ x + 1 ∧ x ≤ X + 1 ∧ Y ≤ y + 1 ∧ y < j) ∨ (y = j ∧ X ≤ x + 1 ∧ x < i) then v else G x y
section ROUND7
variable {σ : SS} {s w q X Y : Nat} {v : Int32}
theorem rn_put {G : Nat → Nat → Int32} {i j : Nat} {d : Nat → Int32} (h : Vis d w q (rnF v G X Y i j) fun _ _ => True) (hi : i < w) (hX : X ≤ i + 1) : Vis (upd d (j * w + i) v) w q (rnF v G X Y (i + 1) j) fun _ _ => True := by
  refine h.chg hi (fun x y hx hy hn => ?_) ?_
  · unfold rnF
    by_cases c : (X ≤ x + 1 ∧ x ≤ X + 1 ∧ Y ≤ y + 1 ∧ y < j) ∨ (y = j ∧ X ≤ x + 1 ∧ x < i)
    · rw [if_pos c, if_pos (by omega)]
    · rw [if_neg c, if_neg (by omega)]
  · unfold rnF
    rw [if_pos (by omega)]
theorem round7 (hw : w ≤ 40) (hq : q ≤ 40) (e1 : gI σ s 0 = nI w) (e2 : gI σ s 1 = nI q) (hX : 1 ≤ X ∧ X + 2 ≤ w) (hY : 1 ≤ Y ∧ Y + 2 ≤ q) {G : Nat → Nat → Int32} (hG : Vis (gI σ (s + 1)) w q G fun _ _ => True) : WP (fX6_putRound σ s (nI X) (nI Y) v) (fun r => ∃ d, r = sA σ (s + 1) d ∧ Vis d w q (rnF v G X Y 0 (Y + 2)) fun _ _ => True) := by
  have g0 : ∀ d, gI (sA σ (s + 1) d) s 0 = nI w := fun d => by rw [gI_A_ne (by omega)]; exact e1
  have g1 : ∀ d, gI (sA σ (s + 1) d) s 1 = nI q := fun d => by rw [gI_A_ne (by omega)]; exact e2
  have p1 : nI Y - 1 = nI (Y - 1) := nI_sub (a := Y) (b := 1) (by omega)
  have p2 : nI X - 1 = nI (X - 1) := nI_sub (a := X) (b := 1) (by omega)
  suffices hh : WP (fX6_putRound (sA σ (s + 1) (gI σ (s + 1))) s (nI X) (nI Y) v) (fun r => ∃ d, r = sA σ (s + 1) d ∧ Vis d w q (rnF v G X Y 0 (Y + 2)) fun _ _ => True) by
    rw [sA_self] at hh; exact hh
  unfold fX6_putRound X6_putRound_L5
  rw [vthen_q, p1]
  refine wf_2 3 (fun jj c t => c = nI (Y - 1 + jj) ∧ ∃ d, t = sA σ (s + 1) d ∧ Vis d w q (rnF v G X Y 0 (Y - 1 + jj)) fun _ _ => True) ⟨rfl, _, rfl, hG.fn fun x y hx hy => ?_⟩ (by omega) ?_ ?_
  · unfold rnF; rw [if_neg (by omega)]
  · rintro jj _ _ rec hj ⟨rfl, d, rfl, hd⟩ hr
    rw [nI_1, if_neg (fun k => by have := nI_ltN k (by omega) (by omega); omega), vthen_q, p2, nI_1]
    unfold X6_putRound_L18
    refine wf_2 3 (fun ii c t => c = nI (X - 1 + ii) ∧ ∃ d, t = sA σ (s + 1) d ∧ Vis d w q (rnF v G X Y (X - 1 + ii) (Y - 1 + jj)) fun _ _ => True) ⟨rfl, d, rfl, hd.fn fun x y hx hy => ?_⟩ (by omega) ?_ ?_
    · unfold rnF
      by_cases c : (X ≤ x + 1 ∧ x ≤ X + 1 ∧ Y ≤ y + 1 ∧ y < Y - 1 + jj) ∨ (y = Y - 1 + jj ∧ X ≤ x + 1 ∧ x < X - 1 + 0)
      · rw [if_pos c, if_pos (by omega)]
      · rw [if_neg c, if_neg (by omega)]
    · rintro ii _ _ rec2 hi ⟨rfl, d2, rfl, hd2⟩ hr2
      rw [nI_1, if_neg (fun k => by have := nI_ltN k (by omega) (by omega); omega), nI_1]
      obtain ⟨b, z, -⟩ := put_in (σ := sA σ (s + 1) d2) (s := s) (w := w) (h := q) (X := X - 1 + ii) (Y := Y - 1 + jj) (g0 d2) (g1 d2) hw hq (by omega) (by omega) v
      rw [bnd_of _ z, sI_A]
      exact hr2 _ _ ⟨rfl, _, rfl, rn_put hd2 (by omega) (by omega)⟩
    · rintro _ _ rec2 ⟨rfl, d2, rfl, hd2⟩
      rw [nI_1, if_pos (nI_lt (by omega) (by omega))]
      refine hr _ _ ⟨rfl, d2, rfl, hd2.fn fun x y hx hy => ?_⟩
      unfold rnF
      by_cases c : (X ≤ x + 1 ∧ x ≤ X + 1 ∧ Y ≤ y + 1 ∧ y < Y - 1 + jj) ∨ (y = Y - 1 + jj ∧ X ≤ x + 1 ∧ x < X - 1 + 3)
      · rw [if_pos c, if_pos (by omega)]
      · rw [if_neg c, if_neg (by omega)]
  · rintro _ _ rec ⟨rfl, d, rfl, hd⟩
    rw [nI_1, if_pos (nI_lt (by omega) (by omega))]
    refine wp_some ⟨d, rfl, ?_⟩
    rw [show Y - 1 + 3 = Y + 2 by omega] at hd
    exact hd
end ROUND7
