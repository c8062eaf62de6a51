/-! Print kept: a box inked, the class's half. -/
/-- a dot put where it lies on the picture -/
def ptF (w q : Nat) (v : Int32) (xx yy : Int32) (G : Nat → Nat → Int32) (x y : Nat) : Int32 := if ((0 ≤ xx.toInt ∧ xx.toInt < w) ∧ 0 ≤ yy.toInt ∧ yy.toInt < q) ∧ x = xx.toInt.toNat ∧ y = yy.toInt.toNat then v else G x y
theorem ptF_in {w q X Y : Nat} {v : Int32} {G : Nat → Nat → Int32} {d : Nat → Int32} (hw : w ≤ 40) (hq : q ≤ 40) (hX : X < w) (hY : Y < q) (h : Vis d w q G fun _ _ => True) : Vis (upd d (Y * w + X) v) w q (ptF w q v (nI X) (nI Y) G) fun _ _ => True := by
  have tx : (nI X).toInt = X := nI_toInt (by omega)
  have ty : (nI Y).toInt = Y := nI_toInt (by omega)
  refine h.chg hX (fun x y hx hy hn => ?_) ?_
  · unfold ptF; rw [tx, ty, if_neg (by omega)]
  · unfold ptF; rw [tx, ty, if_pos (by omega)]
theorem ptF_out {w q : Nat} {v xx yy : Int32} {G : Nat → Nat → Int32} {d : Nat → Int32} (hn : ¬ ((0 ≤ xx.toInt ∧ xx.toInt < w) ∧ 0 ≤ yy.toInt ∧ yy.toInt < q)) (h : Vis d w q G fun _ _ => True) : Vis d w q (ptF w q v xx yy G) fun _ _ => True := by
  refine h.fn fun x y hx hy => ?_
  unfold ptF; rw [if_neg fun k => hn k.1]
theorem pt7 {t : SS} {s w q : Nat} {v xx yy : Int32} {G : Nat → Nat → Int32} (hw : w ≤ 40) (hq : q ≤ 40) (e1 : gI t s 0 = nI w) (e2 : gI t s 1 = nI q) (h : Vis (gI t (s + 1)) w q G fun _ _ => True) : ∃ b d, fX6_put t s xx yy v = some (b, sA t (s + 1) d) ∧ Vis d w q (ptF w q v xx yy G) fun _ _ => True := by
  by_cases c : (0 ≤ xx.toInt ∧ xx.toInt < w) ∧ 0 ≤ yy.toInt ∧ yy.toInt < q
  · obtain ⟨X, hX, rfl⟩ := in_of (by omega) c.1
    obtain ⟨Y, hY, rfl⟩ := in_of (by omega) c.2
    obtain ⟨b, z, -⟩ := put_in (σ := t) (s := s) e1 e2 hw hq hX hY v
    refine ⟨b, upd (gI t (s + 1)) (Y * w + X) v, ?_, ptF_in hw hq hX hY h⟩
    rw [z, ← sI_A, sA_self]
  · refine ⟨false, gI t (s + 1), ?_, ptF_out c h⟩
    rw [put_out e1 e2 hw hq c v, sA_self]
