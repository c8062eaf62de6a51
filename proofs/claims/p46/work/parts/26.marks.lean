/-! 26: the four squares are the marks. -/
def cX (U k : Nat) : Nat := if k % 2 = 0 then 3 else U + 3
def cY (V k : Nat) : Nat := if k < 2 then 3 else V + 3
theorem cc {k : Nat} (U V : Nat) (hk : k < 4) : (k = 0 ∧ cX U k = 3 ∧ cY V k = 3) ∨ (k = 1 ∧ cX U k = U + 3 ∧ cY V k = 3) ∨ (k = 2 ∧ cX U k = 3 ∧ cY V k = V + 3) ∨ (k = 3 ∧ cX U k = U + 3 ∧ cY V k = V + 3) := by
  rcases (show k = 0 ∨ k = 1 ∨ k = 2 ∨ k = 3 by omega) with rfl | rfl | rfl | rfl
  · exact Or.inl ⟨rfl, rfl, rfl⟩
  · exact Or.inr (Or.inl ⟨rfl, rfl, rfl⟩)
  · exact Or.inr (Or.inr (Or.inl ⟨rfl, rfl, rfl⟩))
  · exact Or.inr (Or.inr (Or.inr ⟨rfl, rfl, rfl⟩))
/-- the dots where boxes are -/
def inMid (U V x y : Nat) : Prop := (6 ≤ x ∧ x ≤ U + 1) ∧ 6 ≤ y ∧ y ≤ V + 1
/-- a sheet's ink: the squares, and some of the middle -/
def SqInk (U V w q : Nat) (ink : Nat → Prop) : Prop := (∀ x y, x < w → y < q → ink (y * w + x) → (∃ k, k < 4 ∧ inSq (cX U) (cY V) k x y) ∨ inMid U V x y) ∧ ∀ k x y, k < 4 → x < w → y < q → inSq (cX U) (cY V) k x y → ink (y * w + x)
section MARKS
variable {U V w q spk : Nat} {ink : Nat → Prop}
def stS (U V w k : Nat) : Nat := (cY V k - 1) * w + (cX U k - 1)
theorem nbr_xy {x y x' y' : Nat} (hx : x < w) (hx' : x' < w) (h : nbr w q (y * w + x) (y' * w + x')) : x' < w ∧ y' < q ∧ ((y = y' ∧ (x + 1 = x' ∨ x' + 1 = x)) ∨ (x = x' ∧ (y + 1 = y' ∨ y' + 1 = y))) := by
  obtain ⟨a, b, a', b', h1, h2, h3, h4, e1, e2, h5⟩ := h
  have m1 := ix_mod (y := y) hx
  have m2 := ix_mod (y := y') hx'
  have d1 := ix_div (y := y) hx
  have d2 := ix_div (y := y') hx'
  rw [e1, ix_mod h1] at m1
  rw [e1, ix_div h1] at d1
  rw [e2, ix_mod h3] at m2
  rw [e2, ix_div h3] at d2
  subst m1 m2 d1 d2
  exact ⟨h3, h4, h5⟩
theorem xy_of {w q j : Nat} (hj : j < w * q) : ∃ x y, x < w ∧ y < q ∧ j = y * w + x ∧ j % w = x ∧ j / w = y := by
  rcases Nat.eq_zero_or_pos w with e | e
  · subst e; rw [Nat.zero_mul] at hj; omega
  · exact ⟨j % w, j / w, Nat.mod_lt _ e, Nat.div_lt_of_lt_mul hj, by rw [Nat.mul_comm]; exact (Nat.div_add_mod j w).symm, rfl, rfl⟩
/-- a class of ink stays where it began -/
theorem conn_in {T : Nat → Nat → Prop} (hT : ∀ x y x' y', T x y → x < w → y < q → x' < w → y' < q → ((y = y' ∧ (x + 1 = x' ∨ x' + 1 = x)) ∨ (x = x' ∧ (y + 1 = y' ∨ y' + 1 = y))) → ink (y' * w + x') → T x' y') {a j : Nat} (ha : a < w * q) (h0 : T (a % w) (a / w)) (hc : Conn w q ink a j) : j < w * q ∧ T (j % w) (j / w) := by
  refine hc (fun j => j < w * q ∧ T (j % w) (j / w)) ⟨ha, h0⟩ fun i j hi hn hj => ?_
  have hjl := hn.lt.2
  obtain ⟨x, y, hx, hy, e1, e2, e3⟩ := xy_of hi.1
  obtain ⟨x', y', hx', hy', f1, f2, f3⟩ := xy_of hjl
  rw [e1, f1] at hn
  obtain ⟨-, -, hh⟩ := nbr_xy hx hx' hn
  rw [f2, f3]
  refine ⟨hjl, hT x y x' y' (by rw [← e2, ← e3]; exact hi.2) hx hy hx' hy' hh (by rw [← f1]; exact hj)⟩
theorem conn_sq1 (hU : 4 ≤ U) (hV : 4 ≤ V) (hw : w = U + 7) (hq : q = V + 7) (hI : SqInk U V w q ink) {k : Nat} (hk : k < 4) {a j : Nat} (ha : a < w * q) (h0 : inSq (cX U) (cY V) k (a % w) (a / w)) (hc : Conn w q ink a j) : j < w * q ∧ inSq (cX U) (cY V) k (j % w) (j / w) := by
  refine conn_in (T := inSq (cX U) (cY V) k) (fun x y x' y' h1 hx hy hx' hy' hn hi => ?_) ha h0 hc
  have c1 := cc U V hk
  rcases hI.1 x' y' hx' hy' hi with ⟨k', hk', h2⟩ | h2
  · have c2 := cc U V hk'
    unfold inSq at *
    omega
  · unfold inSq inMid at *
    omega
theorem conn_mid (hU : 4 ≤ U) (hV : 4 ≤ V) (hw : w = U + 7) (hq : q = V + 7) (hI : SqInk U V w q ink) {a j : Nat} (ha : a < w * q) (h0 : inMid U V (a % w) (a / w)) (hc : Conn w q ink a j) : j < w * q ∧ inMid U V (j % w) (j / w) := by
  refine conn_in (T := inMid U V) (fun x y x' y' h1 hx hy hx' hy' hn hi => ?_) ha h0 hc
  rcases hI.1 x' y' hx' hy' hi with ⟨k', hk', h2⟩ | h2
  · have c2 := cc U V hk'
    unfold inSq inMid at *
    omega
  · exact h2
theorem sq_st (hU : 4 ≤ U) (hV : 4 ≤ V) (hw : w = U + 7) (hq : q = V + 7) {k : Nat} (hk : k < 4) : stS U V w k < w * q ∧ stS U V w k % w = cX U k - 1 ∧ stS U V w k / w = cY V k - 1 := by
  have c1 := cc U V hk
  have hx : cX U k - 1 < w := by omega
  have hy : cY V k - 1 < q := by omega
  exact ⟨cell_lt hx hy, ix_mod hx, ix_div hx⟩
theorem conn_sq2 (hU : 4 ≤ U) (hV : 4 ≤ V) (hw : w = U + 7) (hq : q = V + 7) (hI : SqInk U V w q ink) {k : Nat} (hk : k < 4) {x y : Nat} (hx : x < w) (hy : y < q) (h : inSq (cX U) (cY V) k x y) : Conn w q ink (stS U V w k) (y * w + x) := by
  have c1 := cc U V hk
  have hor : ∀ d, d ≤ 2 → Conn w q ink (stS U V w k) ((cY V k - 1) * w + (cX U k - 1 + d)) := by
    intro d
    induction d with
    | zero => intro _; exact Conn.rf
    | succ d ih =>
      intro hd
      refine (ih (by omega)).step (nbr_r (x := cX U k - 1 + d) (by omega) (by omega)) (hI.2 k (cX U k - 1 + (d + 1)) _ hk (by omega) (by omega) ?_)
      unfold inSq; omega
  have ver : ∀ e, e ≤ 2 → ∀ d, d ≤ 2 → Conn w q ink (stS U V w k) ((cY V k - 1 + e) * w + (cX U k - 1 + d)) := by
    intro e
    induction e with
    | zero => intro _ d hd; exact hor d hd
    | succ e ih =>
      intro he d hd
      refine (ih (by omega) d hd).step (nbr_d (y := cY V k - 1 + e) (by omega) (by omega)) (hI.2 k (cX U k - 1 + d) (cY V k - 1 + (e + 1)) hk (by omega) (by omega) ?_)
      unfold inSq; omega
  unfold inSq at h
  have := ver (y - (cY V k - 1)) (by omega) (x - (cX U k - 1)) (by omega)
  rw [show cY V k - 1 + (y - (cY V k - 1)) = y by omega, show cX U k - 1 + (x - (cX U k - 1)) = x by omega] at this
  exact this
theorem sq_in (hU : 4 ≤ U) (hV : 4 ≤ V) (hw : w = U + 7) (hq : q = V + 7) {k : Nat} (hk : k < 4) : inSq (cX U) (cY V) k (stS U V w k % w) (stS U V w k / w) := by
  obtain ⟨-, e1, e2⟩ := sq_st hU hV hw hq hk
  have c1 := cc U V hk
  rw [e1, e2]; unfold inSq; omega
theorem sq_conn (hU : 4 ≤ U) (hV : 4 ≤ V) (hw : w = U + 7) (hq : q = V + 7) (hI : SqInk U V w q ink) {k : Nat} (hk : k < 4) {j : Nat} (hj : j < w * q) : Conn w q ink (stS U V w k) j ↔ inSq (cX U) (cY V) k (j % w) (j / w) := by
  constructor
  · exact fun h => (conn_sq1 hU hV hw hq hI hk (sq_st hU hV hw hq hk).1 (sq_in hU hV hw hq hk) h).2
  · intro h
    obtain ⟨x, y, hx, hy, e1, e2, e3⟩ := xy_of hj
    rw [e2, e3] at h
    rw [e1]
    exact conn_sq2 hU hV hw hq hI hk hx hy h
theorem sq_is (hU : 4 ≤ U) (hV : 4 ≤ V) (hw : w = U + 7) (hq : q = V + 7) (hI : SqInk U V w q ink) {k : Nat} (hk : k < 4) : isSt w q ink (stS U V w k) := by
  have c1 := cc U V hk
  obtain ⟨h1, e1, e2⟩ := sq_st hU hV hw hq hk
  have hin := sq_in hU hV hw hq hk
  have hink : ink (stS U V w k) := by
    have := hI.2 k (cX U k - 1) (cY V k - 1) hk (by omega) (by omega) (by rw [← e1, ← e2]; exact hin)
    exact this
  refine ⟨h1, hink, fun j hj hi hc => ?_⟩
  have hjl : j < w * q := by omega
  have := (sq_conn hU hV hw hq hI hk hjl).mp (Conn.sym hi hc)
  obtain ⟨x, y, hx, hy, f1, f2, f3⟩ := xy_of hjl
  rw [f2, f3] at this
  unfold inSq at this
  have hlt : y * w + x < (cY V k - 1) * w + (cX U k - 1) := by rw [← f1]; exact hj
  have hm : (cY V k - 1) * w ≤ y * w := Nat.mul_le_mul_right w (by omega)
  omega
theorem sq_sum (hU : 4 ≤ U) (hV : 4 ≤ V) (hw : w = U + 7) (hq : q = V + 7) (hI : SqInk U V w q ink) {k : Nat} (hk : k < 4) : szS w q ink (stS U V w k) = 9 ∧ gs (Conn w q ink (stS U V w k)) (fun j => j % w) (w * q) = 9 * cX U k ∧ gs (Conn w q ink (stS U V w k)) (fun j => j / w) (w * q) = 9 * cY V k := by
  have c1 := cc U V hk
  have key := rec_gs (w := w) (q := q) (X0 := cX U k - 1) (Y0 := cY V k - 1) (a := 3) (b := 3) (m := Conn w q ink (stS U V w k)) (by decide) (by omega) (by omega) (fun j hj => (sq_conn hU hV hw hq hI hk hj).trans (by unfold inSq; omega))
  have hx : ∀ i, recL w (cX U k - 1) (cY V k - 1) 3 i % w = cX U k - 1 + i % 3 := fun i => (rec_at (by decide) (by omega) i).1
  have hy : ∀ i, recL w (cX U k - 1) (cY V k - 1) 3 i / w = cY V k - 1 + i / 3 := fun i => (rec_at (by decide) (by omega) i).2
  refine ⟨?_, ?_, ?_⟩
  · unfold szS; rw [key, ls_1]
  · rw [key]
    simp only [show 3 * 3 = 9 from rfl, ls, hx]
    omega
  · rw [key]
    simp only [show 3 * 3 = 9 from rfl, ls, hy]
    omega
end MARKS
