/-! 27: the squares are found. -/
theorem gs_lb {m : Nat → Prop} {f : Nat → Nat} {B : Nat} : ∀ N, (∀ k, k < N → m k → B ≤ f k) → B * gs m (fun _ => 1) N ≤ gs m f N
  | 0, _ => Nat.le_refl _
  | k + 1, h => by
    have ih := gs_lb (f := f) k fun j hj => h j (by omega)
    by_cases h1 : m k
    · rw [gs_t h1, gs_t h1, Nat.mul_add, Nat.mul_one]; have := h k (by omega) h1; omega
    · rw [gs_f h1, gs_f h1]; exact ih
theorem gs_ub {m : Nat → Prop} {f : Nat → Nat} {B : Nat} : ∀ N, (∀ k, k < N → m k → f k ≤ B) → gs m f N ≤ B * gs m (fun _ => 1) N
  | 0, _ => Nat.le_refl _
  | k + 1, h => by
    have ih := gs_ub (f := f) k fun j hj => h j (by omega)
    by_cases h1 : m k
    · rw [gs_t h1, gs_t h1, Nat.mul_add, Nat.mul_one]; have := h k (by omega) h1; omega
    · rw [gs_f h1, gs_f h1]; exact ih
section FOUND27
variable {U V w q spk : Nat} {ink : Nat → Prop}
noncomputable def bS (U V w q spk : Nat) (ink : Nat → Prop) (k : Nat) : Nat := nB w q spk ink (stS U V w k)
theorem sq_ql (hU : 4 ≤ U) (hV : 4 ≤ V) (hw : w = U + 7) (hq : q = V + 7) (hI : SqInk U V w q ink) (hs : spk ≤ 9) {k : Nat} (hk : k < 4) : ql w q spk ink (stS U V w k) := ⟨sq_is hU hV hw hq hI hk, by rw [(sq_sum hU hV hw hq hI hk).1]; exact hs⟩
theorem bS_lt (hU : 4 ≤ U) (hV : 4 ≤ V) (hw : w = U + 7) (hq : q = V + 7) (hI : SqInk U V w q ink) (hs : spk ≤ 9) {k : Nat} (hk : k < 4) : bS U V w q spk ink k < nB w q spk ink (w * q) := nB_lt (sq_ql hU hV hw hq hI hs hk) (sq_st hU hV hw hq hk).1
theorem blS_one {w q spk st : Nat} {ink : Nat → Prop} (h : st < w * q) (hq : ql w q spk ink st) : blS w q spk ink (nB w q spk ink st) = st := by
  obtain ⟨a1, a2, a3⟩ := blS_p (nB_lt hq h)
  rcases Nat.lt_trichotomy (blS w q spk ink (nB w q spk ink st)) st with c | c | c
  · have := nB_lt a2 c; omega
  · exact c
  · have := nB_lt hq c; omega
theorem bS_st (hU : 4 ≤ U) (hV : 4 ≤ V) (hw : w = U + 7) (hq : q = V + 7) (hI : SqInk U V w q ink) (hs : spk ≤ 9) {k : Nat} (hk : k < 4) : blS w q spk ink (bS U V w q spk ink k) = stS U V w k := blS_one (sq_st hU hV hw hq hk).1 (sq_ql hU hV hw hq hI hs hk)
theorem bS_z (hU : 4 ≤ U) (hV : 4 ≤ V) (hw : w = U + 7) (hq : q = V + 7) (hI : SqInk U V w q ink) (hs : spk ≤ 9) {k : Nat} (hk : k < 4) : zS w q spk ink (bS U V w q spk ink k) = 9 ∧ zX w q spk ink (bS U V w q spk ink k) = 9 * cX U k ∧ zY w q spk ink (bS U V w q spk ink k) = 9 * cY V k := by
  unfold zS zX zY
  rw [bS_st hU hV hw hq hI hs hk]
  exact sq_sum hU hV hw hq hI hk
theorem stS_inj (hU : 4 ≤ U) (hV : 4 ≤ V) (hw : w = U + 7) (hq : q = V + 7) {k k' : Nat} (hk : k < 4) (hk' : k' < 4) (h : stS U V w k = stS U V w k') : k = k' := by
  obtain ⟨-, e1, e2⟩ := sq_st hU hV hw hq hk
  obtain ⟨-, f1, f2⟩ := sq_st hU hV hw hq hk'
  rw [h] at e1 e2
  have c1 := cc U V hk
  have c2 := cc U V hk'
  omega
theorem bS_inj (hU : 4 ≤ U) (hV : 4 ≤ V) (hw : w = U + 7) (hq : q = V + 7) (hI : SqInk U V w q ink) (hs : spk ≤ 9) {k k' : Nat} (hk : k < 4) (hk' : k' < 4) (h : bS U V w q spk ink k = bS U V w q spk ink k') : k = k' := by
  have e := bS_st hU hV hw hq hI hs hk
  rw [h, bS_st hU hV hw hq hI hs hk'] at e
  exact (stS_inj hU hV hw hq hk' hk e).symm
/-- what else is a blob: another square, or in the middle -/
theorem b_kind (hU : 4 ≤ U) (hV : 4 ≤ V) (hw : w = U + 7) (hq : q = V + 7) (hI : SqInk U V w q ink) {b : Nat} (hb : b < nB w q spk ink (w * q)) : (∃ k, k < 4 ∧ b = bS U V w q spk ink k) ∨ ((6 * zS w q spk ink b ≤ zX w q spk ink b ∧ zX w q spk ink b ≤ (U + 1) * zS w q spk ink b) ∧ 6 * zS w q spk ink b ≤ zY w q spk ink b ∧ zY w q spk ink b ≤ (V + 1) * zS w q spk ink b) := by
  obtain ⟨a1, a2, a3⟩ := blS_p hb
  obtain ⟨x, y, hx, hy, e1, e2, e3⟩ := xy_of a1
  have hink : ink (y * w + x) := by rw [← e1]; exact a2.1.2.1
  rcases hI.1 x y hx hy hink with ⟨k, hk, hs⟩ | hm
  · left
    refine ⟨k, hk, ?_⟩
    have hc := conn_sq2 hU hV hw hq hI hk hx hy hs
    rw [← e1] at hc
    have := st_one (sq_is hU hV hw hq hI hk) a2.1 hc Conn.rf
    unfold bS
    rw [this, a3]
  · right
    have key : ∀ j, j < w * q → Conn w q ink (blS w q spk ink b) j → inMid U V (j % w) (j / w) := fun j _ hc => (conn_mid hU hV hw hq hI a1 (by rw [e2, e3]; exact hm) hc).2
    unfold inMid at key
    exact ⟨⟨gs_lb _ fun j hj hc => (key j hj hc).1.1, gs_ub _ fun j hj hc => (key j hj hc).1.2⟩, gs_lb _ fun j hj hc => (key j hj hc).2.1, gs_ub _ fun j hj hc => (key j hj hc).2.2⟩
theorem sq_ge {a m : Int} (h : m ≤ a ∨ a ≤ -m) (hm : 0 ≤ m) : m * m ≤ a * a := by
  rcases h with h | h
  · exact Int.mul_le_mul h h hm (Int.le_trans hm h)
  · have h' : m ≤ -a := by omega
    have := Int.mul_le_mul h' h' hm (Int.le_trans hm h')
    rw [Int.neg_mul_neg] at this
    exact this
theorem crc {U V w q k : Nat} (hw : w = U + 7) (hq : q = V + 7) (hk : k < 4) : (k = 0 ∧ crX w k = 0 ∧ crY q k = 0) ∨ (k = 1 ∧ crX w k = U + 6 ∧ crY q k = 0) ∨ (k = 2 ∧ crX w k = 0 ∧ crY q k = V + 6) ∨ (k = 3 ∧ crX w k = U + 6 ∧ crY q k = V + 6) := by
  rcases (show k = 0 ∨ k = 1 ∨ k = 2 ∨ k = 3 by omega) with rfl | rfl | rfl | rfl
  · exact Or.inl ⟨rfl, rfl, rfl⟩
  · exact Or.inr (Or.inl ⟨rfl, (by unfold crX; rw [if_neg (by decide)]; omega), rfl⟩)
  · exact Or.inr (Or.inr (Or.inl ⟨rfl, rfl, (by unfold crY; rw [if_neg (by decide)]; omega)⟩))
  · exact Or.inr (Or.inr (Or.inr ⟨rfl, (by unfold crX; rw [if_neg (by decide)]; omega), (by unfold crY; rw [if_neg (by decide)]; omega)⟩))
/-- the way from a corner to its own square -/
theorem far_own (hU : 4 ≤ U) (hV : 4 ≤ V) (hw : w = U + 7) (hq : q = V + 7) (hI : SqInk U V w q ink) (hs : spk ≤ 9) {k : Nat} (hk : k < 4) : farI (zS w q spk ink) (zX w q spk ink) (zY w q spk ink) (crX w k) (crY q k) (bS U V w q spk ink k) = 1458 := by
  obtain ⟨e1, e2, e3⟩ := bS_z hU hV hw hq hI hs hk
  have c1 := cc U V hk
  have c2 := crc hw hq hk
  unfold farI
  rw [e1, e2, e3]
  have a1 : ((9 * cX U k : Nat) : Int) - ((9 : Nat) : Int) * (crX w k : Nat) = 27 ∨ ((9 * cX U k : Nat) : Int) - ((9 : Nat) : Int) * (crX w k : Nat) = -27 := by omega
  have a2 : ((9 * cY V k : Nat) : Int) - ((9 : Nat) : Int) * (crY q k : Nat) = 27 ∨ ((9 * cY V k : Nat) : Int) - ((9 : Nat) : Int) * (crY q k : Nat) = -27 := by omega
  rcases a1 with a1 | a1 <;> rcases a2 with a2 | a2 <;> rw [a1, a2] <;> rfl
theorem far_sq (hU : 4 ≤ U) (hV : 4 ≤ V) (hw : w = U + 7) (hq : q = V + 7) (hI : SqInk U V w q ink) (hs : spk ≤ 9) {k k' : Nat} (hk : k < 4) (hk' : k' < 4) (hne : k' ≠ k) : 1458 < farI (zS w q spk ink) (zX w q spk ink) (zY w q spk ink) (crX w k) (crY q k) (bS U V w q spk ink k') := by
  obtain ⟨e1, e2, e3⟩ := bS_z hU hV hw hq hI hs hk'
  have c1 := cc U V hk'
  have c2 := crc hw hq hk
  unfold farI
  rw [e1, e2, e3]
  have key : (63 ≤ ((9 * cX U k' : Nat) : Int) - ((9 : Nat) : Int) * (crX w k : Nat) ∨ ((9 * cX U k' : Nat) : Int) - ((9 : Nat) : Int) * (crX w k : Nat) ≤ -63) ∨ (63 ≤ ((9 * cY V k' : Nat) : Int) - ((9 : Nat) : Int) * (crY q k : Nat) ∨ ((9 * cY V k' : Nat) : Int) - ((9 : Nat) : Int) * (crY q k : Nat) ≤ -63) := by omega
  generalize ((9 * cX U k' : Nat) : Int) - ((9 : Nat) : Int) * (crX w k : Nat) = a at key ⊢
  generalize ((9 * cY V k' : Nat) : Int) - ((9 : Nat) : Int) * (crY q k : Nat) = b at key ⊢
  have n1 : 0 * 0 ≤ a * a := sq_ge (by omega) (by decide)
  have n2 : 0 * 0 ≤ b * b := sq_ge (by omega) (by decide)
  rcases key with h | h
  · have := sq_ge h (by decide); omega
  · have := sq_ge h (by decide); omega
theorem far_mid (hU : 4 ≤ U) (hV : 4 ≤ V) (hw : w = U + 7) (hq : q = V + 7) {k b : Nat} {s x y : Nat → Nat} (hk : k < 4) (hx : 6 * s b ≤ x b ∧ x b ≤ (U + 1) * s b) (hy : 6 * s b ≤ y b ∧ y b ≤ (V + 1) * s b) (hs : 9 ≤ s b) : (1458 : Int) * ((s b : Int) * s b) < farI s x y (crX w k) (crY q k) b * (((9 : Nat) : Int) * (9 : Nat)) := by
  have c2 := crc hw hq hk
  have ex : ((s b * crX w k : Nat) : Int) = (s b : Int) * crX w k := by simp
  have ey : ((s b * crY q k : Nat) : Int) = (s b : Int) * crY q k := by simp
  have m1 : (U + 1) * s b = U * s b + s b := by rw [Nat.add_mul, Nat.one_mul]
  have m2 : (V + 1) * s b = V * s b + s b := by rw [Nat.add_mul, Nat.one_mul]
  have a1 : 5 * (s b : Int) ≤ (x b : Int) - s b * crX w k ∨ (x b : Int) - s b * crX w k ≤ -(5 * (s b : Int)) := by
    have : s b * crX w k = 0 ∨ s b * crX w k = U * s b + 6 * s b := by
      rcases (show crX w k = 0 ∨ crX w k = U + 6 by omega) with e | e
      · rw [e]; exact Or.inl rfl
      · rw [e, Nat.mul_add, Nat.mul_comm _ U]; right; omega
    omega
  have a2 : 5 * (s b : Int) ≤ (y b : Int) - s b * crY q k ∨ (y b : Int) - s b * crY q k ≤ -(5 * (s b : Int)) := by
    have : s b * crY q k = 0 ∨ s b * crY q k = V * s b + 6 * s b := by
      rcases (show crY q k = 0 ∨ crY q k = V + 6 by omega) with e | e
      · rw [e]; exact Or.inl rfl
      · rw [e, Nat.mul_add, Nat.mul_comm _ V]; right; omega
    omega
  have s1 := sq_ge a1 (by omega)
  have s2 := sq_ge a2 (by omega)
  have e5 : 5 * (s b : Int) * (5 * (s b : Int)) = 25 * ((s b : Int) * s b) := by
    have : ∀ z : Int, 5 * z * (5 * z) = 25 * (z * z) := fun z => by
      rw [Int.mul_assoc, Int.mul_left_comm z 5 z, ← Int.mul_assoc]; rfl
    exact this _
  rw [e5] at s1 s2
  have hp : 9 * 9 ≤ (s b : Int) * s b := sq_ge (Or.inl (by omega)) (by decide)
  unfold farI
  generalize ((x b : Int) - s b * crX w k) * ((x b : Int) - s b * crX w k) = p at *
  generalize ((y b : Int) - s b * crY q k) * ((y b : Int) - s b * crY q k) = r at *
  generalize (s b : Int) * s b = z at *
  have e81 : ((9 : Nat) : Int) * (9 : Nat) = 81 := rfl
  rw [e81]
  omega
/-- every corner finds its own square -/
theorem mk_sq (hU : 4 ≤ U ∧ U ≤ 33) (hV : 4 ≤ V ∧ V ≤ 33) (hw : w = U + 7) (hq : q = V + 7) (hI : SqInk U V w q ink) (hs : 1 ≤ spk ∧ spk ≤ 9) {k : Nat} (hk : k < 4) : mkB w q spk (nI 9) ink k = nI (bS U V w q spk ink k) := by
  have hlt := bS_lt hU.1 hV.1 hw hq hI hs.2 hk
  have h8 : nB w q spk ink (w * q) ≤ 800 := nB_le (by omega) (by omega)
  have c2 := crc hw hq hk
  have hz := bS_z hU.1 hV.1 hw hq hI hs.2 hk
  have h := (nr_min (w := w) (q := q) (s := zS w q spk ink) (x := zX w q spk ink) (y := zY w q spk ink) (c := crX w k) (d := crY q k) (mk := 9) (bs := bS U V w q spk ink k) (by omega) (by omega) (by decide) (nB w q spk ink (w * q)) (by omega) (fun b hb => ?_) (fun _ => by rw [hz.1]; exact Nat.le_refl _) (fun _ b hb hne h9 => ?_)).1 hlt
  · unfold mkB
    rw [h]
  · have := z_bd (w := w) (q := q) (spk := spk) (ink := ink) (by omega) (by omega) hs.1 hb
    exact ⟨this.1.2, this.2⟩
  · rw [far_own hU.1 hV.1 hw hq hI hs.2 hk, hz.1]
    rcases b_kind hU.1 hV.1 hw hq hI hb with ⟨k', hk', e⟩ | ⟨m1, m2⟩
    · rw [e] at hne ⊢
      have hkk : k' ≠ k := fun q => hne (by rw [q])
      rw [(bS_z hU.1 hV.1 hw hq hI hs.2 hk').1]
      have := far_sq hU.1 hV.1 hw hq hI hs.2 hk hk' hkk
      have e81 : ((9 : Nat) : Int) * (9 : Nat) = 81 := rfl
      rw [e81]
      omega
    · exact far_mid hU.1 hV.1 hw hq hk m1 m2 h9
theorem sq_found (hU : 4 ≤ U ∧ U ≤ 33) (hV : 4 ≤ V ∧ V ≤ 33) (hw : w = U + 7) (hq : q = V + 7) (hI : SqInk U V w q ink) (hs : 1 ≤ spk ∧ spk ≤ 9) : frU (mkB w q spk (nI 9) ink) 4 ∧ ∀ k, k < 4 → mX w q spk (nI 9) ink k = 9 * cX U k ∧ mY w q spk (nI 9) ink k = 9 * cY V k ∧ mS w q spk (nI 9) ink k = 9 := by
  have h8 : nB w q spk ink (w * q) ≤ 800 := nB_le (by omega) (by omega)
  refine ⟨fun k hk => ?_, fun k hk => ?_⟩
  · have hlt := bS_lt hU.1 hV.1 hw hq hI hs.2 hk
    rw [mk_sq hU hV hw hq hI hs hk]
    refine ⟨by rw [le_i, nI_toInt (by omega)]; exact Int.natCast_nonneg _, fun i hi e => ?_⟩
    have hli := bS_lt hU.1 hV.1 hw hq hI hs.2 (show i < 4 by omega)
    rw [mk_sq hU hV hw hq hI hs (by omega)] at e
    have e := congrArg Int32.toInt e
    rw [nI_toInt (by omega), nI_toInt (by omega)] at e
    have := bS_inj hU.1 hV.1 hw hq hI hs.2 (show i < 4 by omega) hk (by omega)
    omega
  · have hlt := bS_lt hU.1 hV.1 hw hq hI hs.2 hk
    obtain ⟨e1, e2, e3⟩ := bS_z hU.1 hV.1 hw hq hI hs.2 hk
    unfold mX mY mS
    rw [mk_sq hU hV hw hq hI hs hk, nI_clamp (by omega)]
    exact ⟨e2, e3, e1⟩
end FOUND27
