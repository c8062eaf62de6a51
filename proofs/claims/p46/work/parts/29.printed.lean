/-! 29: a sheet just printed. -/
def tkK (Q : Nat) (N Tn : Nat → Nat) (k : Nat) : Prop := ∃ p i, p < Q ∧ i < N p ∧ k = psum N p + i ∧ (Tn p).testBit i = true
theorem tkK_at {Q : Nat} {N Tn : Nat → Nat} {p i : Nat} (hN : ∀ p, p < Q → N p ≤ 6) (hp : p < Q) (hi : i < N p) : tkK Q N Tn (psum N p + i) ↔ (Tn p).testBit i = true := by
  constructor
  · rintro ⟨p', i', hp', hi', e, ht⟩
    have e1 := Ef_at Q p i hp hi
    have e2 := Ef_at Q p' i' hp' hi'
    rw [e, e2] at e1
    have h1 := hN p hp
    have h2 := hN p' hp'
    have a1 : p' = p := by omega
    subst a1
    have a2 : i' = i := by omega
    subst a2
    exact ht
  · exact fun h => ⟨p, i, hp, hi, rfl, h⟩
/-- the dots of the ticked boxes -/
def inkB (β : SS) (Tn : Nat → Nat) (x y : Nat) : Prop := ∃ k, k < psum (nO β) (qO β) ∧ tkK (qO β) (nO β) Tn k ∧ inBx (aO β) (bO β) (xO β) (yO β) k x y
/-- where the boxes are -/
def Bxs (β : SS) : Prop := (∀ k, k < psum (nO β) (qO β) → (2 ≤ xO β k ∧ xO β k + aO β + 2 ≤ uO β) ∧ 2 ≤ yO β k ∧ yO β k + bO β + 2 ≤ vO β) ∧ ∀ k k' x y, k < psum (nO β) (qO β) → k' < psum (nO β) (qO β) → inBx (aO β) (bO β) (xO β) (yO β) k x y → inBx (aO β) (bO β) (xO β) (yO β) k' x y → k = k'
def Prd (β : SS) (Tn : Nat → Nat) (l v : Nat) : Prop := Sd β ∧ ((4 ≤ uO β ∧ uO β ≤ 33) ∧ (4 ≤ vO β ∧ vO β ≤ 33) ∧ wO β = uO β + 7 ∧ hO β = vO β + 7) ∧ ((1 ≤ l ∧ l ≤ 9) ∧ (1 ≤ v ∧ v ≤ 9) ∧ gI β 32 0 = nI l ∧ gI β 32 2 = nI 9 ∧ kO β ≤ 9) ∧ (∀ p, p < qO β → gI β 30 p = nI (Tn p) ∧ Tn p < 2 ^ nO β p) ∧ Bxs β ∧ ∀ x y, x < wO β → y < hO β → (inkB β Tn x y → pO β (y * wO β + x) = nI v) ∧ (¬ inkB β Tn x y → (∃ k, k < 4 ∧ inSq (cX (uO β)) (cY (vO β)) k x y) → pO β (y * wO β + x) = 9) ∧ (¬ inkB β Tn x y → (¬ ∃ k, k < 4 ∧ inSq (cX (uO β)) (cY (vO β)) k x y) → pO β (y * wO β + x) = 0)
theorem dkR_c {pic : Nat → Int32} {w q A2 B2 A cx cy j n z : Nat} {X Y S : Nat → Nat} (h : ∀ i, i < A → dkU pic w q X Y S A2 B2 (2 * (cx + i) + 1) (2 * (cy + j) + 1) = z) : ∀ i, i ≤ A → dkR pic w q X Y S A2 B2 cx cy j n i = n + i * z
  | 0, _ => by show n = _; rw [Nat.zero_mul, Nat.add_zero]
  | i + 1, hi => by
    have ih := dkR_c (n := n) h i (by omega)
    show dkR pic w q X Y S A2 B2 cx cy j n i + dkU pic w q X Y S A2 B2 (2 * (cx + i) + 1) (2 * (cy + j) + 1) = _
    rw [ih, h i (by omega), Nat.add_mul, Nat.one_mul, Nat.add_assoc]
theorem dkV_c {pic : Nat → Int32} {w q A2 B2 A cx cy z : Nat} {X Y S : Nat → Nat} : ∀ B, (∀ i j, i < A → j < B → dkU pic w q X Y S A2 B2 (2 * (cx + i) + 1) (2 * (cy + j) + 1) = z) → dkV pic w q X Y S A2 B2 A B cx cy = A * B * z
  | 0, _ => by show 0 = _; rw [Nat.mul_zero, Nat.zero_mul]
  | B + 1, h => by
    have ih := dkV_c B fun i j hi hj => h i j hi (by omega)
    show dkR pic w q X Y S A2 B2 cx cy B (dkV pic w q X Y S A2 B2 A B cx cy) A = _
    rw [dkR_c (fun i hi => h i B hi (by omega)) A (Nat.le_refl _), ih, Nat.mul_add, Nat.mul_one, Nat.add_mul]
theorem pN_z {D : Nat → Nat} (h : D 0 = 0) : ∀ k, pN D k = 0
  | 0 => rfl
  | k + 1 => by
    show (if k = 0 then D 0 else min (pN D k) (D k)) = 0
    rw [pN_z h k, h]
    split <;> omega
section PRINTED
variable {β : SS} {Tn : Nat → Nat} {l v : Nat}
theorem Prd.mid (h : Prd β Tn l v) {x y : Nat} (hi : inkB β Tn x y) : inMid (uO β) (vO β) x y := by
  obtain ⟨k, hk, -, hb⟩ := hi
  have := h.2.2.2.2.1.1 k hk
  unfold inBx at hb
  unfold inMid
  omega
theorem sq_nmid {U V : Nat} (hU : 4 ≤ U) (hV : 4 ≤ V) {k x y : Nat} (hk : k < 4) (h : inSq (cX U) (cY V) k x y) : ¬ inMid U V x y := by
  have := cc U V hk
  unfold inSq at h
  unfold inMid
  omega
theorem Prd.sq (h : Prd β Tn l v) : SqInk (uO β) (vO β) (wO β) (hO β) (iO β) := by
  obtain ⟨-, ⟨hU, hV, hw, hq⟩, ⟨hl, hv, e0, e9, hk9⟩, -, -, hpic⟩ := id h
  refine ⟨fun x y hx hy hi => ?_, fun k x y hk hx hy hs => ?_⟩
  · obtain ⟨p1, p2, p3⟩ := hpic x y hx hy
    by_cases c : inkB β Tn x y
    · exact Or.inr (h.mid c)
    · by_cases c2 : ∃ k, k < 4 ∧ inSq (cX (uO β)) (cY (vO β)) k x y
      · exact Or.inl c2
      · exfalso
        refine hi ?_
        rw [p3 c c2, e0, show (0 : Int32) = nI 0 from rfl, ltnN (by omega) (by omega)]
        omega
  · obtain ⟨p1, p2, p3⟩ := hpic x y hx hy
    have c : ¬ inkB β Tn x y := fun q => sq_nmid hU.1 hV.1 hk hs (h.mid q)
    show ¬ pO β (y * wO β + x) < gI β 32 0
    rw [p2 c ⟨k, hk, hs⟩, e0, show (9 : Int32) = nI 9 from rfl, ltnN (by omega) (by omega)]
    omega
theorem Prd.k1 (h : Prd β Tn l v) : 1 ≤ kO β := h.1.1.2.2.2.2.1.1
theorem Prd.mk (h : Prd β Tn l v) : Mkd β := by
  obtain ⟨-, ⟨hU, hV, hw, hq⟩, ⟨hl, hv, e0, e9, hk9⟩, -⟩ := id h
  have := (sq_found hU hV hw hq h.sq ⟨h.k1, hk9⟩).1
  unfold Mkd
  unfold mkO
  rw [e9]
  exact this
/-- a unit's dot -/
theorem Prd.unit (h : Prd β Tn l v) {a b : Nat} (ha : a < uO β) (hb : b < vO β) : dkU (pO β) (wO β) (hO β) (mX (wO β) (hO β) (kO β) (nI 9) (iO β)) (mY (wO β) (hO β) (kO β) (nI 9) (iO β)) (mS (wO β) (hO β) (kO β) (nI 9) (iO β)) (2 * uO β) (2 * vO β) (2 * a + 1) (2 * b + 1) = sN (pO β) ((4 + b) * wO β + (4 + a)) := by
  obtain ⟨-, ⟨hU, hV, hw, hq⟩, ⟨hl, hv, e0, e9, hk9⟩, -⟩ := id h
  have hm := (sq_found hU hV hw hq h.sq ⟨h.k1, hk9⟩).2
  have hS : ∀ k, k < 4 → mS (wO β) (hO β) (kO β) (nI 9) (iO β) k = 9 := fun k hk => (hm k hk).2.2
  have ex : rdV (mX (wO β) (hO β) (kO β) (nI 9) (iO β)) (mS (wO β) (hO β) (kO β) (nI 9) (iO β)) (2 * uO β) (2 * vO β) (2 * a + 1) (2 * b + 1) = nI (4 + a) := by
    refine rd_up (Or.inr rfl) ⟨hU.1, by omega⟩ ⟨hV.1, by omega⟩ hS (by omega) ?_
    rw [mp_up (c := 9) hS (hm 0 (by decide)).1 (hm 1 (by decide)).1 (hm 2 (by decide)).1 (hm 3 (by decide)).1 (by omega) (by omega), show 6 + (2 * a + 1) = 7 + 2 * a by omega]
  have ey : rdV (mY (wO β) (hO β) (kO β) (nI 9) (iO β)) (mS (wO β) (hO β) (kO β) (nI 9) (iO β)) (2 * uO β) (2 * vO β) (2 * a + 1) (2 * b + 1) = nI (4 + b) := by
    refine rd_up (Or.inr rfl) ⟨hU.1, by omega⟩ ⟨hV.1, by omega⟩ hS (by omega) ?_
    rw [mp_up' (c := 9) hS (hm 0 (by decide)).2.1 (hm 1 (by decide)).2.1 (hm 2 (by decide)).2.1 (hm 3 (by decide)).2.1 (by omega) (by omega), show 6 + (2 * b + 1) = 7 + 2 * b by omega]
  unfold dkU
  rw [ex, ey, nI_toInt (by omega), nI_toInt (by omega), if_pos (by omega)]
  rfl
theorem Prd.D (h : Prd β Tn l v) {k : Nat} (hk : k < psum (nO β) (qO β)) : (tkK (qO β) (nO β) Tn k → dO β k = aO β * bO β * v) ∧ (¬ tkK (qO β) (nO β) Tn k → dO β k = 0) := by
  obtain ⟨-, ⟨hU, hV, hw, hq⟩, ⟨hl, hv, e0, e9, hk9⟩, -, hB, hpic⟩ := id h
  have hb := hB.1 k hk
  have e : dO β k = dkV (pO β) (wO β) (hO β) (mX (wO β) (hO β) (kO β) (nI 9) (iO β)) (mY (wO β) (hO β) (kO β) (nI 9) (iO β)) (mS (wO β) (hO β) (kO β) (nI 9) (iO β)) (2 * uO β) (2 * vO β) (aO β) (bO β) (xO β k) (yO β k) := by
    unfold dO dkD
    rw [e9]
    rfl
  rw [e]
  have hin : ∀ i j, i < aO β → j < bO β → inBx (aO β) (bO β) (xO β) (yO β) k (4 + (xO β k + i)) (4 + (yO β k + j)) := fun i j hi hj => by unfold inBx; omega
  refine ⟨fun ht => dkV_c _ fun i j hi hj => ?_, fun ht => ?_⟩
  · rw [h.unit (by omega) (by omega)]
    have p1 := (hpic (4 + (xO β k + i)) (4 + (yO β k + j)) (by omega) (by omega)).1 ⟨k, hk, ht, hin i j hi hj⟩
    unfold sN
    rw [p1, nI_clamp (by omega)]
  · rw [dkV_c (z := 0) _ fun i j hi hj => ?_, Nat.mul_zero]
    rw [h.unit (by omega) (by omega)]
    have n1 : ¬ inkB β Tn (4 + (xO β k + i)) (4 + (yO β k + j)) := fun ⟨k', hk', ht', hb'⟩ => ht (by rw [hB.2 k k' _ _ hk hk' (hin i j hi hj) hb']; exact ht')
    have p3 := (hpic (4 + (xO β k + i)) (4 + (yO β k + j)) (by omega) (by omega)).2.2 n1 fun ⟨k', hk', hs⟩ => sq_nmid hU.1 hV.1 hk' hs (by unfold inMid; omega)
    unfold sN
    rw [p3]
    rfl
theorem Prd.N6 (h : Prd β Tn l v) : ∀ p, p < qO β → nO β p ≤ 6 := fun _ hp => (h.1.N hp).2
/-- the darkness of a ticked box -/
abbrev dK (β : SS) (v : Nat) : Nat := aO β * bO β * v
theorem Prd.dk (h : Prd β Tn l v) : 1 ≤ dK β v ∧ dK β v ≤ 324 := by
  have hv := h.2.2.1.2.1
  have hA : 1 ≤ aO β ∧ aO β ≤ 6 := h.1.1.2.2.2.2.2.2.2.2.2.2.2.2.2.1
  have hB : 1 ≤ bO β ∧ bO β ≤ 6 := h.1.1.2.2.2.2.2.2.2.2.2.2.2.2.2.2.1
  exact ⟨Nat.mul_pos (Nat.mul_pos hA.1 hB.1) hv.1, Nat.mul_le_mul (Nat.mul_le_mul hA.2 hB.2) hv.2⟩
theorem Prd.Dp (h : Prd β Tn l v) {p i : Nat} (hp : p < qO β) (hi : i < nO β p) : dO β (psum (nO β) p + i) = if (Tn p).testBit i = true then dK β v else 0 := by
  have hk := h.1.at hp hi
  have ht := tkK_at (Tn := Tn) h.N6 hp hi
  by_cases c : (Tn p).testBit i = true
  · rw [if_pos c]; exact (h.D hk).1 (ht.mpr c)
  · rw [if_neg c]; exact (h.D hk).2 fun q => c (ht.mp q)
theorem Prd.P (h : Prd β Tn l v) (hQ : 1 ≤ qO β) (h0 : (Tn 0).testBit 0 = false) : ppO β = 0 := by
  have hN := h.1.N (p := 0) hQ
  have e := h.Dp (p := 0) (i := 0) hQ (by omega)
  rw [h0, if_neg (by decide)] at e
  exact pN_z e _
/-- what every question comes to -/
theorem Prd.jv (h : Prd β Tn l v) (hQ : 1 ≤ qO β) (h0 : (Tn 0).testBit 0 = false) {m cl rb p : Nat} (e3 : gI β 32 3 = nI m) (e4 : gI β 32 4 = nI cl) (e5 : gI β 32 5 = nI rb) (hm : 1 ≤ m ∧ m ≤ 1000) (hcl : 1 ≤ cl ∧ cl ≤ 1000) (hrb : 1 ≤ rb ∧ rb ≤ 1000) (hp : p < qO β) {se gn : Int32}
    (h2 : gI β (fO β + 1) p = 0 ∧ ¬ pop12 (nI (Tn p)) ≤ 1 ∧ m ≤ dK β v → se = 2) (h1 : ¬ (gI β (fO β + 1) p = 0 ∧ ¬ pop12 (nI (Tn p)) ≤ 1 ∧ m ≤ dK β v) → se = if Tn p ≠ 0 ∧ dK β v < m ∧ m ≤ 2 * dK β v then 1 else 0) (hg : gn = gnS (gI β (fO β + 4) p) (nI (if m ≤ dK β v then Tn p else 0)) se (gI β (fO β + 5) p) (gI β 32 6)) :
    JV β p (nI (if m ≤ dK β v then Tn p else 0)) se (nI (if m ≤ dK β v then 0 else if rb ≤ dK β v then Tn p else 0)) (nI (if Tn p = 0 then 0 else dK β v)) gn := by
  refine ⟨?_, hg⟩
  rw [h.P hQ h0, e3, e4, e5]
  exact even_JQ (h.1.N hp) (h.2.2.2.1 p hp).2 (fun i hi => h.Dp hp hi) (fun i => h.1.D _) h.dk hm hcl hrb h2 h1
end PRINTED
