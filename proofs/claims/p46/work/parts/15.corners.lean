/-! 15: the map, the margin set anew, and the law's corners. -/
section CORNERS
variable {β σ : SS}
/-- the sizes of the marks are small, their middles too -/
theorem mks_s (h : Sd β) (hm : Mkd β) {k : Nat} (hk : k < 4) : ∃ b, b < nB (wO β) (hO β) (kO β) (iO β) (wO β * hO β) ∧ mkO β k = nI b ∧ mxO β k = zX (wO β) (hO β) (kO β) (iO β) b ∧ myO β k = zY (wO β) (hO β) (kO β) (iO β) b ∧ msO β k = zS (wO β) (hO β) (kO β) (iO β) b ∧ (1 ≤ msO β k ∧ msO β k ≤ 1600) ∧ mxO β k ≤ 64000 ∧ myO β k ≤ 64000 := by
  obtain ⟨r, -, -, -, -, h4⟩ := loc_s h (Ag.rf β)
  obtain ⟨b, b1, b2, -⟩ := h4 hm k hk
  have hw := h.w
  have h8 := nB_le (spk := kO β) (ink := iO β) hw.1.2 hw.2.2
  have e : (mkB (wO β) (hO β) (kO β) (gI β 32 2) (iO β) k).toNatClampNeg = b := by
    show (mkO β k).toNatClampNeg = b
    rw [b2, nI_clamp (by omega)]
  obtain ⟨z1, z2, z3⟩ := z_bd (ink := iO β) (spk := kO β) (by omega : 1 ≤ wO β ∧ wO β ≤ 40) (by omega : 1 ≤ hO β ∧ hO β ≤ 40) h.1.2.2.2.2.1.1 b1
  have x1 : mxO β k = zX (wO β) (hO β) (kO β) (iO β) b := by unfold mxO mX; rw [e]
  have x2 : myO β k = zY (wO β) (hO β) (kO β) (iO β) b := by unfold myO mY; rw [e]
  have x3 : msO β k = zS (wO β) (hO β) (kO β) (iO β) b := by unfold msO mS; rw [e]
  exact ⟨b, b1, b2, x1, x2, x3, by rw [x3]; exact z1, by rw [x1]; exact z2, by rw [x2]; exact z3⟩
def selM (what : Nat) (a b c d : Int32) : Int32 := if what = 0 then a else if what = 1 then b else if what = 2 then c else d
theorem map_s (h : Sd β) (ha : Ag β σ) {i j what : Nat} (hi : i ≤ 2 * uO β) (hj : j ≤ 2 * vO β) (hw : what ≤ 3) : WP (fX7_map σ (nI i) (nI j) (nI what)) (fun r => Ag β r.2 ∧ (¬ Mkd β → r.1 = (-2 : Int32)) ∧ (Mkd β → r.1 = selM what (rdV (mxO β) (msO β) (2 * uO β) (2 * vO β) i j) (rdV (myO β) (msO β) (2 * uO β) (2 * vO β) i j) (hdV (mxO β) (msO β) (2 * uO β) (2 * vO β) i j) (hdV (myO β) (msO β) (2 * uO β) (2 * vO β) i j))) := by
  have hf := h.f
  have hU := h.U
  have hC := h.1.ag ha
  obtain ⟨⟨b, r⟩, er, r1, r2, -, r4⟩ := loc_s h ha
  unfold fX7_map
  have e0 : gI σ (fO β) 0 = 1 := (ha.2 _ _ (by unfold Sk; omega)).trans h.2.2.2.1
  have e1 : gI σ (fO β) 1 = nI (uO β) := hC.2.2.2.2.2.2.2.2.2.2.2.2.2.2.2.2.1
  have e2 : gI σ (fO β) 2 = nI (vO β) := hC.2.2.2.2.2.2.2.2.2.2.2.2.2.2.2.2.2.1
  have t2 : (2 : Int32) = nI 2 := rfl
  rw [ag_s ha, ag_f ha, e0, if_neg (by decide), e1, e2, t2, nI_mul, nI_mul]
  simp only [lt_i, le_i, nI_toInt (show what < 2 ^ 31 by omega), nI_toInt (show i < 2 ^ 31 by omega), nI_toInt (show j < 2 ^ 31 by omega), nI_toInt (show 2 * uO β < 2 ^ 31 by omega), nI_toInt (show 2 * vO β < 2 ^ 31 by omega), Int32.reduceToInt]
  rw [if_neg (by omega), if_pos (by omega), if_neg (by omega), if_neg (by omega), if_neg (by omega), if_pos (by omega), bnd_of _ er]
  by_cases hm : Mkd β
  · rw [if_pos (r1.mpr hm)]
    have hC2 := h.1.ag r2
    have e1' : gI r (fO β) 1 = nI (uO β) := hC2.2.2.2.2.2.2.2.2.2.2.2.2.2.2.2.2.1
    have e2' : gI r (fO β) 2 = nI (vO β) := hC2.2.2.2.2.2.2.2.2.2.2.2.2.2.2.2.2.2.1
    have hL : ∀ k, k < 4 → gL r 46 k = lN (mxO β k) ∧ gL r 47 k = lN (myO β k) ∧ gL r 48 k = lN (msO β k) := fun k hk => by
      obtain ⟨b, b1, b2, b3, b4, b5⟩ := r4 hm k hk
      obtain ⟨b', c1, c2, c3, c4, c5, -⟩ := mks_s h hm hk
      have hw := h.w
      have h8 := nB_le (spk := kO β) (ink := iO β) hw.1.2 hw.2.2
      have eb : b = b' := nI_injN (by omega) (by omega) (b2.symm.trans c2)
      subst eb
      rw [c3, c4, c5]; exact ⟨b3, b4, b5⟩
    obtain ⟨r', er', q1, q2, q3⟩ := spread7 (σ := r) (X := mxO β) (Y := myO β) (S := msO β) hL hU.1.2 hU.2.2
    rw [ag_f r2, e1', e2', bnd1_of _ er']
    obtain ⟨d1, d2, d3, d4⟩ := dots7 q3 (fun k hk => (mks_s h hm hk).choose_spec.2.2.2.2.2.1) (by omega) (by omega) hi hj
    rw [d1, d2, d3, d4]
    have hag : Ag β r' := r2.tr ⟨q1, fun c k hk => q2 c k fun q => hk (Or.inl (by omega))⟩
    rcases (show what = 0 ∨ what = 1 ∨ what = 2 ∨ what = 3 by omega) with rfl | rfl | rfl | rfl <;> exact ⟨_, rfl, hag, fun q => absurd hm q, fun _ => rfl⟩
  · rw [if_neg (fun q => hm (r1.mp q))]
    exact ⟨_, rfl, r2, fun _ => rfl, fun q => absurd q hm⟩
/-- the law's corner k, as a point in halves -/
def cri (β : SS) (k : Nat) : Nat := if k % 2 = 0 then 0 else 2 * uO β
def crj (β : SS) (k : Nat) : Nat := if 2 ≤ k then 2 * vO β else 0
theorem mp_at (Z S : Nat → Nat) (A B k : Nat) (hk : k < 4) : mpN Z S A B (if k % 2 = 0 then 0 else A) (if 2 ≤ k then B else 0) = Z k * oth S k 4 * (A * B) := by
  unfold mpN
  rcases (show k = 0 ∨ k = 1 ∨ k = 2 ∨ k = 3 by omega) with rfl | rfl | rfl | rfl <;> simp
theorem all_oth (S : Nat → Nat) (k : Nat) (hk : k < 4) : allS S = S k * oth S k 4 := by
  unfold allS
  obtain ⟨o0, o1, o2, o3⟩ := oth_e S
  rcases (show k = 0 ∨ k = 1 ∨ k = 2 ∨ k = 3 by omega) with rfl | rfl | rfl | rfl
  · rw [o0]; simp [Nat.mul_assoc]
  · rw [o1]; simp only [Nat.one_mul]; ac_rfl
  · rw [o2]; simp only [Nat.one_mul]; ac_rfl
  · rw [o3]; simp only [Nat.one_mul]; ac_rfl
theorem gs_both {m m' m2 : Nat → Prop} {f : Nat → Nat} (hm : ∀ k, m2 k ↔ m k ∨ m' k) (hd : ∀ k, m k → ¬ m' k) : ∀ N, gs m2 f N = gs m f N + gs m' f N
  | 0 => rfl
  | k + 1 => by
    have ih := gs_both (f := f) hm hd k
    by_cases h1 : m k
    · rw [gs_t ((hm k).mpr (Or.inl h1)), gs_t h1, gs_f (hd k h1), ih]; omega
    · by_cases h2 : m' k
      · rw [gs_t ((hm k).mpr (Or.inr h2)), gs_f h1, gs_t h2, ih]; omega
      · rw [gs_f (fun q => ((hm k).mp q).elim h1 h2), gs_f h1, gs_f h2, ih]
theorem gs_wt {m : Nat → Prop} {f : Nat → Nat} {B : Nat} (h : ∀ k, m k → f k ≤ B) : ∀ N, gs m f N ≤ B * gs m (fun _ => 1) N
  | 0 => Nat.zero_le _
  | k + 1 => by
    have ih := gs_wt (f := f) h k
    by_cases h1 : m k
    · rw [gs_t h1, gs_t h1, Nat.mul_add, Nat.mul_one]; have := h k h1; omega
    · rw [gs_f h1, gs_f h1]; exact ih
theorem st_same {w q : Nat} {ink : Nat → Prop} {a b k : Nat} (ha : isSt w q ink a) (hb : isSt w q ink b) (h1 : Conn w q ink a k) (h2 : Conn w q ink b k) : a = b := by
  have hk : ink k := Conn.inked ha.2.1 h1
  have hab : Conn w q ink a b := h1.tr (Conn.sym hb.2.1 h2)
  have hba : Conn w q ink b a := h2.tr (Conn.sym ha.2.1 h1)
  rcases Nat.lt_trichotomy a b with h | h | h
  · exact absurd hab (hb.2.2 a h ha.2.1)
  · exact h
  · exact absurd hba (ha.2.2 b h hb.2.1)
/-- four apart from each other -/
theorem four_sum {w q spk : Nat} {ink : Nat → Prop} {b : Nat → Nat} (hb : ∀ k, k < 4 → b k < nB w q spk ink (w * q)) (hd : ∀ i k, k < 4 → i < k → b i ≠ b k) : zS w q spk ink (b 0) + zS w q spk ink (b 1) + zS w q spk ink (b 2) + zS w q spk ink (b 3) ≤ w * q := by
  have hp := fun k hk => blS_p (hb k hk)
  have hne : ∀ i k, i < 4 → k < 4 → i ≠ k → ∀ j, Conn w q ink (blS w q spk ink (b i)) j → ¬ Conn w q ink (blS w q spk ink (b k)) j := fun i k h1 h2 hik j q1 q2 => by
    have e := st_same (hp i h1).2.1.1 (hp k h2).2.1.1 q1 q2
    have e2 : b i = b k := by rw [← (hp i h1).2.2, ← (hp k h2).2.2, e]
    rcases Nat.lt_or_ge i k with h | h
    · exact hd i k h2 h e2
    · exact hd k i h1 (by omega) e2.symm
  unfold zS szS
  rw [← gs_both (m2 := fun k => Conn w q ink (blS w q spk ink (b 0)) k ∨ Conn w q ink (blS w q spk ink (b 1)) k) (fun k => Iff.rfl) (hne 0 1 (by decide) (by decide) (by decide))]
  rw [← gs_both (m2 := fun k => (Conn w q ink (blS w q spk ink (b 0)) k ∨ Conn w q ink (blS w q spk ink (b 1)) k) ∨ Conn w q ink (blS w q spk ink (b 2)) k) (fun k => Iff.rfl) (fun k q => q.elim (hne 0 2 (by decide) (by decide) (by decide) k) (hne 1 2 (by decide) (by decide) (by decide) k))]
  rw [← gs_both (m2 := fun k => ((Conn w q ink (blS w q spk ink (b 0)) k ∨ Conn w q ink (blS w q spk ink (b 1)) k) ∨ Conn w q ink (blS w q spk ink (b 2)) k) ∨ Conn w q ink (blS w q spk ink (b 3)) k) (fun k => Iff.rfl) (fun k q => q.elim (fun q => q.elim (hne 0 3 (by decide) (by decide) (by decide) k) (hne 1 3 (by decide) (by decide) (by decide) k)) (hne 2 3 (by decide) (by decide) (by decide) k))]
  exact gs_le _
theorem sq4 (x y : Nat) : 4 * (x * y) ≤ (x + y) * (x + y) := by
  rcases Nat.le_total x y with h | h
  · obtain ⟨d, rfl⟩ := Nat.le.dest h
    have e1 : x * (x + d) = x * x + x * d := Nat.mul_add _ _ _
    have e2 : (x + (x + d)) * (x + (x + d)) = 4 * (x * x) + 4 * (x * d) + d * d := by
      simp only [Nat.add_mul, Nat.mul_add, Nat.mul_comm d x]; omega
    rw [e1, e2]; omega
  · obtain ⟨d, rfl⟩ := Nat.le.dest h
    have e1 : (y + d) * y = y * y + y * d := by rw [Nat.add_mul, Nat.mul_comm d y]
    have e2 : ((y + d) + y) * ((y + d) + y) = 4 * (y * y) + 4 * (y * d) + d * d := by
      simp only [Nat.add_mul, Nat.mul_add, Nat.mul_comm d y]; omega
    rw [e1, e2]; omega
theorem four_mul {a b c d : Nat} (h : a + b + c + d ≤ 1600) : a * b * c * d ≤ 25600000000 := by
  have h1 := sq4 a b
  have h2 := sq4 c d
  have h3 := sq4 (a + b) (c + d)
  have h4 : (a + b + (c + d)) * (a + b + (c + d)) ≤ 1600 * 1600 := Nat.mul_le_mul (by omega) (by omega)
  have h5 : (a + b) * (c + d) ≤ 640000 := by omega
  have h6 : ((a + b) * (c + d)) * ((a + b) * (c + d)) ≤ 640000 * 640000 := Nat.mul_le_mul h5 h5
  have h7 : (4 * (a * b)) * (4 * (c * d)) ≤ ((a + b) * (a + b)) * ((c + d) * (c + d)) := Nat.mul_le_mul h1 h2
  have e1 : ((a + b) * (a + b)) * ((c + d) * (c + d)) = ((a + b) * (c + d)) * ((a + b) * (c + d)) := by ac_rfl
  have e2 : (4 * (a * b)) * (4 * (c * d)) = 16 * (a * b * c * d) := by
    rw [Nat.mul_assoc (a * b)]
    generalize a * b = x
    generalize c * d = y
    rw [Nat.mul_mul_mul_comm]
  omega
theorem zXY_bd {w q spk b : Nat} {ink : Nat → Prop} (hw : 1 ≤ w ∧ w ≤ 40) (hq : 1 ≤ q ∧ q ≤ 40) : zX w q spk ink b ≤ 40 * zS w q spk ink b ∧ zY w q spk ink b ≤ 40 * zS w q spk ink b := by
  have key : ∀ f : Nat → Nat, (∀ k, k < w * q → f k ≤ 40) → gs (Conn w q ink (blS w q spk ink b)) f (w * q) ≤ 40 * gs (Conn w q ink (blS w q spk ink b)) (fun _ => 1) (w * q) := by
    intro f hf
    have : ∀ N, N ≤ w * q → gs (Conn w q ink (blS w q spk ink b)) f N ≤ 40 * gs (Conn w q ink (blS w q spk ink b)) (fun _ => 1) N := by
      intro N
      induction N with
      | zero => intro _; exact Nat.zero_le _
      | succ k ih =>
        intro hk
        have ih := ih (by omega)
        by_cases h1 : Conn w q ink (blS w q spk ink b) k
        · rw [gs_t h1, gs_t h1, Nat.mul_add, Nat.mul_one]; have := hf k (by omega); omega
        · rw [gs_f h1, gs_f h1]; exact ih
    exact this _ (Nat.le_refl _)
  refine ⟨key _ fun k hk => ?_, key _ fun k hk => ?_⟩
  · have := Nat.mod_lt k (show 0 < w by omega); omega
  · have := Nat.div_lt_of_lt_mul hk; omega
/-- the marks' sizes, and what they come to -/
theorem mk_all (h : Sd β) (hm : Mkd β) : allS (msO β) ≤ 25600000000 ∧ ∀ k, k < 4 → mxO β k ≤ 40 * msO β k ∧ myO β k ≤ 40 * msO β k := by
  have hw := h.w
  have hK := fun k (hk : k < 4) => mks_s h hm hk
  refine ⟨?_, fun k hk => ?_⟩
  · obtain ⟨b0, p0, q0, -, -, r0, -⟩ := hK 0 (by decide)
    obtain ⟨b1, p1, q1, -, -, r1, -⟩ := hK 1 (by decide)
    obtain ⟨b2, p2, q2, -, -, r2, -⟩ := hK 2 (by decide)
    obtain ⟨b3, p3, q3, -, -, r3, -⟩ := hK 3 (by decide)
    have n01 : b0 ≠ b1 := fun e => (hm 1 (by decide)).2 0 (by decide) (by rw [q0, q1, e])
    have n02 : b0 ≠ b2 := fun e => (hm 2 (by decide)).2 0 (by decide) (by rw [q0, q2, e])
    have n03 : b0 ≠ b3 := fun e => (hm 3 (by decide)).2 0 (by decide) (by rw [q0, q3, e])
    have n12 : b1 ≠ b2 := fun e => (hm 2 (by decide)).2 1 (by decide) (by rw [q1, q2, e])
    have n13 : b1 ≠ b3 := fun e => (hm 3 (by decide)).2 1 (by decide) (by rw [q1, q3, e])
    have n23 : b2 ≠ b3 := fun e => (hm 3 (by decide)).2 2 (by decide) (by rw [q2, q3, e])
    have hs := four_sum (b := fun k => if k = 0 then b0 else if k = 1 then b1 else if k = 2 then b2 else b3) (w := wO β) (q := hO β) (spk := kO β) (ink := iO β) (fun k hk => by
      rcases (show k = 0 ∨ k = 1 ∨ k = 2 ∨ k = 3 by omega) with rfl | rfl | rfl | rfl <;> simp <;> assumption) (fun i k hk hi => by
      rcases (show (i = 0 ∧ k = 1) ∨ (i = 0 ∧ k = 2) ∨ (i = 0 ∧ k = 3) ∨ (i = 1 ∧ k = 2) ∨ (i = 1 ∧ k = 3) ∨ (i = 2 ∧ k = 3) by omega) with ⟨rfl, rfl⟩ | ⟨rfl, rfl⟩ | ⟨rfl, rfl⟩ | ⟨rfl, rfl⟩ | ⟨rfl, rfl⟩ | ⟨rfl, rfl⟩ <;> simp <;> assumption)
    have ha := area_le hw.1.2 hw.2.2
    simp at hs
    unfold allS
    rw [r0, r1, r2, r3]
    exact four_mul (by omega)
  · obtain ⟨b, p, q, x1, x2, x3, -⟩ := hK k hk
    rw [x1, x2, x3]
    exact zXY_bd (by omega) (by omega)
/-- the map at a corner of the form is the middle of its mark -/
theorem at_corner (h : Sd β) (hm : Mkd β) {k : Nat} (hk : k < 4) (Z : Nat → Nat) (hZ : Z k ≤ 40 * msO β k) :
    hdV Z (msO β) (2 * uO β) (2 * vO β) (cri β k) (crj β k) = nI (100 * Z k / msO β k) ∧ rdV Z (msO β) (2 * uO β) (2 * vO β) (cri β k) (crj β k) = nI ((2 * Z k + msO β k) / (2 * msO β k)) := by
  have hU := h.U
  have hA := (mk_all h hm).1
  have hS : 1 ≤ msO β k := (mks_s h hm hk).choose_spec.2.2.2.2.2.1.1
  have e1 : mpN Z (msO β) (2 * uO β) (2 * vO β) (cri β k) (crj β k) = Z k * (oth (msO β) k 4 * (2 * uO β * (2 * vO β))) := by
    rw [← Nat.mul_assoc]; exact mp_at Z (msO β) (2 * uO β) (2 * vO β) k hk
  have e2 : byN (msO β) (2 * uO β) (2 * vO β) = msO β k * (oth (msO β) k 4 * (2 * uO β * (2 * vO β))) := by
    unfold byN; rw [all_oth _ k hk]; simp only [Nat.mul_assoc]
  have hc1 : 2 * uO β * (2 * vO β) ≤ 80 * 80 := Nat.mul_le_mul (by omega) (by omega)
  have hb : byN (msO β) (2 * uO β) (2 * vO β) ≤ 25600000000 * 6400 := by
    unfold byN; rw [Nat.mul_assoc]; exact Nat.mul_le_mul hA hc1
  have hpos : 0 < oth (msO β) k 4 * (2 * uO β * (2 * vO β)) := by
    have h0 : byN (msO β) (2 * uO β) (2 * vO β) ≠ 0 := by
      have := by_bd (S := msO β) (A := 2 * uO β) (B := 2 * vO β) (fun k hk => (mks_s h hm hk).choose_spec.2.2.2.2.2.1) (by omega) (by omega)
      omega
    rcases Nat.eq_zero_or_pos (oth (msO β) k 4 * (2 * uO β * (2 * vO β))) with e | e
    · rw [e2, e] at h0; exact absurd rfl h0
    · exact e
  have hmp : mpN Z (msO β) (2 * uO β) (2 * vO β) (cri β k) (crj β k) ≤ 40 * (25600000000 * 6400) := by
    rw [e1]
    refine Nat.le_trans (Nat.mul_le_mul_right _ hZ) ?_
    rw [Nat.mul_assoc]
    exact Nat.mul_le_mul_left _ (by rw [← e2]; exact hb)
  generalize hC : oth (msO β) k 4 * (2 * uO β * (2 * vO β)) = C at e1 e2 hpos
  have hS2 : 0 < msO β k * C := Nat.mul_pos hS hpos
  refine ⟨?_, ?_⟩
  · unfold hdV
    rw [show (100 : Int64) = lN 100 from rfl, lN_mul, pk_lDiv (by omega) (by rw [e2]; exact hS2) (by omega), lN_i, e1, e2]
    congr 1
    rw [← Nat.mul_assoc, Nat.mul_div_mul_right _ _ hpos]
  · unfold rdV
    rw [show (2 : Int64) = lN 2 from rfl, lN_mul, lN_mul, lN_add, pk_lDiv (by omega) (by rw [e2]; omega) (by omega), lN_i, e1, e2]
    congr 1
    rw [← Nat.mul_assoc, ← Nat.mul_assoc, ← Nat.add_mul, Nat.mul_div_mul_right _ _ hpos]
theorem corners_s (h : Sd β) (ha : Ag β σ) : WP (fL_corners σ) (fun r => r.1 = true ∧ Ag β r.2) := by
  have hU := h.U
  unfold fL_corners L_corners_L4
  refine wf_3 4 (fun i a b c => a = (1 : Int32) ∧ b = nI i ∧ Ag β c) ⟨rfl, rfl, ha⟩ (by decide) (fun i a b c rec hi hI ih => ?_) (fun a b c rec hI => ?_)
  · obtain ⟨rfl, rfl, hc⟩ := hI
    rw [if_neg (c := (4 : Int32) ≤ nI i) (nI_ge hi (by decide))]
    refine wp_bndp (mark_s h hc hi) fun v2 σ5 ⟨h5, hv2⟩ => ?_
    refine wp_vk1 (fun a => a = nI (cri β i)) (fun a ea => ?_) (fun j32 hj => ?_)
    · subst ea
      refine wp_vk1 (fun a => a = nI (crj β i)) (fun a ea => ?_) (fun j50 hj => ?_)
      · subst ea
        have hci : cri β i ≤ 2 * uO β := by unfold cri; split <;> omega
        have hcj : crj β i ≤ 2 * vO β := by unfold crj; split <;> omega
        refine wp_bndp (marked_s h h5) fun v8 σ11 ⟨h11, hv8⟩ => ?_
        have hih : ∀ (a : Int32) (τ : SS), (a = (1 : Int32) ∧ Ag β τ) → WP (rec a (nI i + 1) τ) (fun r => r.1 = true ∧ Ag β r.2) := fun a τ q => ih _ _ _ ⟨q.1, nI_1 i, q.2⟩
        rcases hv8 with ⟨hm, e8⟩ | ⟨hm, e8⟩
        · dsimp only at e8
          rw [e8, if_neg (by decide)]
          obtain ⟨b, b1, b2, x1, x2, x3, z1, -⟩ := mks_s h hm hi
          have hv2 := hv2 hm
          dsimp only at hv2
          rw [hv2, b2]
          refine wp_bndp (blob_s h h11 b1 (what := 0) (by decide)) fun v12 σ15 ⟨h15, y12⟩ => ?_
          refine wp_bndp (blob_s h h15 b1 (what := 1) (by decide)) fun v16 σ19 ⟨h19, y16⟩ => ?_
          refine wp_bndp (blob_s h h19 b1 (what := 2) (by decide)) fun v20 σ23 ⟨h23, y20⟩ => ?_
          have y12 : v12 = nI (msO β i) := y12.trans (by rw [if_pos rfl, x3])
          have y16 : v16 = nI (mxO β i) := y16.trans (by rw [if_neg (by decide), if_pos rfl, x1])
          have y20 : v20 = nI (myO β i) := y20.trans (by rw [if_neg (by decide), if_neg (by decide), x2])
          subst y12 y16 y20
          obtain ⟨bx, bY⟩ := (mk_all h hm).2 i hi
          obtain ⟨c1, c2⟩ := at_corner h hm hi (mxO β) bx
          obtain ⟨c3, c4⟩ := at_corner h hm hi (myO β) bY
          refine wp_vk (fun a c => a = (1 : Int32) ∧ Ag β c) (fun a c q => hih a c q) (fun j207 hj7 => ?_)
          refine wp_vk1 (fun _ => False) (fun a q => q.elim) (fun j206 hj6 => ?_)
          rw [if_neg (by decide)]
          refine wp_bndp (map_s h h23 hci hcj (what := 2) (by decide)) fun v27 σ30 ⟨h30, _, q27⟩ => ?_
          rw [show (100 : Int32) = nI 100 from rfl, show (2 : Int32) = nI 2 from rfl, nI_mul, nI_mul, nI_mul, nI_mul, nI_mul, nI_add, nI_add]
          refine wp_grd (nz_nI z1.1 (by omega)) ?_
          rw [pk_div (by omega) (by omega) (by omega), if_pos ((q27 hm).trans c1)]
          refine wp_bndp (map_s h h30 hci hcj (what := 3) (by decide)) fun v32 σ35 ⟨h35, _, q32⟩ => ?_
          rw [pk_div (by omega) (by omega) (by omega), if_pos ((q32 hm).trans c3)]
          refine wp_bndp (map_s h h35 hci hcj (what := 0) (by decide)) fun v36 σ39 ⟨h39, _, q36⟩ => ?_
          refine wp_grd (nz_nI (by omega) (by omega)) ?_
          rw [pk_div (by omega) (by omega) (by omega), if_pos ((q36 hm).trans c2)]
          refine wp_bndp (map_s h h39 hci hcj (what := 1) (by decide)) fun v41 σ44 ⟨h44, _, q41⟩ => ?_
          rw [pk_div (by omega) (by omega) (by omega), if_pos ((q41 hm).trans c4)]
          exact hj7 _ _ ⟨rfl, h44⟩
        · dsimp only at e8
          rw [e8, if_pos rfl]
          refine wp_vk (fun a c => a = (1 : Int32) ∧ Ag β c) (fun a c q => hih a c q) (fun j82 hj8 => ?_)
          refine wp_vk1 (fun _ => False) (fun a q => q.elim) (fun j81 hj9 => ?_)
          rw [if_neg (by decide)]
          refine wp_bndp (map_s h h11 hci hcj (what := 0) (by decide)) fun v48 σ51 ⟨h51, q48, _⟩ => ?_
          rw [if_pos (q48 hm)]
          exact hj8 _ _ ⟨rfl, h51⟩
      · by_cases c : 2 ≤ i
        · rw [if_pos (c := (2 : Int32) ≤ nI i) (nI_le c (by omega))]
          have e5 : fX7_count σ5 (5 : Int32) = some (nI (vO β)) := by
            unfold fX7_count
            rw [if_neg (by decide), if_neg (by decide), if_neg (by decide), if_neg (by decide), if_neg (by decide), if_pos rfl, ag_f h5]
            exact congrArg some (h.1.ag h5).2.2.2.2.2.2.2.2.2.2.2.2.2.2.2.2.2.1
          rw [bnd1_of _ e5, show (2 : Int32) = nI 2 from rfl, nI_mul]
          exact hj _ (by unfold crj; rw [if_pos c])
        · rw [if_neg (c := (2 : Int32) ≤ nI i) (nI_ge (show i < 2 by omega) (by decide))]
          exact hj _ (by unfold crj; rw [if_neg c]; rfl)
    · rw [show (2 : Int32) = nI 2 from rfl, rem_nI (by omega) (by decide) (by decide)]
      by_cases c : i % 2 = 0
      · rw [c, if_pos (c := nI 0 = (0 : Int32)) rfl]
        exact hj _ (by unfold cri; rw [if_pos c]; rfl)
      · rw [if_neg (nI_ne0 (by omega) (by omega))]
        have e4 : fX7_count σ5 (4 : Int32) = some (nI (uO β)) := by
          unfold fX7_count
          rw [if_neg (by decide), if_neg (by decide), if_neg (by decide), if_neg (by decide), if_pos rfl, ag_f h5]
          exact congrArg some (h.1.ag h5).2.2.2.2.2.2.2.2.2.2.2.2.2.2.2.2.1
        rw [bnd1_of _ e4, nI_mul]
        exact hj _ (by unfold cri; rw [if_neg c])
  · obtain ⟨rfl, rfl, hc⟩ := hI
    rw [if_pos (c := (4 : Int32) ≤ nI 4) (nI_le (Nat.le_refl _) (by decide))]
    exact wp_grd (by decide) ⟨_, rfl, rfl, hc⟩
end CORNERS
