/-! 24: the printed picture, dot by dot. -/
section UPRIGHT2
variable {U V c : Nat} {Z S : Nat → Nat}
theorem mp_up' (hS : ∀ k, k < 4 → S k = c) (z0 : Z 0 = c * 3) (z1 : Z 1 = c * 3) (z2 : Z 2 = c * (V + 3)) (z3 : Z 3 = c * (V + 3)) {p r : Nat} (hp : p ≤ 2 * U) (hr : r ≤ 2 * V) : mpN Z S (2 * U) (2 * V) p r = c * c * c * c * (2 * U * V * (6 + r)) := by
  have h := mp_up (U := V) (V := U) (c := c) (Z := fun k => if k = 1 then c * (V + 3) else if k = 2 then c * 3 else Z k) (S := fun k => c) (fun _ _ => rfl) z0 rfl rfl z3 hr hp
  have o : ∀ k, k < 4 → oth S k 4 = c * c * c := fun k hk => by
    obtain ⟨o0, o1, o2, o3⟩ := oth_e S
    rcases (show k = 0 ∨ k = 1 ∨ k = 2 ∨ k = 3 by omega) with rfl | rfl | rfl | rfl
    · rw [o0, hS 1 (by decide), hS 2 (by decide), hS 3 (by decide), Nat.one_mul]
    · rw [o1, hS 0 (by decide), hS 2 (by decide), hS 3 (by decide), Nat.one_mul]
    · rw [o2, hS 0 (by decide), hS 1 (by decide), hS 3 (by decide), Nat.one_mul]
    · rw [o3, hS 0 (by decide), hS 1 (by decide), hS 2 (by decide), Nat.one_mul]
  have o' : ∀ k, k < 4 → oth (fun _ => c) k 4 = c * c * c := fun k hk => by
    obtain ⟨o0, o1, o2, o3⟩ := oth_e (fun _ => c)
    rcases (show k = 0 ∨ k = 1 ∨ k = 2 ∨ k = 3 by omega) with rfl | rfl | rfl | rfl
    · rw [o0, Nat.one_mul]
    · rw [o1, Nat.one_mul]
    · rw [o2, Nat.one_mul]
    · rw [o3, Nat.one_mul]
  unfold mpN at *
  rw [o 0 (by decide), o 1 (by decide), o 2 (by decide), o 3 (by decide)]
  rw [o' 0 (by decide), o' 1 (by decide), o' 2 (by decide), o' 3 (by decide)] at h
  simp only [if_true, show ¬ (0 = 1) by decide, show ¬ (0 = 2) by decide, show ¬ (2 = 1) by decide, show ¬ (3 = 1) by decide, show ¬ (3 = 2) by decide, if_false] at h
  rw [z1, z2]
  have e1 : (2 * V - r) * (2 * U - p) = (2 * U - p) * (2 * V - r) := Nat.mul_comm _ _
  have e2 : r * (2 * U - p) = (2 * U - p) * r := Nat.mul_comm _ _
  have e3 : (2 * V - r) * p = p * (2 * V - r) := Nat.mul_comm _ _
  have e4 : r * p = p * r := Nat.mul_comm _ _
  have e5 : 2 * V * U = 2 * U * V := by ac_rfl
  rw [e1, e2, e3, e4, e5] at h
  omega
theorem by_up (hS : ∀ k, k < 4 → S k = c) : byN S (2 * U) (2 * V) = c * c * c * c * (2 * U * (2 * V)) := by
  unfold byN allS
  rw [hS 0 (by decide), hS 1 (by decide), hS 2 (by decide), hS 3 (by decide), Nat.mul_assoc]
theorem rd_up (hc : c = 1 ∨ c = 9) (hU : 4 ≤ U ∧ U ≤ 40) (hV : 4 ≤ V ∧ V ≤ 40) (hS : ∀ k, k < 4 → S k = c) {i p r : Nat} (hi : i ≤ 40) (hm : mpN Z S (2 * U) (2 * V) p r = c * c * c * c * (2 * U * V * (7 + 2 * i))) : rdV Z S (2 * U) (2 * V) p r = nI (4 + i) := by
  have hb := by_up (U := U) (V := V) hS
  have hK : c * c * c * c * (2 * U * (2 * V)) ≤ 6561 * 6400 := Nat.mul_le_mul (by rcases hc with rfl | rfl <;> decide) (Nat.mul_le_mul (show 2 * U ≤ 80 by omega) (show 2 * V ≤ 80 by omega))
  have hpos : 0 < c * c * c * c * (2 * U * (2 * V)) := Nat.mul_pos (by rcases hc with rfl | rfl <;> decide) (Nat.mul_pos (by omega) (by omega))
  have e2 : 2 * mpN Z S (2 * U) (2 * V) p r = c * c * c * c * (2 * U * (2 * V)) * (7 + 2 * i) := by rw [hm]; ac_rfl
  have hlt : mpN Z S (2 * U) (2 * V) p r ≤ 6561 * 6400 * 87 := by
    have : c * c * c * c * (2 * U * (2 * V)) * (7 + 2 * i) ≤ 6561 * 6400 * 87 := Nat.mul_le_mul hK (by omega)
    omega
  unfold rdV
  rw [hb] at *
  rw [show (2 : Int64) = lN 2 from rfl, lN_mul, lN_mul, lN_add, pk_lDiv (by omega) (by omega) (by omega), lN_i, e2]
  generalize c * c * c * c * (2 * U * (2 * V)) = K at hpos
  congr 1
  have e3 : K * (7 + 2 * i) + K = 2 * K * (4 + i) := by
    simp only [Nat.mul_add, Nat.add_mul]
    have : K * (2 * i) = 2 * K * i := by ac_rfl
    omega
  rw [e3, Nat.mul_div_cancel_left _ (by omega)]
end UPRIGHT2
section PICT
variable {U V A B w q v : Nat} {X Y S : Nat → Nat} {G : Nat → Nat → Int32}
theorem pt_at {a b x y : Nat} (ha : a < w) (hb : b < q) (hw : w ≤ 1000) (hq : q ≤ 1000) (z : Int32) : ptF w q z (nI a) (nI b) G x y = if x = a ∧ y = b then z else G x y := by
  unfold ptF
  rw [nI_toInt (by omega), nI_toInt (by omega)]
  by_cases c : x = a ∧ y = b
  · rw [if_pos c, if_pos (by omega)]
  · rw [if_neg c, if_neg (by omega)]
variable (hU : 4 ≤ U ∧ U ≤ 40) (hV : 4 ≤ V ∧ V ≤ 40) (hw : w = U + 7) (hq : q = V + 7) (hX : ∀ i j, i < U → j < V → rdV X S (2 * U) (2 * V) (2 * i + 1) (2 * j + 1) = nI (4 + i)) (hY : ∀ i j, i < U → j < V → rdV Y S (2 * U) (2 * V) (2 * i + 1) (2 * j + 1) = nI (4 + j))
theorem row_at (hU : 4 ≤ U ∧ U ≤ 40) (hV : 4 ≤ V ∧ V ≤ 40) (hw : w = U + 7) (hq : q = V + 7) (hX : ∀ i j, i < U → j < V → rdV X S (2 * U) (2 * V) (2 * i + 1) (2 * j + 1) = nI (4 + i)) (hY : ∀ i j, i < U → j < V → rdV Y S (2 * U) (2 * V) (2 * i + 1) (2 * j + 1) = nI (4 + j)) (z : Int32) {bx y0 : Nat} (hy0 : y0 < V) (x y : Nat) : ∀ n, bx + n ≤ U → rwF w q z X Y S (2 * U) (2 * V) bx y0 G n x y = if (4 + bx ≤ x ∧ x < 4 + bx + n) ∧ y = 4 + y0 then z else G x y
  | 0, _ => by rw [if_neg (by omega)]; rfl
  | n + 1, h => by
    have ih := row_at (bx := bx) hU hV hw hq hX hY z hy0 x y n (by omega)
    show ptF w q z (rdV X S (2 * U) (2 * V) (2 * (bx + n) + 1) (2 * y0 + 1)) (rdV Y S (2 * U) (2 * V) (2 * (bx + n) + 1) (2 * y0 + 1)) (rwF w q z X Y S (2 * U) (2 * V) bx y0 G n) x y = _
    rw [hX _ _ (by omega) hy0, hY _ _ (by omega) hy0, pt_at (by omega) (by omega) (by omega) (by omega), ih]
    by_cases c1 : x = 4 + (bx + n) ∧ y = 4 + y0
    · rw [if_pos c1, if_pos (by omega)]
    · rw [if_neg c1]
      by_cases c2 : (4 + bx ≤ x ∧ x < 4 + bx + n) ∧ y = 4 + y0
      · rw [if_pos c2, if_pos (by omega)]
      · rw [if_neg c2, if_neg (by omega)]
theorem box_at (hU : 4 ≤ U ∧ U ≤ 40) (hV : 4 ≤ V ∧ V ≤ 40) (hw : w = U + 7) (hq : q = V + 7) (hX : ∀ i j, i < U → j < V → rdV X S (2 * U) (2 * V) (2 * i + 1) (2 * j + 1) = nI (4 + i)) (hY : ∀ i j, i < U → j < V → rdV Y S (2 * U) (2 * V) (2 * i + 1) (2 * j + 1) = nI (4 + j)) (z : Int32) {bx by' : Nat} (hbx : bx + A ≤ U) (x y : Nat) : ∀ n, by' + n ≤ V → bxF w q z X Y S (2 * U) (2 * V) A bx by' G n x y = if (4 + bx ≤ x ∧ x < 4 + bx + A) ∧ 4 + by' ≤ y ∧ y < 4 + by' + n then z else G x y
  | 0, _ => by rw [if_neg (by omega)]; rfl
  | n + 1, h => by
    have ih := box_at (bx := bx) (by' := by') hU hV hw hq hX hY z hbx x y n (by omega)
    show rwF w q z X Y S (2 * U) (2 * V) bx (by' + n) (bxF w q z X Y S (2 * U) (2 * V) A bx by' G n) A x y = _
    rw [row_at hU hV hw hq hX hY z (by omega) x y A hbx, ih]
    by_cases c1 : (4 + bx ≤ x ∧ x < 4 + bx + A) ∧ y = 4 + (by' + n)
    · rw [if_pos c1, if_pos (by omega)]
    · rw [if_neg c1]
      by_cases c2 : (4 + bx ≤ x ∧ x < 4 + bx + A) ∧ 4 + by' ≤ y ∧ y < 4 + by' + n
      · rw [if_pos c2, if_pos (by omega)]
      · rw [if_neg c2, if_neg (by omega)]
/-- a dot of box k -/
abbrev inBx (A B : Nat) (cx cy : Nat → Nat) (k x y : Nat) : Prop := (4 + cx k ≤ x ∧ x < 4 + cx k + A) ∧ 4 + cy k ≤ y ∧ y < 4 + cy k + B
abbrev tkB (T : Nat → Int32) (p i : Nat) : Prop := ((T p >>> (nI i &&& 31)) &&& (1 : Int32)) = (1 : Int32)
theorem quest_at {T : Nat → Int32} {cx cy N : Nat → Nat} {p : Nat} (hU : 4 ≤ U ∧ U ≤ 40) (hV : 4 ≤ V ∧ V ≤ 40) (hw : w = U + 7) (hq : q = V + 7) (hX : ∀ i j, i < U → j < V → rdV X S (2 * U) (2 * V) (2 * i + 1) (2 * j + 1) = nI (4 + i)) (hY : ∀ i j, i < U → j < V → rdV Y S (2 * U) (2 * V) (2 * i + 1) (2 * j + 1) = nI (4 + j)) (z : Int32) (x y : Nat) : ∀ n, (∀ i, i < n → cx (psum N p + i) + A ≤ U ∧ cy (psum N p + i) + B ≤ V) →
    ((∃ i, i < n ∧ tkB T p i ∧ inBx A B cx cy (psum N p + i) x y) → bqF w q z X Y S (2 * U) (2 * V) A B T cx cy N p G n x y = z) ∧ ((¬ ∃ i, i < n ∧ tkB T p i ∧ inBx A B cx cy (psum N p + i) x y) → bqF w q z X Y S (2 * U) (2 * V) A B T cx cy N p G n x y = G x y)
  | 0, _ => ⟨fun ⟨i, hi, _⟩ => absurd hi (Nat.not_lt_zero _), fun _ => rfl⟩
  | n + 1, h => by
    obtain ⟨ih1, ih2⟩ := quest_at (p := p) (T := T) (cx := cx) (cy := cy) (N := N) hU hV hw hq hX hY z x y n (fun i hi => h i (by omega))
    obtain ⟨b1, b2⟩ := h n (by omega)
    have e : bqF w q z X Y S (2 * U) (2 * V) A B T cx cy N p G (n + 1) x y = if tkB T p n ∧ inBx A B cx cy (psum N p + n) x y then z else bqF w q z X Y S (2 * U) (2 * V) A B T cx cy N p G n x y := by
      show (if ((T p >>> (nI n &&& 31)) &&& (1 : Int32)) = (1 : Int32) then bxF w q z X Y S (2 * U) (2 * V) A (cx (psum N p + n)) (cy (psum N p + n)) (bqF w q z X Y S (2 * U) (2 * V) A B T cx cy N p G n) B else bqF w q z X Y S (2 * U) (2 * V) A B T cx cy N p G n) x y = _
      by_cases c : ((T p >>> (nI n &&& 31)) &&& (1 : Int32)) = (1 : Int32)
      · rw [if_pos c, box_at hU hV hw hq hX hY z b1 x y B b2]
        by_cases c2 : inBx A B cx cy (psum N p + n) x y
        · rw [if_pos (show _ from c2), if_pos (show _ from ⟨c, c2⟩)]
        · rw [if_neg (show ¬ _ from c2), if_neg (fun q => c2 q.2)]
      · rw [if_neg c, if_neg (fun q => c q.1)]
    rw [e]
    refine ⟨fun ⟨i, hi, ht, hb⟩ => ?_, fun hn => ?_⟩
    · by_cases c : tkB T p n ∧ inBx A B cx cy (psum N p + n) x y
      · rw [if_pos c]
      · rw [if_neg c]
        by_cases ei : i = n
        · subst ei; exact absurd ⟨ht, hb⟩ c
        · exact ih1 ⟨i, by omega, ht, hb⟩
    · rw [if_neg (fun q => hn ⟨n, by omega, q.1, q.2⟩)]
      exact ih2 fun ⟨i, hi, hh⟩ => hn ⟨i, by omega, hh⟩
/-- a dot is inked by a box told as ticked -/
def inkd (A B : Nat) (T : Nat → Int32) (cx cy N : Nat → Nat) (Q x y : Nat) : Prop := ∃ p i, p < Q ∧ i < N p ∧ tkB T p i ∧ inBx A B cx cy (psum N p + i) x y
theorem all_at {T : Nat → Int32} {cx cy N : Nat → Nat} (hU : 4 ≤ U ∧ U ≤ 40) (hV : 4 ≤ V ∧ V ≤ 40) (hw : w = U + 7) (hq : q = V + 7) (hX : ∀ i j, i < U → j < V → rdV X S (2 * U) (2 * V) (2 * i + 1) (2 * j + 1) = nI (4 + i)) (hY : ∀ i j, i < U → j < V → rdV Y S (2 * U) (2 * V) (2 * i + 1) (2 * j + 1) = nI (4 + j)) (z : Int32) (x y : Nat) : ∀ Q, (∀ p i, p < Q → i < N p → cx (psum N p + i) + A ≤ U ∧ cy (psum N p + i) + B ≤ V) →
    (inkd A B T cx cy N Q x y → alF w q z X Y S (2 * U) (2 * V) A B T cx cy N G Q x y = z) ∧ (¬ inkd A B T cx cy N Q x y → alF w q z X Y S (2 * U) (2 * V) A B T cx cy N G Q x y = G x y)
  | 0, _ => ⟨fun ⟨p, i, hp, _⟩ => absurd hp (Nat.not_lt_zero _), fun _ => rfl⟩
  | n + 1, h => by
    obtain ⟨ih1, ih2⟩ := all_at (T := T) (cx := cx) (cy := cy) (N := N) hU hV hw hq hX hY z x y n (fun p i hp hi => h p i (by omega) hi)
    obtain ⟨q1, q2⟩ := quest_at (T := T) (N := N) (p := n) (G := alF w q z X Y S (2 * U) (2 * V) A B T cx cy N G n) hU hV hw hq hX hY z x y (N n) (fun i hi => h n i (by omega) hi)
    refine ⟨fun ⟨p, i, hp, hi, ht, hb⟩ => ?_, fun hn => ?_⟩
    · show bqF w q z X Y S (2 * U) (2 * V) A B T cx cy N n (alF w q z X Y S (2 * U) (2 * V) A B T cx cy N G n) (N n) x y = z
      by_cases c : ∃ i, i < N n ∧ tkB T n i ∧ inBx A B cx cy (psum N n + i) x y
      · exact q1 c
      · rw [q2 c]
        by_cases ep : p = n
        · subst ep; exact absurd ⟨i, hi, ht, hb⟩ c
        · exact ih1 ⟨p, i, by omega, hi, ht, hb⟩
    · show bqF w q z X Y S (2 * U) (2 * V) A B T cx cy N n (alF w q z X Y S (2 * U) (2 * V) A B T cx cy N G n) (N n) x y = _
      rw [q2 fun ⟨i, hi, hh⟩ => hn ⟨n, i, by omega, hi, hh⟩]
      exact ih2 fun ⟨p, i, hp, hh⟩ => hn ⟨p, i, by omega, hh⟩
end PICT
/-- the corners' squares -/
abbrev inSq (CX CY : Nat → Nat) (k x y : Nat) : Prop := (CX k ≤ x + 1 ∧ x ≤ CX k + 1) ∧ CY k ≤ y + 1 ∧ y ≤ CY k + 1
theorem sq_at {CX CY : Nat → Nat} (x y : Nat) : ∀ n, ((∃ k, k < n ∧ inSq CX CY k x y) → prF CX CY n x y = 9) ∧ ((¬ ∃ k, k < n ∧ inSq CX CY k x y) → prF CX CY n x y = 0)
  | 0 => ⟨fun ⟨k, hk, _⟩ => absurd hk (Nat.not_lt_zero _), fun _ => rfl⟩
  | n + 1 => by
    obtain ⟨ih1, ih2⟩ := sq_at (CX := CX) (CY := CY) x y n
    have e : prF CX CY (n + 1) x y = if inSq CX CY n x y then 9 else prF CX CY n x y := by
      show rnF 9 (prF CX CY n) (CX n) (CY n) 0 (CY n + 2) x y = _
      unfold rnF inSq
      by_cases c : (CX n ≤ x + 1 ∧ x ≤ CX n + 1) ∧ CY n ≤ y + 1 ∧ y ≤ CY n + 1
      · rw [if_pos c, if_pos (by omega)]
      · rw [if_neg c, if_neg (by omega)]
    rw [e]
    refine ⟨fun ⟨k, hk, hs⟩ => ?_, fun hn => ?_⟩
    · by_cases c : inSq CX CY n x y
      · rw [if_pos c]
      · rw [if_neg c]
        by_cases ek : k = n
        · subst ek; exact absurd hs c
        · exact ih1 ⟨k, by omega, hs⟩
    · rw [if_neg fun q => hn ⟨n, by omega, q⟩]
      exact ih2 fun ⟨k, hk, hs⟩ => hn ⟨k, by omega, hs⟩
