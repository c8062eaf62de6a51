/-! 25: the nearest blob of a size; the four squares as blobs. -/
section NEARMIN
variable {w q : Nat} {s x y : Nat → Nat} {c d mk : Nat}
def farI (s x y : Nat → Nat) (c d b : Nat) : Int := ((x b : Int) - s b * c) * ((x b : Int) - s b * c) + ((y b : Int) - s b * d) * ((y b : Int) - s b * d)
theorem far_eq (s x y : Nat → Nat) (c d b : Nat) : (lN (x b) - lN (s b) * lN c) * (lN (x b) - lN (s b) * lN c) + (lN (y b) - lN (s b) * lN d) * (lN (y b) - lN (s b) * lN d) = Int64.ofInt (farI s x y c d b) := by
  simp only [l_nat, l_mul, l_sub, l_add]
  rfl
theorem sq_abs (a : Int) {N : Nat} (h : a.natAbs ≤ N) : (a * a).natAbs ≤ N * N := by rw [Int.natAbs_mul]; exact Nat.mul_le_mul h h
theorem far_bd {b : Nat} (hc : c ≤ 40) (hd : d ≤ 40) (hb : s b ≤ 1600 ∧ x b ≤ 64000 ∧ y b ≤ 64000) : (farI s x y c d b).natAbs ≤ 32768000000 := by
  have h1 : s b * c ≤ 1600 * 40 := Nat.mul_le_mul hb.1 hc
  have h2 : s b * d ≤ 1600 * 40 := Nat.mul_le_mul hb.1 hd
  have e1 : ((x b : Int) - s b * c).natAbs ≤ 128000 := by
    have : ((s b * c : Nat) : Int) = (s b : Int) * c := by simp
    omega
  have e2 : ((y b : Int) - s b * d).natAbs ≤ 128000 := by
    have : ((s b * d : Nat) : Int) = (s b : Int) * d := by simp
    omega
  have a1 := sq_abs _ e1
  have a2 := sq_abs _ e2
  unfold farI
  refine Nat.le_trans (Int.natAbs_add_le _ _) ?_
  omega
theorem far_cmp {b b' : Nat} (hc : c ≤ 40) (hd : d ≤ 40) (hb : s b ≤ 1600 ∧ x b ≤ 64000 ∧ y b ≤ 64000) (hb' : s b' ≤ 1600 ∧ x b' ≤ 64000 ∧ y b' ≤ 64000) :
    (0 ≤ lg_cmp (Int64.ofInt (farI s x y c d b) * (lN (s b') * lN (s b'))) (Int64.ofInt (farI s x y c d b') * (lN (s b) * lN (s b)))) = (farI s x y c d b' * ((s b : Int) * s b) ≤ farI s x y c d b * ((s b' : Int) * s b')) := by
  have key : ∀ a a', (s a ≤ 1600 ∧ x a ≤ 64000 ∧ y a ≤ 64000) → (s a' ≤ 1600 ∧ x a' ≤ 64000 ∧ y a' ≤ 64000) → (Int64.ofInt (farI s x y c d a) * (lN (s a') * lN (s a'))).toInt = farI s x y c d a * ((s a' : Int) * s a') := by
    intro a a' ha ha'
    simp only [l_nat, l_mul]
    apply l_val
    rw [Int.natAbs_mul]
    have h1 := far_bd (s := s) (x := x) (y := y) (b := a) hc hd ha
    have h2 : ((s a' : Int) * s a').natAbs ≤ 1600 * 1600 := sq_abs _ (by omega)
    exact Nat.le_trans (Nat.mul_le_mul h1 h2) (by decide)
  rw [cmp_ge, key b b' hb hb', key b' b hb' hb]
/-- the one that is nearer than all others of the size is found -/
theorem nr_min {bs : Nat} (hc : c ≤ 40) (hd : d ≤ 40) (hmk : mk < 2 ^ 31) : ∀ n, n ≤ 1000 → (∀ b, b < n → s b ≤ 1600 ∧ x b ≤ 64000 ∧ y b ≤ 64000) → (bs < n → mk ≤ s bs) → (bs < n → ∀ b, b < n → b ≠ bs → mk ≤ s b → farI s x y c d bs * ((s b : Int) * s b) < farI s x y c d b * ((s bs : Int) * s bs)) →
    (bs < n → nrR w q s x y (lN c) (lN d) (nI mk) n = (nI bs, Int64.ofInt (farI s x y c d bs), lN (s bs) * lN (s bs))) ∧ (n ≤ bs → (nrR w q s x y (lN c) (lN d) (nI mk) n = (-1, 0, 1)) ∨ ∃ b, b < n ∧ mk ≤ s b ∧ nrR w q s x y (lN c) (lN d) (nI mk) n = (nI b, Int64.ofInt (farI s x y c d b), lN (s b) * lN (s b)))
  | 0, _, _, _, _ => ⟨fun h => absurd h (Nat.not_lt_zero _), fun _ => Or.inl rfl⟩
  | n + 1, hn, hb, hm, hmin => by
    have e : nrR w q s x y (lN c) (lN d) (nI mk) (n + 1) = nrS w q s x y (lN c) (lN d) (nI mk) n (nrR w q s x y (lN c) (lN d) (nI mk) n) := rfl
    have hs := hb n (by omega)
    have hlt : (nI (s n) < nI mk) = (s n < mk) := by rw [lt_i, nI_toInt (by omega), nI_toInt (by omega)]; exact propext (by omega)
    rcases Nat.lt_trichotomy bs n with h | h | h
    · -- behind it
      obtain ⟨ih, -⟩ := nr_min (bs := bs) hc hd hmk n (by omega) (fun b hb' => hb b (by omega)) (fun _ => hm (by omega)) (fun _ b h1 h2 h3 => hmin (by omega) b (by omega) h2 h3)
      refine ⟨fun _ => ?_, fun h' => absurd h' (by omega)⟩
      rw [e, ih h]
      unfold nrS
      dsimp only
      by_cases c1 : s n < mk
      · rw [if_pos (by rw [hlt]; exact c1)]
      · rw [if_neg (by rw [hlt]; exact c1), if_neg (by rw [lt_i, nI_toInt (by omega)]; simp), if_pos]
        rw [far_eq, far_cmp hc hd hs (hb bs (by omega))]
        exact Int.le_of_lt (hmin (by omega) n (by omega) (by omega) (by omega))
    · obtain ⟨-, ih⟩ := nr_min (bs := bs) hc hd hmk n (by omega) (fun b hb' => hb b (by omega)) (fun h => absurd h (by omega)) (fun h => absurd h (by omega))
      refine ⟨fun _ => ?_, fun h' => absurd h' (by omega)⟩
      have hm := hm (by omega)
      have hmin := hmin (by omega)
      rw [h] at hm hmin ⊢
      rw [e]
      rcases ih (by omega) with e0 | ⟨b, b1, b2, e0⟩
      · rw [e0]
        unfold nrS
        dsimp only
        rw [if_neg (by rw [hlt]; omega), if_pos (by decide), far_eq]
      · rw [e0]
        unfold nrS
        dsimp only
        rw [if_neg (by rw [hlt]; omega), if_neg (by rw [lt_i, nI_toInt (by omega)]; simp), if_neg, far_eq]
        rw [far_eq, far_cmp hc hd hs (hb b (by omega))]
        have := hmin b (by omega) (by omega) b2
        omega
    · obtain ⟨-, ih⟩ := nr_min (bs := bs) hc hd hmk n (by omega) (fun b hb' => hb b (by omega)) (fun h => absurd h (by omega)) (fun h => absurd h (by omega))
      refine ⟨fun h' => absurd h' (by omega), fun _ => ?_⟩
      rw [e]
      have ih := ih (by omega)
      by_cases c1 : s n < mk
      · have e1 : nrS w q s x y (lN c) (lN d) (nI mk) n (nrR w q s x y (lN c) (lN d) (nI mk) n) = nrR w q s x y (lN c) (lN d) (nI mk) n := by
          unfold nrS; rw [if_pos (by rw [hlt]; exact c1)]
        rw [e1]
        exact ih.imp id fun ⟨b, b1, b2, b3⟩ => ⟨b, by omega, b2, b3⟩
      · have e1 : nrS w q s x y (lN c) (lN d) (nI mk) n (nrR w q s x y (lN c) (lN d) (nI mk) n) = nrR w q s x y (lN c) (lN d) (nI mk) n ∧ 0 ≤ (nrR w q s x y (lN c) (lN d) (nI mk) n).1.toInt ∨ nrS w q s x y (lN c) (lN d) (nI mk) n (nrR w q s x y (lN c) (lN d) (nI mk) n) = (nI n, Int64.ofInt (farI s x y c d n), lN (s n) * lN (s n)) := by
          unfold nrS
          rw [if_neg (by rw [hlt]; exact c1), far_eq]
          by_cases c2 : (nrR w q s x y (lN c) (lN d) (nI mk) n).1 < 0
          · rw [if_pos c2]; exact Or.inr rfl
          · rw [if_neg c2]
            split
            · left; refine ⟨rfl, ?_⟩; rw [lt_i] at c2; simp at c2; exact c2
            · exact Or.inr rfl
        rcases e1 with ⟨e1, e2⟩ | e1
        · rw [e1]
          rcases ih with e0 | ⟨b, b1, b2, b3⟩
          · rw [e0] at e2; exact absurd e2 (by decide)
          · exact Or.inr ⟨b, by omega, b2, b3⟩
        · rw [e1]; exact Or.inr ⟨n, by omega, by omega, rfl⟩
end NEARMIN
/-! sums over a rectangle's dots -/
section RECT
variable {w q X0 Y0 a b : Nat}
def recL (w X0 Y0 a : Nat) (i : Nat) : Nat := (Y0 + i / a) * w + (X0 + i % a)
theorem ix_mod {w x y : Nat} (hx : x < w) : (y * w + x) % w = x := by rw [Nat.mul_comm, Nat.mul_add_mod, Nat.mod_eq_of_lt hx]
theorem ix_div {w x y : Nat} (hx : x < w) : (y * w + x) / w = y := by rw [Nat.mul_comm, Nat.mul_add_div (by omega), Nat.div_eq_of_lt hx, Nat.add_zero]
theorem rec_at (ha : 1 ≤ a) (hX : X0 + a ≤ w) (i : Nat) : recL w X0 Y0 a i % w = X0 + i % a ∧ recL w X0 Y0 a i / w = Y0 + i / a := by
  have h := Nat.mod_lt i (show 0 < a by omega)
  unfold recL
  exact ⟨ix_mod (by omega), ix_div (by omega)⟩
theorem rec_mem (ha : 1 ≤ a) (hX : X0 + a ≤ w) {j : Nat} : mem (recL w X0 Y0 a) (a * b) j ↔ (X0 ≤ j % w ∧ j % w < X0 + a) ∧ Y0 ≤ j / w ∧ j / w < Y0 + b := by
  constructor
  · rintro ⟨i, hi, rfl⟩
    obtain ⟨e1, e2⟩ := rec_at (Y0 := Y0) ha hX i
    have h := Nat.mod_lt i (show 0 < a by omega)
    have h2 : i / a < b := Nat.div_lt_of_lt_mul hi
    rw [e1, e2]
    generalize i / a = z at h2
    omega
  · rintro ⟨⟨h1, h2⟩, h3, h4⟩
    refine ⟨(j / w - Y0) * a + (j % w - X0), ?_, ?_⟩
    · have : j / w - Y0 + 1 ≤ b := by omega
      have := Nat.mul_le_mul_right a this
      rw [Nat.add_mul, Nat.one_mul] at this
      rw [Nat.mul_comm a b]; omega
    · unfold recL
      rw [ix_mod (by omega), ix_div (by omega), show Y0 + (j / w - Y0) = j / w by omega, show X0 + (j % w - X0) = j % w by omega, Nat.mul_comm]
      exact Nat.div_add_mod j w
theorem rec_ls (ha : 1 ≤ a) (hX : X0 + a ≤ w) (hY : Y0 + b ≤ q) (f : Nat → Nat) : ls (recL w X0 Y0 a) f (a * b) = gs (mem (recL w X0 Y0 a) (a * b)) f (w * q) := by
  refine ls_gs _ (fun i j hi hj e => ?_) (fun i hi => ?_)
  · have e1 := rec_at (Y0 := Y0) ha hX i
    have e2 := rec_at (Y0 := Y0) ha hX j
    rw [e] at e1
    have h1 : i % a = j % a := by omega
    have h2 : i / a = j / a := by omega
    have a1 := Nat.div_add_mod i a
    have a2 := Nat.div_add_mod j a
    rw [h1, h2] at a1
    exact a1.symm.trans a2
  · have h := Nat.mod_lt i (show 0 < a by omega)
    have h2 : i / a < b := Nat.div_lt_of_lt_mul hi
    exact cell_lt (X := X0 + i % a) (Y := Y0 + i / a) (by omega) (by omega)
/-- any predicate that is this rectangle -/
theorem rec_gs {m : Nat → Prop} (ha : 1 ≤ a) (hX : X0 + a ≤ w) (hY : Y0 + b ≤ q) (hm : ∀ j, j < w * q → (m j ↔ (X0 ≤ j % w ∧ j % w < X0 + a) ∧ Y0 ≤ j / w ∧ j / w < Y0 + b)) (f : Nat → Nat) : gs m f (w * q) = ls (recL w X0 Y0 a) f (a * b) := by
  rw [rec_ls ha hX hY f]
  exact gs_congr _ fun k hk => (hm k hk).trans (rec_mem ha hX).symm
end RECT
