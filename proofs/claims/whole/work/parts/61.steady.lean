/-! Steady kept: a question's answer and state by one margin and by another. -/
theorem RSet.mg {σ : SS} (h : RSet σ) : ∃ m, (1 ≤ m ∧ m ≤ 200) ∧ gI σ 88 3 = nI m := by
  have h1 := (h 3 (by omega)).2
  have e1 : (roV 1001 3).toInt = 1 := by decide +kernel
  have e2 : (roV 1002 3).toInt = 200 := by decide +kernel
  unfold inR at h1
  rw [e1, e2] at h1
  obtain ⟨n, hn, e⟩ := in_of (x := gI σ 88 3) (w := 201) (by decide) (by omega)
  rw [e, nI_toInt (by omega)] at h1
  exact ⟨n, by omega, e⟩
theorem Bs.iff {v : Int32} {T T' : Nat → Prop} (h : Bs v T) (h' : Bs v T') {b : Nat} (hb : b < 6) : T b ↔ T' b := by
  obtain ⟨m, h1, h2, h3⟩ := h
  obtain ⟨m', k1, k2, k3⟩ := h'
  have := nI_injN (by omega) (by omega) (h2.symm.trans k2)
  subst this
  exact (h3 b hb).symm.trans (k3 b hb)
def zN (t m : Nat) : Nat := if m ≤ t then 0 else if m ≤ 2 * t then 1 else 2
theorem zn_c (t m : Nat) : (m ≤ t ∧ zN t m = 0) ∨ (t < m ∧ m ≤ 2 * t ∧ zN t m = 1) ∨ (t < m ∧ 2 * t < m ∧ zN t m = 2) := by
  unfold zN
  by_cases c : m ≤ t
  · rw [if_pos c]; omega
  · rw [if_neg c]
    by_cases c2 : m ≤ 2 * t
    · rw [if_pos c2]; omega
    · rw [if_neg c2]; omega
theorem zn_lo {t m c : Nat} (h1 : 1 ≤ c) (h2 : c ≤ m) (hm : m ≤ 200) (h3 : zN t c = zN t m) (h4 : ¬ (1 ≤ c - 1 ∧ c - 1 ≤ 200 ∧ zN t (c - 1) = zN t m)) : c = if t < m then (if 2 * t < m then 2 * t + 1 else t + 1) else 1 := by
  have a := zn_c t c
  have b := zn_c t m
  have d := zn_c t (c - 1)
  split
  · split <;> omega
  · omega
theorem zn_hi {t m c : Nat} (h1 : c ≤ 200) (h2 : m ≤ c) (hm : 1 ≤ m) (h3 : zN t c = zN t m) (h4 : ¬ (1 ≤ c + 1 ∧ c + 1 ≤ 200 ∧ zN t (c + 1) = zN t m)) : c = if t < m then (if 2 * t < m then 200 else min (2 * t) 200) else min t 200 := by
  have a := zn_c t c
  have b := zn_c t m
  have d := zn_c t (c + 1)
  split
  · split <;> omega
  · omega
section STEP
variable {D : Nat → Nat} {P n : Nat}
theorem atQ_n (hD : ∀ k, D k ≤ 324) (hP : P ≤ 324) (k : Nat) : ∃ d, d ≤ 324 ∧ atQ D P n k = nI d := by
  unfold atQ
  by_cases c : k = n
  · rw [if_pos c]; exact ⟨P, hP, rfl⟩
  · rw [if_neg c]; exact ⟨_, hD _, rfl⟩
theorem sub_i {a b : Nat} (ha : a ≤ 324) (hb : b ≤ 324) : (nI a - nI b).toInt = (a : Int) - b := by
  rw [Int32.toInt_sub, nI_toInt (by omega), nI_toInt (by omega)]
  simp only [Int.bmod]
  split <;> omega
theorem stQ_b (hD : ∀ k, D k ≤ 324) (hP : P ≤ 324) : ∀ k, -1 ≤ (stQ D P n k).2.toInt ∧ (stQ D P n k).2.toInt ≤ 324 ∧ (0 ≤ (stQ D P n k).2.toInt → 1 ≤ (stQ D P n k).1)
  | 0 => ⟨by show -1 ≤ (-1 : Int32).toInt; decide, by show (-1 : Int32).toInt ≤ 324; decide, fun h => absurd h (by show ¬ (0 ≤ (-1 : Int32).toInt); decide)⟩
  | k + 1 => by
    have ih := stQ_b hD hP k
    obtain ⟨d, d1, d2⟩ := atQ_n (n := n) hD hP k
    obtain ⟨e, e1, e2⟩ := atQ_n (n := n) hD hP (k + 1)
    have es : stQ D P n (k + 1) = if atQ D P n k - atQ D P n (k + 1) ≤ (stQ D P n k).2 then stQ D P n k else (k + 1, atQ D P n k - atQ D P n (k + 1)) := rfl
    rw [es]
    by_cases c : atQ D P n k - atQ D P n (k + 1) ≤ (stQ D P n k).2
    · rw [if_pos c]; exact ih
    · rw [if_neg c]
      rw [d2, e2, le_i, sub_i d1 e1] at c
      show -1 ≤ (atQ D P n k - atQ D P n (k + 1)).toInt ∧ (atQ D P n k - atQ D P n (k + 1)).toInt ≤ 324 ∧ (0 ≤ (atQ D P n k - atQ D P n (k + 1)).toInt → 1 ≤ k + 1)
      rw [d2, e2, sub_i d1 e1]
      omega
theorem stQ_n (hD : ∀ k, D k ≤ 324) (hP : P ≤ 324) (hn : 1 ≤ n) (hPD : ∀ k, k < n → P ≤ D k) : ∃ t : Nat, t ≤ 324 ∧ (stQ D P n n).2 = nI t ∧ 1 ≤ (stQ D P n n).1 := by
  obtain ⟨b1, b2, b3⟩ := stQ_b (n := n) hD hP n
  suffices h0 : 0 ≤ (stQ D P n n).2.toInt by
    obtain ⟨t, ht, e⟩ := in_of (x := (stQ D P n n).2) (w := 325) (by decide) (by omega)
    exact ⟨t, by omega, e, b3 h0⟩
  obtain ⟨k, rfl⟩ : ∃ k, n = k + 1 := ⟨n - 1, by omega⟩
  have es : stQ D P (k + 1) (k + 1) = if atQ D P (k + 1) k - atQ D P (k + 1) (k + 1) ≤ (stQ D P (k + 1) k).2 then stQ D P (k + 1) k else (k + 1, atQ D P (k + 1) k - atQ D P (k + 1) (k + 1)) := rfl
  have ea : (atQ D P (k + 1) k - atQ D P (k + 1) (k + 1)).toInt = (D (ordQ D (k + 1) k) : Int) - P := by
    have e1 : atQ D P (k + 1) k = nI (D (ordQ D (k + 1) k)) := if_neg (by omega)
    have e2 : atQ D P (k + 1) (k + 1) = nI P := if_pos rfl
    rw [e1, e2, sub_i (hD _) hP]
  have hp := hPD (ordQ D (k + 1) k) (srt_lt _ _ (by omega))
  rw [es]
  by_cases c : atQ D P (k + 1) k - atQ D P (k + 1) (k + 1) ≤ (stQ D P (k + 1) k).2
  · rw [if_pos c]
    rw [le_i, ea] at c
    omega
  · rw [if_neg c]
    show 0 ≤ (atQ D P (k + 1) k - atQ D P (k + 1) (k + 1)).toInt
    rw [ea]; omega
end STEP
section ZONE
variable {D : Nat → Nat} {P n t m m' : Nat} {one : Prop} {cl rb an se ru st an' se' ru' st' : Int32}
theorem JQ.off (ht : t ≤ 324) (hst : (stQ D P n n).2 = nI t) (hm : m ≤ 1000) (h : JQ D P n one (nI m) cl rb an se ru st) (c : t < m) : Bs an (fun _ => False) ∧ se = if 2 * t < m then 0 else 1 := by
  obtain ⟨y, y1, y2, y3, y4, y5⟩ := h
  have l1 : (stQ D P n n).2 < nI m := by rw [hst]; exact nI_lt c (by omega)
  have a0 : ahQ D P n (nI m) = 0 := if_pos l1
  have nc : ¬ clQ D P n one (nI m) cl := fun k => by have := k.2.1; omega
  have nd : ¬ dbQ D P n one (nI m) cl := fun k => by have := k.2.1; omega
  have ey : y = 0 := by
    rcases y1 with ⟨k, -⟩ | ⟨-, k⟩
    · exact absurd k nc
    · omega
  subst ey
  refine ⟨y2.imp fun b _ => ⟨fun ⟨k, _, k2, _⟩ => by omega, fun k => k.elim⟩, ?_⟩
  rcases y4 with ⟨k, -⟩ | ⟨-, k⟩
  · exact absurd k nd
  · rw [k, hst, show (2 : Int32) * nI t = nI (2 * t) by rw [show (2 : Int32) = nI 2 from rfl, nI_mul]]
    rw [hst] at l1
    by_cases c2 : 2 * t < m
    · rw [if_pos c2, if_neg fun q => q.2 (nI_lt c2 (by omega))]
    · rw [if_neg c2, if_pos ⟨l1, fun q => c2 (nI_ltN q (by omega) (by omega))⟩]
theorem JQ.on (hn : 1 ≤ n) (ht : t ≤ 324) (hst : (stQ D P n n).2 = nI t) (h1 : 1 ≤ (stQ D P n n).1) (h : JQ D P n one (nI m) cl rb an se ru st) (hm : m ≤ 1000) (c : ¬ t < m) : ∃ T, Bs an T ∧ T (ordQ D n 0) := by
  obtain ⟨y, y1, y2, y3, y4, y5⟩ := h
  have a0 : ahQ D P n (nI m) = (stQ D P n n).1 := if_neg fun q => c (by rw [hst] at q; exact nI_ltN q (by omega) (by omega))
  refine ⟨_, y2, 0, by omega, ?_, rfl⟩
  rcases y1 with ⟨-, k⟩ | ⟨-, k⟩ <;> omega
theorem JQ.on2 (ht : t ≤ 324) (hst : (stQ D P n n).2 = nI t) (hm : m ≤ 1000) (hm' : m' ≤ 1000) (h : JQ D P n one (nI m) cl rb an se ru st) (h' : JQ D P n one (nI m') cl rb an' se' ru' st') (c : ¬ t < m) (c' : ¬ t < m') : an' = an ∧ se' = se := by
  obtain ⟨y, y1, y2, y3, y4, y5⟩ := h
  obtain ⟨y', z1, z2, z3, z4, z5⟩ := h'
  have l : ∀ m, m ≤ 1000 → ¬ t < m → ¬ (stQ D P n n).2 < nI m := fun m hm c q => c (by rw [hst] at q; exact nI_ltN q (by omega) (by omega))
  have a0 : ahQ D P n (nI m) = (stQ D P n n).1 := if_neg (l m hm c)
  have a1 : ahQ D P n (nI m') = (stQ D P n n).1 := if_neg (l m' hm' c')
  have q1 : clQ D P n one (nI m') cl = clQ D P n one (nI m) cl := by unfold clQ; rw [a0, a1]
  have q2 : dbQ D P n one (nI m') cl = dbQ D P n one (nI m) cl := by unfold dbQ; rw [a0, a1]
  have z1' : syQ D P n one (nI m) cl y' := by
    unfold syQ at *; rw [q1, a1] at z1; rw [a0]; exact z1
  have := syQ_one y1 z1'
  subst this
  refine ⟨z2.one' y2 fun _ _ => Iff.rfl, ?_⟩
  unfold seQ at *
  rw [q2, if_neg fun q => l m' hm' c' q.1] at z4
  rw [if_neg fun q => l m hm c q.1] at y4
  rcases y4 with ⟨k1, k2⟩ | ⟨k1, k2⟩ <;> rcases z4 with ⟨k3, k4⟩ | ⟨k3, k4⟩
  · rw [k2, k4]
  · exact absurd k1 k3
  · exact absurd k3 k1
  · rw [k2, k4]
theorem JQ.zone (hn : 1 ≤ n ∧ n ≤ 6) (ht : t ≤ 324) (hst : (stQ D P n n).2 = nI t) (h1 : 1 ≤ (stQ D P n n).1) (hm : m ≤ 1000) (hm' : m' ≤ 1000) (h : JQ D P n one (nI m) cl rb an se ru st) (h' : JQ D P n one (nI m') cl rb an' se' ru' st') : (an' = an ∧ se' = se) ↔ zN t m' = zN t m := by
  have z := zn_c t m
  have z' := zn_c t m'
  have o0 : ordQ D n 0 < 6 := by have := srt_lt (key := fun i => nI (D i)) n 0 (by omega); unfold ordQ; omega
  by_cases c : t < m
  · obtain ⟨e1, e2⟩ := h.off ht hst hm c
    by_cases c' : t < m'
    · obtain ⟨f1, f2⟩ := h'.off ht hst hm' c'
      have ean : an' = an := f1.one' e1 fun _ _ => Iff.rfl
      by_cases d : 2 * t < m
      · rw [if_pos d] at e2
        by_cases d' : 2 * t < m'
        · rw [if_pos d'] at f2
          exact ⟨fun _ => by omega, fun _ => ⟨ean, by rw [e2, f2]⟩⟩
        · rw [if_neg d'] at f2
          exact ⟨fun q => absurd q.2 (by rw [e2, f2]; decide), fun q => by omega⟩
      · rw [if_neg d] at e2
        by_cases d' : 2 * t < m'
        · rw [if_pos d'] at f2
          exact ⟨fun q => absurd q.2 (by rw [e2, f2]; decide), fun q => by omega⟩
        · rw [if_neg d'] at f2
          exact ⟨fun _ => by omega, fun _ => ⟨ean, by rw [e2, f2]⟩⟩
    · obtain ⟨T, f1, f2⟩ := h'.on hn.1 ht hst h1 hm' c'
      refine ⟨fun q => ?_, fun q => by omega⟩
      rw [q.1] at f1
      exact ((f1.iff e1 o0).mp f2).elim
  · by_cases c' : t < m'
    · obtain ⟨T, f1, f2⟩ := h.on hn.1 ht hst h1 hm c
      obtain ⟨e1, e2⟩ := h'.off ht hst hm' c'
      refine ⟨fun q => ?_, fun q => by omega⟩
      rw [q.1] at e1
      exact ((f1.iff e1 o0).mp f2).elim
    · exact ⟨fun _ => by omega, fun _ => h.on2 ht hst hm hm' h' c c'⟩
end ZONE
section MARGIN7
variable {r : SS} {p t m : Nat}
theorem two_t (t : Nat) : (2 : Int32) * nI t = nI (2 * t) := by rw [show (2 : Int32) = nI 2 from rfl, nI_mul]
theorem least7 (hp : p < 12) (e : gI r 56 p = nI t) (e3 : gI r 32 3 = nI m) (ht : t ≤ 324) (hm : m ≤ 200) : fX3_leastMargin r (nI p) = some (nI (if t < m then (if 2 * t < m then 2 * t + 1 else t + 1) else 1)) := by
  unfold fX3_leastMargin
  rw [grd_eq _ (inb_nI hp (by decide)), nI_clamp (by omega), e, e3, vthen_q, two_t, nI_1, nI_1]
  by_cases c : t < m
  · rw [if_pos (nI_lt c (by omega)), if_pos c]
    by_cases c2 : 2 * t < m
    · rw [if_pos (nI_lt c2 (by omega)), if_pos c2]
    · rw [if_neg fun q => c2 (nI_ltN q (by omega) (by omega)), if_neg c2]
  · rw [if_neg fun q => c (nI_ltN q (by omega) (by omega)), if_neg c]; rfl
theorem great7 (hp : p < 12) (e : gI r 56 p = nI t) (e3 : gI r 32 3 = nI m) (ht : t ≤ 324) (hm : m ≤ 200) : fX3_greatestMargin r (nI p) = some (nI (if t < m then (if 2 * t < m then 200 else min (2 * t) 200) else min t 200)) := by
  unfold fX3_greatestMargin
  rw [grd_eq _ (inb_nI hp (by decide)), nI_clamp (by omega), e, e3, vthen_q, two_t, show (200 : Int32) = nI 200 from rfl, min_nI (by omega) (by omega), min_nI (by omega) (by omega)]
  by_cases c : t < m
  · rw [if_pos (nI_lt c (by omega)), if_pos c]
    by_cases c2 : 2 * t < m
    · rw [if_pos (nI_lt c2 (by omega)), if_pos c2]
    · rw [if_neg fun q => c2 (nI_ltN q (by omega) (by omega)), if_neg c2]
  · rw [if_neg fun q => c (nI_ltN q (by omega) (by omega)), if_neg c]
end MARGIN7
