/-! 28: what is judged where all that is ticked is alike. -/
theorem ltnN {a b : Nat} (ha : a < 2 ^ 31) (hb : b < 2 ^ 31) : (nI a < nI b) = (a < b) := by rw [lt_i, nI_toInt ha, nI_toInt hb]; exact propext (by omega)
theorem lenN {a b : Nat} (ha : a < 2 ^ 31) (hb : b < 2 ^ 31) : (nI a ≤ nI b) = (a ≤ b) := by rw [le_i, nI_toInt ha, nI_toInt hb]; exact propext (by omega)
theorem tb_lt : ∀ n, n ≤ 6 → ∀ T, T < 2 ^ n → ∀ b, b < 6 → T.testBit b = true → b < n := by decide +kernel
theorem bits_two : ∀ m, m < 64 → (∀ b, b < 6 → ∀ c, c < 6 → b = c ∨ ¬ m.testBit b = true ∨ ¬ m.testBit c = true) → pop12 (nI m) ≤ 1 := by decide +kernel
section EVEN
variable {D : Nat → Nat} {n dk T c m cl rb : Nat} {one : Prop}
theorem ord_tk (hD : ∀ i, i < n → D i = if T.testBit i = true then dk else 0) (h324 : ∀ i, D i ≤ 324) (hd : 1 ≤ dk) : ∀ j, j ≤ n → ∃ c, c ≤ j ∧ ∀ k, k < j → (T.testBit (ordQ D n k) = true ↔ k < c)
  | 0, _ => ⟨0, Nat.le_refl _, fun k hk => absurd hk (Nat.not_lt_zero _)⟩
  | j + 1, h => by
    obtain ⟨c, hc, ih⟩ := ord_tk hD h324 hd j (by omega)
    by_cases t : T.testBit (ordQ D n j) = true
    · have e : c = j := by
        by_cases hj : c = j
        · exact hj
        · exfalso
          have h1 := ord_mono (n := n) h324 (j - c) c (by omega)
          rw [show c + (j - c) = j by omega] at h1
          have l1 : ordQ D n j < n := srt_lt n j (by omega)
          have l2 : ordQ D n c < n := srt_lt n c (by omega)
          have h2 : ¬ T.testBit (ordQ D n c) = true := fun q => absurd ((ih c (by omega)).mp q) (Nat.lt_irrefl _)
          rw [hD _ l1, hD _ l2, if_pos t, if_neg h2] at h1
          omega
      subst e
      refine ⟨c + 1, Nat.le_refl _, fun k hk => ⟨fun _ => hk, fun _ => ?_⟩⟩
      by_cases hk' : k = c
      · rw [hk']; exact t
      · exact (ih k (by omega)).mpr (by omega)
    · refine ⟨c, by omega, fun k hk => ?_⟩
      by_cases hk' : k = j
      · rw [hk']; exact ⟨fun q => absurd q t, fun q => by omega⟩
      · exact ih k (by omega)
theorem at_tk (hD : ∀ i, i < n → D i = if T.testBit i = true then dk else 0) (hc : c ≤ n) (ht : ∀ k, k < n → (T.testBit (ordQ D n k) = true ↔ k < c)) {k : Nat} (hk : k ≤ n) : atQ D 0 n k = nI (if k < c then dk else 0) := by
  unfold atQ
  by_cases e : k = n
  · rw [if_pos e, if_neg (by omega)]
  · have l : ordQ D n k < n := srt_lt n k (by omega)
    rw [if_neg e, hD _ l]
    by_cases h : k < c
    · rw [if_pos h, if_pos ((ht k (by omega)).mpr h)]
    · rw [if_neg h, if_neg fun q => h ((ht k (by omega)).mp q)]
theorem st_tk (hD : ∀ i, i < n → D i = if T.testBit i = true then dk else 0) (hd : 1 ≤ dk ∧ dk ≤ 324) (hc : c ≤ n) (ht : ∀ k, k < n → (T.testBit (ordQ D n k) = true ↔ k < c)) : ∀ k, k ≤ n → stQ D 0 n k = if k = 0 then (0, -1) else if k < c ∨ c = 0 then (1, nI 0) else (c, nI dk)
  | 0, _ => rfl
  | k + 1, h => by
    have ih := st_tk hD hd hc ht k (by omega)
    have e : stQ D 0 n (k + 1) = if atQ D 0 n k - atQ D 0 n (k + 1) ≤ (stQ D 0 n k).2 then stQ D 0 n k else (k + 1, atQ D 0 n k - atQ D 0 n (k + 1)) := rfl
    rw [e, at_tk hD hc ht (by omega), at_tk hD hc ht h, ih, if_neg (show ¬ k + 1 = 0 by omega)]
    have z1 : ¬ nI 0 ≤ (-1 : Int32) := by decide
    have z2 : ∀ d, d ≤ 324 → nI 0 ≤ nI d := fun d hd => by rw [lenN (by omega) (by omega)]; omega
    have z3 : ∀ d : Nat, nI d - nI d = nI 0 := fun d => Int32.sub_self _
    have z4 : nI dk - nI 0 = nI dk := nI_sub (by omega)
    by_cases h1 : k + 1 < c
    · rw [if_pos (show k < c by omega), if_pos h1, if_pos (Or.inl h1), z3]
      by_cases k0 : k = 0
      · subst k0
        rw [if_pos rfl, if_neg z1]
      · rw [if_neg k0, if_pos (Or.inl (by omega)), if_pos (z2 0 (by omega))]
    · by_cases h2 : k < c
      · have ec : k + 1 = c := by omega
        rw [if_pos h2, if_neg h1, if_neg (show ¬ (k + 1 < c ∨ c = 0) by omega), z4]
        by_cases k0 : k = 0
        · subst k0
          rw [if_pos rfl, if_neg (fun q => ?_), ec]
          rw [le_i, nI_toInt (by omega)] at q
          have e2 : (-1 : Int32).toInt = -1 := rfl
          dsimp only at q
          omega
        · rw [if_neg k0, if_pos (Or.inl h2), if_neg, ec]
          dsimp only
          rw [lenN (by omega) (by omega)]; omega
      · rw [if_neg h2, if_neg h1, z3]
        by_cases c0 : c = 0
        · by_cases k0 : k = 0
          · subst k0
            rw [if_pos rfl, if_neg z1, if_pos (Or.inr c0)]
          · rw [if_neg k0, if_pos (Or.inr c0), if_pos (z2 0 (by omega)), if_pos (Or.inr c0)]
        · rw [if_neg (show ¬ (k + 1 < c ∨ c = 0) by omega), if_neg (show ¬ k = 0 by omega), if_neg (show ¬ (k < c ∨ c = 0) by omega), if_pos (z2 _ hd.2)]
/-- the one that was told -/
theorem even_JQ (hn : 1 ≤ n ∧ n ≤ 6) (hT : T < 2 ^ n) (hD : ∀ i, i < n → D i = if T.testBit i = true then dk else 0) (h324 : ∀ i, D i ≤ 324) (hd : 1 ≤ dk ∧ dk ≤ 324) (hm : 1 ≤ m ∧ m ≤ 1000) (hcl : 1 ≤ cl ∧ cl ≤ 1000) (hrb : 1 ≤ rb ∧ rb ≤ 1000) {se : Int32}
    (h2 : one ∧ ¬ pop12 (nI T) ≤ 1 ∧ m ≤ dk → se = 2) (h1 : ¬ (one ∧ ¬ pop12 (nI T) ≤ 1 ∧ m ≤ dk) → se = if T ≠ 0 ∧ dk < m ∧ m ≤ 2 * dk then 1 else 0) :
    JQ D 0 n one (nI m) (nI cl) (nI rb) (nI (if m ≤ dk then T else 0)) se (nI (if m ≤ dk then 0 else if rb ≤ dk then T else 0)) (nI (if T = 0 then 0 else dk)) := by
  have hT64 : T < 64 := Nat.lt_of_lt_of_le hT (Nat.pow_le_pow_right (by decide) hn.2)
  obtain ⟨c, hc, ht⟩ := ord_tk hD h324 hd.1 n (Nat.le_refl _)
  have olt : ∀ k, k < n → ordQ D n k < n := fun k hk => srt_lt n k hk
  have hA := @at_tk D n dk T c hD hc ht
  have hS := st_tk hD hd hc ht n (Nat.le_refl _)
  rw [if_neg (show ¬ n = 0 by omega)] at hS
  have tkb : ∀ b, b < 6 → (T.testBit b = true ↔ ∃ k, k < n ∧ k < c ∧ ordQ D n k = b) := fun b hb => by
    constructor
    · intro q
      obtain ⟨k, hk, e⟩ := srt_sur (key := fun i => nI (D i)) (tb_lt n hn.2 T hT b hb q)
      exact ⟨k, hk, (ht k hk).mp (by rw [show ordQ D n k = b from e]; exact q), e⟩
    · rintro ⟨k, hk, hkc, rfl⟩
      exact (ht k hk).mpr hkc
  have c0 : T = 0 ↔ c = 0 := by
    constructor
    · intro e
      refine Classical.byContradiction fun q => ?_
      have := (ht 0 (by omega)).mpr (by omega)
      rw [e, Nat.zero_testBit] at this
      exact absurd this (by decide)
    · intro e
      refine no_bits T hT64 fun b hb q => ?_
      obtain ⟨k, -, h, -⟩ := (tkb b hb).mp q
      omega
  have c2 : ¬ pop12 (nI T) ≤ 1 ↔ 2 ≤ c := by
    constructor
    · intro q
      refine Classical.byContradiction fun hlt => q (bits_two T hT64 fun b hb b' hb' => ?_)
      by_cases t1 : T.testBit b = true
      · by_cases t2 : T.testBit b' = true
        · obtain ⟨k, -, k1, rfl⟩ := (tkb b hb).mp t1
          obtain ⟨k', -, k2, rfl⟩ := (tkb b' hb').mp t2
          left
          rw [show k = k' by omega]
        · exact Or.inr (Or.inr t2)
      · exact Or.inr (Or.inl t1)
    · intro q
      have l0 := olt 0 (by omega)
      have l1 := olt 1 (by omega)
      exact two_bits T hT64 (ordQ D n 0) (by omega) (ordQ D n 1) (by omega) (fun e => absurd (srt_inj n 0 1 (by omega) (by omega) e) (by decide)) ((ht 0 (by omega)).mpr (by omega)) ((ht 1 (by omega)).mpr (by omega))
  rw [c2] at h1 h2
  have est : (stQ D 0 n n).2 = nI (if T = 0 then 0 else dk) := by
    rw [hS]
    by_cases e : c = 0
    · rw [if_pos (Or.inr e), if_pos (c0.mpr e)]
    · rw [if_neg (by omega), if_neg (fun q => e (c0.mp q))]
  have hah : ahQ D 0 n (nI m) = if m ≤ dk then c else 0 := by
    unfold ahQ
    rw [est]
    by_cases e : c = 0
    · rw [if_pos (c0.mpr e), if_pos (by rw [ltnN (by omega) (by omega)]; omega)]
      by_cases q : m ≤ dk
      · rw [if_pos q, e]
      · rw [if_neg q]
    · rw [if_neg (fun q => e (c0.mp q))]
      by_cases q : m ≤ dk
      · rw [if_pos q, if_neg (by rw [ltnN (by omega) (by omega)]; omega), hS, if_neg (by omega)]
      · rw [if_neg q, if_pos (by rw [ltnN (by omega) (by omega)]; omega)]
  have hlt1 : 1 < ahQ D 0 n (nI m) → atQ D 0 n 0 - atQ D 0 n 1 < nI cl := fun q => by
    have hc2 : 1 < c := by
      rw [hah] at q
      by_cases r : m ≤ dk
      · rw [if_pos r] at q; exact q
      · rw [if_neg r] at q; omega
    rw [hA (k := 0) (by omega), hA (k := 1) (by omega), if_pos (by omega), if_pos hc2, show nI dk - nI dk = nI 0 from Int32.sub_self _, ltnN (by omega) (by omega)]
    omega
  have hncl : ¬ clQ D 0 n one (nI m) (nI cl) := fun ⟨_, q1, q2⟩ => q2 (hlt1 q1)
  have hdb : dbQ D 0 n one (nI m) (nI cl) ↔ one ∧ 2 ≤ c ∧ m ≤ dk := by
    unfold dbQ
    rw [hah]
    by_cases r : m ≤ dk
    · rw [if_pos r]
      exact ⟨fun ⟨q1, q2, _⟩ => ⟨q1, q2, r⟩, fun ⟨q1, q2, _⟩ => ⟨q1, q2, hlt1 (by rw [hah, if_pos r]; exact q2)⟩⟩
    · rw [if_neg r]
      exact ⟨fun ⟨_, q2, _⟩ => absurd q2 (by omega), fun ⟨_, _, q3⟩ => absurd q3 r⟩
  refine ⟨_, Or.inr ⟨hncl, rfl⟩, ⟨if m ≤ dk then T else 0, by split <;> omega, rfl, fun b hb => ?_⟩, ⟨if m ≤ dk then 0 else if rb ≤ dk then T else 0, by split <;> (try split) <;> omega, rfl, fun b hb => ?_⟩, ?_, est.symm⟩
  · unfold anQ
    rw [hah]
    by_cases r : m ≤ dk
    · rw [if_pos r, if_pos r]; exact tkb b hb
    · rw [if_neg r, if_neg r, Nat.zero_testBit]
      exact ⟨fun q => absurd q (by decide), fun ⟨k, _, q, _⟩ => absurd q (Nat.not_lt_zero _)⟩
  · unfold ruQ
    rw [hah]
    by_cases r : m ≤ dk
    · rw [if_pos r, if_pos r, Nat.zero_testBit]
      refine ⟨fun q => absurd q (by decide), ?_⟩
      rintro ⟨k, hk, q1, q2 | q2, rfl⟩
      · exact absurd q2 q1
      · rw [hD _ (olt k hk), if_neg (fun q => q1 ((ht k hk).mp q)), show nI 0 - nI 0 = nI 0 from rfl, ltnN (by omega) (by omega)] at q2
        omega
    · rw [if_neg r, if_neg r]
      by_cases s : rb ≤ dk
      · rw [if_pos s]
        constructor
        · intro q
          obtain ⟨k, hk, hkc, e⟩ := (tkb b hb).mp q
          refine ⟨k, hk, Nat.not_lt_zero _, Or.inr ?_, e⟩
          have hbn : b < n := by rw [← e]; exact olt k hk
          rw [hD b hbn, if_pos q, show nI dk - nI 0 = nI dk from nI_sub (by omega), ltnN (by omega) (by omega)]
          omega
        · rintro ⟨k, hk, -, q2 | q2, rfl⟩
          · exact absurd q2 (Nat.not_lt_zero _)
          · refine Classical.byContradiction fun q => ?_
            rw [hD _ (olt k hk), if_neg q, show nI 0 - nI 0 = nI 0 from rfl, ltnN (by omega) (by omega)] at q2
            omega
      · rw [if_neg s, Nat.zero_testBit]
        refine ⟨fun q => absurd q (by decide), ?_⟩
        rintro ⟨k, hk, -, q2 | q2, rfl⟩
        · exact absurd q2 (Nat.not_lt_zero _)
        · rw [hD _ (olt k hk)] at q2
          split at q2
          · rw [show nI dk - nI 0 = nI dk from nI_sub (by omega), ltnN (by omega) (by omega)] at q2; omega
          · rw [show nI 0 - nI 0 = nI 0 from rfl, ltnN (by omega) (by omega)] at q2; omega
  · unfold seQ
    by_cases r : dbQ D 0 n one (nI m) (nI cl)
    · exact Or.inl ⟨r, h2 (hdb.mp r)⟩
    · refine Or.inr ⟨r, ?_⟩
      rw [h1 (fun q => r (hdb.mpr q)), est, show (2 : Int32) = nI 2 from rfl, nI_mul]
      by_cases e : T = 0
      · rw [if_pos e, if_neg (fun q => q.1 e), if_neg (by rw [ltnN (by omega) (by omega)]; omega)]
      · rw [if_neg e]
        by_cases q : dk < m ∧ m ≤ 2 * dk
        · rw [if_pos ⟨e, q⟩, if_pos (by rw [ltnN (by omega) (by omega), ltnN (by omega) (by omega)]; omega)]
        · rw [if_neg (fun z => q z.2), if_neg (by rw [ltnN (by omega) (by omega), ltnN (by omega) (by omega)]; omega)]
end EVEN
