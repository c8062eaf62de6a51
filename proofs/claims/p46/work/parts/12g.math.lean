/-! from 84.text of the class-and-reference proof: what speaks of the class alone -/
/-! Form kept: a text and its tokens. -/
def kd (c : Nat) : Nat := if 97 ≤ c ∧ c ≤ 122 then 1 else if 48 ≤ c ∧ c ≤ 57 then 2 else if c = 44 then 3 else if c = 59 then 4 else 5
def fs (P : Nat → Bool) : Nat → Nat → Nat
  | 0, i => i
  | m + 1, i => if P i = true then fs P m (i + 1) else i
theorem fs_t {P : Nat → Bool} {n i : Nat} (hi : i < n) (h : P i = true) : fs P (n - i) i = fs P (n - (i + 1)) (i + 1) := by
  rw [show n - i = (n - (i + 1)) + 1 by omega]
  exact if_pos h
theorem fs_f {P : Nat → Bool} {m i : Nat} (h : ¬ P i = true) : fs P m i = i := by
  cases m with
  | zero => rfl
  | succ m => exact if_neg h
theorem fs_le {P : Nat → Bool} : ∀ m i, i ≤ fs P m i ∧ fs P m i ≤ i + m
  | 0, i => ⟨Nat.le_refl _, Nat.le_refl _⟩
  | m + 1, i => by
    by_cases h : P i = true
    · have e : fs P (m + 1) i = fs P m (i + 1) := if_pos h
      have := fs_le (P := P) m (i + 1)
      omega
    · have e : fs P (m + 1) i = i := if_neg h
      omega
theorem fs_all {P : Nat → Bool} : ∀ m i j, i ≤ j → j < fs P m i → P j = true
  | 0, i, j, h1, h2 => absurd (show j < i from h2) (by omega)
  | m + 1, i, j, h1, h2 => by
    by_cases h : P i = true
    · have e : fs P (m + 1) i = fs P m (i + 1) := if_pos h
      by_cases c : j = i
      · rw [c]; exact h
      · exact fs_all m (i + 1) j (by omega) (by rw [← e]; exact h2)
    · have e : fs P (m + 1) i = i := if_neg h
      omega
section TEXT
variable {T : Nat → Nat} {n s i : Nat}
def bl (T : Nat → Nat) (j : Nat) : Bool := decide (T j = 32 ∨ T j = 10)
def sm (T : Nat → Nat) (k j : Nat) : Bool := decide (kd (T j) = k)
def sk (T : Nat → Nat) (n i : Nat) : Nat := fs (bl T) (n - i) i
def kc (T : Nat → Nat) (n s : Nat) : Nat := if n ≤ s then 0 else kd (T s)
def en (T : Nat → Nat) (n s : Nat) : Nat := if n ≤ s then s else if kd (T s) = 1 ∨ kd (T s) = 2 then fs (sm T (kd (T s))) (n - s) s else s + 1
def nv (T : Nat → Nat) (s : Nat) : Nat → Nat
  | 0 => 0
  | k + 1 => if 99 < nv T s k then 999 else 10 * nv T s k + (T (s + k) - 48)
def wd (T : Nat → Nat) (s : Nat) : Nat → Nat
  | 0 => 0
  | k + 1 => 32 * wd T s k + (T (s + k) - 96)
def wl (T : Nat → Nat) (s k : Nat) : Int64 := if k ≤ 7 then lN (wd T s k) else -1
theorem kd_cases (c : Nat) : (kd c = 1 ∧ 97 ≤ c ∧ c ≤ 122) ∨ (kd c = 2 ∧ 48 ≤ c ∧ c ≤ 57) ∨ (kd c = 3 ∧ c = 44) ∨ (kd c = 4 ∧ c = 59) ∨ (kd c = 5 ∧ ¬ (97 ≤ c ∧ c ≤ 122) ∧ ¬ (48 ≤ c ∧ c ≤ 57) ∧ c ≠ 44 ∧ c ≠ 59) := by
  unfold kd
  by_cases h1 : 97 ≤ c ∧ c ≤ 122
  · rw [if_pos h1]; omega
  rw [if_neg h1]
  by_cases h2 : 48 ≤ c ∧ c ≤ 57
  · rw [if_pos h2]; omega
  rw [if_neg h2]
  by_cases h3 : c = 44
  · rw [if_pos h3]; omega
  rw [if_neg h3]
  by_cases h4 : c = 59
  · rw [if_pos h4]; omega
  rw [if_neg h4]; omega
theorem sk_le (hi : i ≤ n) : i ≤ sk T n i ∧ sk T n i ≤ n := by
  have := fs_le (P := bl T) (n - i) i
  unfold sk; omega
theorem en_le (hs : s ≤ n) : s ≤ en T n s ∧ en T n s ≤ n ∧ (s < n → s < en T n s) := by
  unfold en
  by_cases h : n ≤ s
  · rw [if_pos h]; omega
  rw [if_neg h]
  by_cases c : kd (T s) = 1 ∨ kd (T s) = 2
  · rw [if_pos c, fs_t (by omega) (show sm T (kd (T s)) s = true from decide_eq_true rfl)]
    have := fs_le (P := sm T (kd (T s))) (n - (s + 1)) (s + 1)
    omega
  · rw [if_neg c]; omega
theorem en_all (h : kc T n s = 1 ∨ kc T n s = 2) : s < n ∧ ∀ j, s ≤ j → j < en T n s → kd (T j) = kc T n s := by
  unfold kc at *
  by_cases h0 : n ≤ s
  · rw [if_pos h0] at h; omega
  rw [if_neg h0] at h ⊢
  refine ⟨by omega, fun j h1 h2 => ?_⟩
  unfold en at h2
  rw [if_neg h0, if_pos h] at h2
  exact of_decide_eq_true (fs_all (P := sm T (kd (T s))) _ _ j h1 h2)
theorem nv_le : ∀ k, (∀ j, j < k → kd (T (s + j)) = 2) → nv T s k ≤ 999
  | 0, _ => Nat.zero_le _
  | k + 1, h => by
    have ih := nv_le k fun j hj => h j (by omega)
    have hk := h k (by omega)
    have e : nv T s (k + 1) = if 99 < nv T s k then 999 else 10 * nv T s k + (T (s + k) - 48) := rfl
    have hd := kd_cases (T (s + k))
    by_cases c : 99 < nv T s k
    · rw [if_pos c] at e; omega
    · rw [if_neg c] at e; omega
theorem wd_lt : ∀ k, k ≤ 7 → (∀ j, j < k → kd (T (s + j)) = 1) → wd T s k < 32 ^ k
  | 0, _, _ => by show 0 < 32 ^ 0; decide
  | k + 1, hk, h => by
    have ih := wd_lt k (by omega) fun j hj => h j (by omega)
    have hd := kd_cases (T (s + k))
    have hk' := h k (by omega)
    have e : wd T s (k + 1) = 32 * wd T s k + (T (s + k) - 96) := rfl
    have e2 : (32 : Nat) ^ (k + 1) = 32 ^ k * 32 := Nat.pow_succ ..
    omega
theorem wd_big {k : Nat} (hk : k ≤ 7) (h : ∀ j, j < k → kd (T (s + j)) = 1) : wd T s k < 34359738368 := by
  have := wd_lt k hk h
  have h2 : (32 : Nat) ^ k ≤ 32 ^ 7 := Nat.pow_le_pow_right (by omega) hk
  have h3 : (32 : Nat) ^ 7 = 34359738368 := by decide
  omega
theorem w_len (W : Nat) {L : Nat} (h : ∀ j, j < L → kd (T (s + j)) = 1) : (wl T s L = lN W ∧ W < 34359738368) ↔ (L ≤ 7 ∧ wd T s L = W ∧ W < 34359738368) := by
  unfold wl
  by_cases c : L ≤ 7
  · have := wd_big c h
    rw [if_pos c]
    refine ⟨fun q => ⟨c, ?_, q.2⟩, fun q => ⟨by rw [q.2.1], q.2.2⟩⟩
    have q1 := q.1
    rw [pk_lEQ (by omega) (by omega)] at q1
    exact q1
  · rw [if_neg c]
    refine ⟨fun q => ?_, fun q => absurd q.1 c⟩
    have q1 := q.1
    have q2 : (-1 : Int64).toInt = (lN W).toInt := by rw [q1]
    rw [pk_lT (by omega)] at q2
    have : (-1 : Int64).toInt = -1 := rfl
    omega
end TEXT

/-! from 85.words of the class-and-reference proof: what speaks of the class alone -/
/-! Form kept: the words that a form knows. -/
section WORDS
variable {T : Nat → Nat} {s L : Nat}
theorem ltr (h : ∀ j, j < L → kd (T (s + j)) = 1) (j : Nat) (hj : j < L) : 97 ≤ T (s + j) ∧ T (s + j) ≤ 122 := by
  have h1 := h j hj
  have h2 := kd_cases (T (s + j))
  omega
theorem wd_nz {W : Nat} (h : ∀ j, j < L → kd (T (s + j)) = 1) (hw : wd T s L = W) (hW : W ≠ 0) : ∃ k, L = k + 1 ∧ (∀ j, j < k → kd (T (s + j)) = 1) ∧ wd T s k = W / 32 ∧ T (s + k) = W % 32 + 96 := by
  cases L with
  | zero => exact absurd hw.symm hW
  | succ k =>
    have hk := ltr h k (by omega)
    have e : wd T s (k + 1) = 32 * wd T s k + (T (s + k) - 96) := rfl
    exact ⟨k, rfl, fun j hj => h j (by omega), by omega, by omega⟩
theorem wd_z (h : ∀ j, j < L → kd (T (s + j)) = 1) (hw : wd T s L = 0) : L = 0 := by
  cases L with
  | zero => rfl
  | succ k =>
    have hk := ltr h k (by omega)
    have e : wd T s (k + 1) = 32 * wd T s k + (T (s + k) - 96) := rfl
    omega
theorem w_size (h : ∀ j, j < L → kd (T (s + j)) = 1) : (L ≤ 7 ∧ wd T s L = 632645) ↔ (L = 4 ∧ T (s + 0) = 115 ∧ T (s + 1) = 105 ∧ T (s + 2) = 122 ∧ T (s + 3) = 101) := by
  constructor
  · rintro ⟨hL, hw4⟩
    obtain ⟨k3, rfl, h3, hw3, c3⟩ := wd_nz h hw4 (by decide)
    obtain ⟨k2, rfl, h2, hw2, c2⟩ := wd_nz h3 hw3 (by decide)
    obtain ⟨k1, rfl, h1, hw1, c1⟩ := wd_nz h2 hw2 (by decide)
    obtain ⟨k0, rfl, h0, hw0, c0⟩ := wd_nz h1 hw1 (by decide)
    have e := wd_z h0 hw0
    subst e
    exact ⟨rfl, c0, c1, c2, c3⟩
  · rintro ⟨rfl, c0, c1, c2, c3⟩
    refine ⟨by omega, ?_⟩
    show (32 * (32 * (32 * (32 * 0 + (T (s + 0) - 96)) + (T (s + 1) - 96)) + (T (s + 2) - 96)) + (T (s + 3) - 96)) = 632645
    rw [c0, c1, c2, c3]
theorem w_box (h : ∀ j, j < L → kd (T (s + j)) = 1) : (L ≤ 7 ∧ wd T s L = 2552) ↔ (L = 3 ∧ T (s + 0) = 98 ∧ T (s + 1) = 111 ∧ T (s + 2) = 120) := by
  constructor
  · rintro ⟨hL, hw3⟩
    obtain ⟨k2, rfl, h2, hw2, c2⟩ := wd_nz h hw3 (by decide)
    obtain ⟨k1, rfl, h1, hw1, c1⟩ := wd_nz h2 hw2 (by decide)
    obtain ⟨k0, rfl, h0, hw0, c0⟩ := wd_nz h1 hw1 (by decide)
    have e := wd_z h0 hw0
    subst e
    exact ⟨rfl, c0, c1, c2⟩
  · rintro ⟨rfl, c0, c1, c2⟩
    refine ⟨by omega, ?_⟩
    show (32 * (32 * (32 * 0 + (T (s + 0) - 96)) + (T (s + 1) - 96)) + (T (s + 2) - 96)) = 2552
    rw [c0, c1, c2]
theorem w_many (h : ∀ j, j < L → kd (T (s + j)) = 1) : (L ≤ 7 ∧ wd T s L = 427481) ↔ (L = 4 ∧ T (s + 0) = 109 ∧ T (s + 1) = 97 ∧ T (s + 2) = 110 ∧ T (s + 3) = 121) := by
  constructor
  · rintro ⟨hL, hw4⟩
    obtain ⟨k3, rfl, h3, hw3, c3⟩ := wd_nz h hw4 (by decide)
    obtain ⟨k2, rfl, h2, hw2, c2⟩ := wd_nz h3 hw3 (by decide)
    obtain ⟨k1, rfl, h1, hw1, c1⟩ := wd_nz h2 hw2 (by decide)
    obtain ⟨k0, rfl, h0, hw0, c0⟩ := wd_nz h1 hw1 (by decide)
    have e := wd_z h0 hw0
    subst e
    exact ⟨rfl, c0, c1, c2, c3⟩
  · rintro ⟨rfl, c0, c1, c2, c3⟩
    refine ⟨by omega, ?_⟩
    show (32 * (32 * (32 * (32 * 0 + (T (s + 0) - 96)) + (T (s + 1) - 96)) + (T (s + 2) - 96)) + (T (s + 3) - 96)) = 427481
    rw [c0, c1, c2, c3]
theorem w_one (h : ∀ j, j < L → kd (T (s + j)) = 1) : (L ≤ 7 ∧ wd T s L = 15813) ↔ (L = 3 ∧ T (s + 0) = 111 ∧ T (s + 1) = 110 ∧ T (s + 2) = 101) := by
  constructor
  · rintro ⟨hL, hw3⟩
    obtain ⟨k2, rfl, h2, hw2, c2⟩ := wd_nz h hw3 (by decide)
    obtain ⟨k1, rfl, h1, hw1, c1⟩ := wd_nz h2 hw2 (by decide)
    obtain ⟨k0, rfl, h0, hw0, c0⟩ := wd_nz h1 hw1 (by decide)
    have e := wd_z h0 hw0
    subst e
    exact ⟨rfl, c0, c1, c2⟩
  · rintro ⟨rfl, c0, c1, c2⟩
    refine ⟨by omega, ?_⟩
    show (32 * (32 * (32 * 0 + (T (s + 0) - 96)) + (T (s + 1) - 96)) + (T (s + 2) - 96)) = 15813
    rw [c0, c1, c2]
theorem w_key (h : ∀ j, j < L → kd (T (s + j)) = 1) : (L ≤ 7 ∧ wd T s L = 11449) ↔ (L = 3 ∧ T (s + 0) = 107 ∧ T (s + 1) = 101 ∧ T (s + 2) = 121) := by
  constructor
  · rintro ⟨hL, hw3⟩
    obtain ⟨k2, rfl, h2, hw2, c2⟩ := wd_nz h hw3 (by decide)
    obtain ⟨k1, rfl, h1, hw1, c1⟩ := wd_nz h2 hw2 (by decide)
    obtain ⟨k0, rfl, h0, hw0, c0⟩ := wd_nz h1 hw1 (by decide)
    have e := wd_z h0 hw0
    subst e
    exact ⟨rfl, c0, c1, c2⟩
  · rintro ⟨rfl, c0, c1, c2⟩
    refine ⟨by omega, ?_⟩
    show (32 * (32 * (32 * 0 + (T (s + 0) - 96)) + (T (s + 1) - 96)) + (T (s + 2) - 96)) = 11449
    rw [c0, c1, c2]
theorem w_worth (h : ∀ j, j < L → kd (T (s + j)) = 1) : (L ≤ 7 ∧ wd T s L = 24627848) ↔ (L = 5 ∧ T (s + 0) = 119 ∧ T (s + 1) = 111 ∧ T (s + 2) = 114 ∧ T (s + 3) = 116 ∧ T (s + 4) = 104) := by
  constructor
  · rintro ⟨hL, hw5⟩
    obtain ⟨k4, rfl, h4, hw4, c4⟩ := wd_nz h hw5 (by decide)
    obtain ⟨k3, rfl, h3, hw3, c3⟩ := wd_nz h4 hw4 (by decide)
    obtain ⟨k2, rfl, h2, hw2, c2⟩ := wd_nz h3 hw3 (by decide)
    obtain ⟨k1, rfl, h1, hw1, c1⟩ := wd_nz h2 hw2 (by decide)
    obtain ⟨k0, rfl, h0, hw0, c0⟩ := wd_nz h1 hw1 (by decide)
    have e := wd_z h0 hw0
    subst e
    exact ⟨rfl, c0, c1, c2, c3, c4⟩
  · rintro ⟨rfl, c0, c1, c2, c3, c4⟩
    refine ⟨by omega, ?_⟩
    show (32 * (32 * (32 * (32 * (32 * 0 + (T (s + 0) - 96)) + (T (s + 1) - 96)) + (T (s + 2) - 96)) + (T (s + 3) - 96)) + (T (s + 4) - 96)) = 24627848
    rw [c0, c1, c2, c3, c4]
end WORDS

/-! from 86.advance of the class-and-reference proof: what speaks of the class alone -/
/-! Form kept: the class goes on to the next token. -/
def Cs (T : Nat → Nat) (n s : Nat) (σ : SS) : Prop := gI σ 26 1 = nI n ∧ (∀ j, j < n → gI σ 27 j = nI (T j)) ∧ gI σ 26 2 = nI s ∧ gI σ 26 3 = nI (en T n s) ∧ gI σ 26 4 = nI (kc T n s) ∧ (kc T n s = 2 → gI σ 26 5 = nI (nv T s (en T n s - s)))
theorem kind_all : ∀ c, c < 256 → fX2_kindOf s0 (nI c) = nI (kd c) := by decide +kernel
theorem kind_n (σ : SS) {c : Nat} (h : c < 256) : fX2_kindOf σ (nI c) = nI (kd c) := kind_all c h
section ADV
variable {T : Nat → Nat} {n i s : Nat} {σ : SS}
theorem kd_le (c : Nat) : 1 ≤ kd c ∧ kd c ≤ 5 := by have := kd_cases c; omega
theorem adv7_a {k60 : SS → Option SS} {P : SS → Prop} (hn : n ≤ 400) (hi : i ≤ n) (h1 : gI σ 26 1 = nI n) (h27 : ∀ j, j < n → gI σ 27 j = nI (T j)) (hT : ∀ j, T j < 256) (h2 : gI σ 26 2 = nI i) (hk : ∀ t, gR t = gR σ → (∀ c k, ¬ (c = 26 ∧ k = 2) → gI t c k = gI σ c k) → gI t 26 2 = nI (sk T n i) → WP (k60 t) P) : WP (X2_advance_L8 k60 fuel σ) P := by
  unfold X2_advance_L8
  refine wl_1 (fun m t => ∃ j, j + m = n ∧ fs (bl T) (n - j) j = sk T n i ∧ gR t = gR σ ∧ (∀ c k, ¬ (c = 26 ∧ k = 2) → gI t c k = gI σ c k) ∧ gI t 26 2 = nI j) ?_ fuel (n - i) σ (fuel_gt (by omega)) ⟨i, by omega, rfl, rfl, fun _ _ _ => rfl, h2⟩
  rintro m t ⟨j, j1, j2, j3, j4, j5⟩ rec hr
  rw [j5, j4 26 1 (by omega), h1]
  by_cases c : n ≤ j
  · rw [if_pos (nI_le c (by omega))]
    refine hk t j3 j4 ?_
    have e : n - j = 0 := by omega
    rw [e] at j2
    rw [j5, ← j2]; rfl
  · have hTj := hT j
    rw [if_neg (nI_ge (by omega) (by omega)), nI_clamp (by omega), j4 27 j (by omega), h27 j (by omega), nI_1]
    have q1 : (nI (T j) = (32 : Int32)) ↔ T j = 32 := show (nI (T j) = nI 32) ↔ _ from nI_eq (by omega) (by omega)
    have q2 : (nI (T j) = (10 : Int32)) ↔ T j = 10 := show (nI (T j) = nI 10) ↔ _ from nI_eq (by omega) (by omega)
    refine wp_grd (inb_nI (by omega) (by decide)) ?_
    by_cases b : T j = 32 ∨ T j = 10
    · have go : WP (vthen (sI t 26 2 (nI (j + 1))) fun σ3 => rec σ3) P := wp_v (hr (m - 1) _ (by omega) ⟨j + 1, by omega, by rw [← fs_t (by omega) (show bl T j = true from decide_eq_true b)]; exact j2, j3, fun c k hc => by rw [gI_nk hc]; exact j4 c k hc, gI_eq _ _ _ _⟩)
      refine wp_vk1 (fun _ => True) (fun _ _ => go) fun j' hj' => ?_
      by_cases b2 : T j = 32
      · rw [if_pos (q1.mpr b2)]; exact hj' _ trivial
      · rw [if_neg fun h => b2 (q1.mp h), if_pos (q2.mpr (b.resolve_left b2))]; exact hj' _ trivial
    · refine wp_v ?_
      rw [if_neg fun h => b (Or.inl (q1.mp h)), if_neg fun h => b (Or.inr (q2.mp h))]
      refine hk t j3 j4 ?_
      rw [j5, ← j2, fs_f fun h => b (of_decide_eq_true h)]
theorem adv7_b {K : Nat} {k170 : SS → Option SS} {P : SS → Prop} (hn : n ≤ 400) (hi : i ≤ n) (hK : K ≤ 5) (h1 : gI σ 26 1 = nI n) (h27 : ∀ j, j < n → gI σ 27 j = nI (T j)) (hT : ∀ j, T j < 256) (h3 : gI σ 26 3 = nI i) (h4 : gI σ 26 4 = nI K) (hk : ∀ t, gR t = gR σ → (∀ c k, ¬ (c = 26 ∧ k = 3) → gI t c k = gI σ c k) → gI t 26 3 = nI (fs (sm T K) (n - i) i) → WP (k170 t) P) : WP (X2_advance_L127 k170 fuel σ) P := by
  unfold X2_advance_L127
  refine wl_1 (fun m t => ∃ j, j + m = n ∧ fs (sm T K) (n - j) j = fs (sm T K) (n - i) i ∧ gR t = gR σ ∧ (∀ c k, ¬ (c = 26 ∧ k = 3) → gI t c k = gI σ c k) ∧ gI t 26 3 = nI j) ?_ fuel (n - i) σ (fuel_gt (by omega)) ⟨i, by omega, rfl, rfl, fun _ _ _ => rfl, h3⟩
  rintro m t ⟨j, j1, j2, j3, j4, j5⟩ rec hr
  rw [j5, j4 26 1 (by omega), j4 26 4 (by omega), h1, h4]
  by_cases c : n ≤ j
  · rw [if_pos (nI_le c (by omega))]
    refine hk t j3 j4 ?_
    have e : n - j = 0 := by omega
    rw [e] at j2
    rw [j5, ← j2]; rfl
  · have hTj := hT j
    have hd := kd_le (T j)
    rw [if_neg (nI_ge (by omega) (by omega)), nI_clamp (by omega), j4 27 j (by omega), h27 j (by omega), kind_n _ hTj, nI_1]
    refine wp_grd (inb_nI (by omega) (by decide)) ?_
    by_cases b : kd (T j) = K
    · rw [if_pos (by rw [b])]
      exact wp_v (hr (m - 1) _ (by omega) ⟨j + 1, by omega, by rw [← fs_t (by omega) (show sm T K j = true from decide_eq_true b)]; exact j2, j3, fun c k hc => by rw [gI_nk hc]; exact j4 c k hc, gI_eq _ _ _ _⟩)
    · rw [if_neg fun h => b ((nI_eq (by omega) (by omega)).mp h)]
      refine hk t j3 j4 ?_
      rw [j5, ← j2, fs_f fun h => b (of_decide_eq_true h)]
theorem num7 {e : Nat} (he : s ≤ e ∧ e ≤ 400) (h27 : ∀ j, j < e → gI σ 27 j = nI (T j)) (h2 : gI σ 26 2 = nI s) (h3 : gI σ 26 3 = nI e) (hD : ∀ j, s ≤ j → j < e → kd (T j) = 2) : fX2_numberRead σ = some (nI (nv T s (e - s))) := by
  unfold fX2_numberRead
  rw [h2, vthen_q]
  unfold X2_numberRead_L7
  refine lp_2 (fun k => nI (nv T s k)) (fun k => nI (s + k)) (e - s) _ (fun k hk rec => ?_) (fun rec => ?_) fuel (fuel_gt (by omega))
  · have hv := nv_le (T := T) (s := s) k fun j hj => hD (s + j) (by omega) (by omega)
    have hd := kd_cases (T (s + k))
    have hd2 := hD (s + k) (by omega) (by omega)
    have ev : nI (nv T s k) * 10 + nI (T (s + k)) - 48 = nI (10 * nv T s k + (T (s + k) - 48)) := by
      rw [show (10 : Int32) = nI 10 from rfl, nI_mul, nI_add, show (48 : Int32) = nI 48 from rfl, nI_sub (by omega)]
      exact congrArg nI (by omega)
    have en' : nv T s (k + 1) = if 99 < nv T s k then 999 else 10 * nv T s k + (T (s + k) - 48) := rfl
    rw [h3, if_neg (nI_ge (by omega) (by omega)), grd_eq _ (inb_nI (by omega) (by decide)), nI_clamp (by omega), h27 _ (by omega), ev, vthen_q, nI_1, en']
    by_cases c : 99 < nv T s k
    · rw [if_neg (by show ¬ nI _ ≤ nI 999; exact nI_ge (by omega) (by omega)), if_pos c]; rfl
    · rw [if_pos (by show nI _ ≤ nI 999; exact nI_le (by omega) (by omega)), if_neg c]; rfl
  · rw [h3, if_pos (nI_le (by omega) (by omega))]
theorem adv7 (hn : n ≤ 400) (hi : i ≤ n) (h1 : gI σ 26 1 = nI n) (h27 : ∀ j, j < n → gI σ 27 j = nI (T j)) (hT : ∀ j, T j < 256) (h3 : gI σ 26 3 = nI i) : WP (fX2_advance σ) (fun r => gR r = gR σ ∧ (∀ c k, ¬ (c = 26 ∧ 2 ≤ k ∧ k ≤ 5) → gI r c k = gI σ c k) ∧ Cs T n (sk T n i) r) := by
  unfold fX2_advance
  refine wp_vv ?_; intro t1 g1
  have r1 : ∀ c k, ¬ (c = 26 ∧ k = 2) → gI t1 c k = gI σ c k := fun c k hc => by rw [g1, gI_nk hc]
  refine adv7_a (T := T) (n := n) (i := i) hn hi (by rw [r1 _ _ (by omega)]; exact h1) (fun j hj => by rw [r1 _ _ (by omega)]; exact h27 j hj) hT (by rw [g1, gI_eq]; exact h3) (fun t2 x1 x2 x3 => ?_)
  try dsimp only
  have r2 : ∀ c k, ¬ (c = 26 ∧ k = 2) → gI t2 c k = gI σ c k := fun c k hc => (x2 c k hc).trans (r1 c k hc)
  have hs := sk_le (T := T) (n := n) hi
  generalize hE : sk T n i = s at *
  have hen := en_le (T := T) hs.2
  refine wp_vv ?_; intro t3 g3
  have a2 : gI t3 26 2 = nI s := by rw [g3, gI_nk (by omega)]; exact x3
  have a3 : gI t3 26 3 = nI s := by rw [g3, gI_eq]; exact x3
  have r3 : ∀ c k, ¬ (c = 26 ∧ 2 ≤ k ∧ k ≤ 5) → gI t3 c k = gI σ c k := fun c k hc => by rw [g3, gI_nk (by omega)]; exact r2 c k (by omega)
  have q3 : gR t3 = gR σ := by rw [g3]; show gR t2 = _; rw [x1, g1]; rfl
  rw [a2, r3 26 1 (by omega), h1]
  by_cases c : s < n
  · have hk0 : kc T n s = kd (T s) := if_neg (by omega)
    have hd := kd_le (T s)
    rw [if_pos (nI_lt c (by omega)), nI_clamp (by omega), r3 27 s (by omega), h27 s c, kind_n _ (hT s)]
    refine wp_grd (inb_nI (by omega) (by decide)) ?_
    refine wp_vv ?_; intro t4 g4
    refine wp_vv ?_; intro t5 g5
    have b2 : gI t5 26 2 = nI s := by rw [g5, gI_nk (by omega), g4, gI_nk (by omega)]; exact a2
    have b3 : gI t5 26 3 = nI (s + 1) := by rw [g5, gI_eq, g4, gI_nk (by omega), a3, nI_1]
    have b4 : gI t5 26 4 = nI (kd (T s)) := by rw [g5, gI_nk (by omega), g4, gI_eq]
    have r5 : ∀ c k, ¬ (c = 26 ∧ 2 ≤ k ∧ k ≤ 5) → gI t5 c k = gI σ c k := fun c k hc => by rw [g5, gI_nk (by omega), g4, gI_nk (by omega)]; exact r3 c k hc
    have q5 : gR t5 = gR σ := by rw [g5, g4]; exact q3
    have K1 : (nI (kd (T s)) = (1 : Int32)) ↔ kd (T s) = 1 := show (nI (kd (T s)) = nI 1) ↔ _ from nI_eq (by omega) (by omega)
    have K2 : (nI (kd (T s)) = (2 : Int32)) ↔ kd (T s) = 2 := show (nI (kd (T s)) = nI 2) ↔ _ from nI_eq (by omega) (by omega)
    refine wp_vk1 (fun t => gR t = gR σ ∧ (∀ c k, ¬ (c = 26 ∧ 2 ≤ k ∧ k ≤ 5) → gI t c k = gI σ c k) ∧ gI t 26 2 = nI s ∧ gI t 26 3 = nI (en T n s) ∧ gI t 26 4 = nI (kd (T s))) ?_ fun j hj => ?_
    · rintro t ⟨y1, y2, y3, y4, y5⟩
      rw [y5]
      by_cases cn : kd (T s) = 2
      · have hall := en_all (T := T) (n := n) (s := s) (Or.inr (hk0.trans cn))
        rw [if_pos (K2.mpr cn), bnd1_of _ (num7 (T := T) (s := s) (e := en T n s) ⟨hen.1, by omega⟩ (fun j hj => by rw [y2 27 j (by omega)]; exact h27 j (by omega)) y3 y4 fun j j1 j2 => by rw [hall.2 j j1 j2, hk0, cn])]
        refine wp_vv ?_; intro t6 g6
        refine wp_some ⟨by rw [g6]; exact y1, fun c k hc => by rw [g6, gI_nk (by omega)]; exact y2 c k hc, ?_, fun j hj => ?_, ?_, ?_, ?_, fun _ => ?_⟩
        · rw [g6, gI_nk (by omega), y2 _ _ (by omega)]; exact h1
        · rw [g6, gI_ne (by omega), y2 _ _ (by omega)]; exact h27 j hj
        · rw [g6, gI_nk (by omega)]; exact y3
        · rw [g6, gI_nk (by omega)]; exact y4
        · rw [g6, gI_nk (by omega), hk0]; exact y5
        · rw [g6, gI_eq]
      · rw [if_neg fun h => cn (K2.mp h)]
        exact wp_some ⟨y1, y2, by rw [y2 _ _ (by omega)]; exact h1, fun j hj => by rw [y2 _ _ (by omega)]; exact h27 j hj, y3, y4, by rw [hk0]; exact y5, fun h => absurd (hk0.symm.trans h) cn⟩
    · refine wp_v ?_
      rw [b4]
      have go : (kd (T s) = 1 ∨ kd (T s) = 2) → WP (X2_advance_L127 (fun σ16 => j σ16) fuel t5) (fun r => gR r = gR σ ∧ (∀ c k, ¬ (c = 26 ∧ 2 ≤ k ∧ k ≤ 5) → gI r c k = gI σ c k) ∧ Cs T n s r) := fun hc => adv7_b (T := T) (n := n) (i := s + 1) (K := kd (T s)) hn (by omega) hd.2 (by rw [r5 _ _ (by omega)]; exact h1) (fun j hj => by rw [r5 _ _ (by omega)]; exact h27 j hj) hT b3 b4 fun t u1 u2 u3 => hj _ ⟨u1.trans q5, fun c k hc => by rw [u2 c k (by omega)]; exact r5 c k hc, by rw [u2 _ _ (by omega)]; exact b2, by
          rw [u3, ← fs_t c (show sm T (kd (T s)) s = true from decide_eq_true rfl)]
          refine congrArg nI ?_
          unfold en
          rw [if_neg (by omega), if_pos hc], by rw [u2 _ _ (by omega)]; exact b4⟩
      by_cases c1 : kd (T s) = 1
      · rw [if_pos (K1.mpr c1)]; exact go (Or.inl c1)
      · rw [if_neg fun h => c1 (K1.mp h)]
        by_cases c2 : kd (T s) = 2
        · rw [if_pos (K2.mpr c2)]; exact go (Or.inr c2)
        · rw [if_neg fun h => c2 (K2.mp h)]
          refine hj _ ⟨q5, r5, b2, ?_, b4⟩
          rw [b3]
          refine congrArg nI ?_
          unfold en
          rw [if_neg (by omega), if_neg (by omega)]
  · have es : s = n := by omega
    have hk0 : kc T n s = 0 := if_pos (by omega)
    have he0 : en T n s = s := if_pos (by omega)
    rw [if_neg fun k => by have := nI_ltN k (by omega) (by omega); omega]
    refine wp_vv ?_; intro t4 g4
    refine wp_some ⟨by rw [g4]; exact q3, fun c k hc => by rw [g4, gI_nk (by omega)]; exact r3 c k hc, ?_, fun j hj => ?_, ?_, ?_, ?_, fun h => ?_⟩
    · rw [g4, gI_nk (by omega), r3 _ _ (by omega)]; exact h1
    · rw [g4, gI_ne (by omega), r3 _ _ (by omega)]; exact h27 j hj
    · rw [g4, gI_nk (by omega)]; exact a2
    · rw [g4, gI_nk (by omega), he0]; exact a3
    · rw [g4, gI_eq, hk0]; rfl
    · rw [hk0] at h; omega
end ADV

/-! from 87.next of the class-and-reference proof: what speaks of the class alone -/
/-! Form kept: the reference goes on to the next token. -/
def kr (k : Nat) : Nat := if k < 4 then k else k - 1
def Rs (T : Nat → Nat) (n s : Nat) (σ : SS) : Prop := gI σ 73 3 = nI n ∧ (∀ j, j < n → gI σ 74 j &&& 255 = nI (T j)) ∧ gI σ 73 6 = nI s ∧ gI σ 73 2 = nI (en T n s) ∧ gI σ 73 5 = nI (kr (kc T n s)) ∧ (kc T n s = 2 → gI σ 73 7 = nI (nv T s (en T n s - s))) ∧ (3 ≤ kc T n s → gI σ 73 8 = nI (T s)) ∧ (kc T n s = 1 → gI σ 73 9 = nI (en T n s - s) ∧ gL σ 73 10 = wl T s (en T n s - s))
section NEXT
variable {T : Nat → Nat} {n i s : Nat} {σ : SS}
theorem is8k {p a : Nat} (hT : ∀ j, T j < 256) (ha : a < 1000) : ((if p < n then nI (T p) else (-1 : Int32)) = nI a) ↔ (p < n ∧ T p = a) := by
  have := hT p
  by_cases c : p < n
  · rw [if_pos c, nI_eq (by omega) (by omega)]
    exact ⟨fun h => ⟨c, h⟩, fun h => h.2⟩
  · rw [if_neg c]
    exact ⟨fun h => absurd h.symm (nI_m1 (by omega)), fun h => absurd h.1 c⟩
theorem wl_s {k : Nat} (hT : 97 ≤ T (s + k) ∧ T (s + k) ≤ 122) : (k < 7 → ((32 : Int64) * wl T s k + Int32.toInt64 (nI (T (s + k))) - 97 + 1) = wl T s (k + 1)) ∧ (7 ≤ k → wl T s (k + 1) = -1) := by
  unfold wl
  refine ⟨fun hk => ?_, fun hk => ?_⟩
  · rw [if_pos (by omega), if_pos (by omega), nI_l (by omega), show (32 : Int64) = lN 32 from rfl, show (97 : Int64) = lN 97 from rfl, lN_mul, lN_add, lN_sub (by omega), lN_1]
    refine congrArg lN ?_
    show _ = 32 * wd T s k + (T (s + k) - 96)
    omega
  · rw [if_neg (by omega)]
end NEXT

/-! from 88.prim of the class-and-reference proof: what speaks of the class alone -/
/-! Form kept: both at the same token; words. -/
def TT (T : Nat → Nat) (n : Nat) : Prop := n ≤ 400 ∧ ∀ j, T j < 256
def K2 (T : Nat → Nat) (n s : Nat) (a b : SS) : Prop := s ≤ n ∧ Cs T n s a ∧ Rs T n s b ∧ gI a 26 7 = 0
def Sb (F : SS → SS → Prop) : Prop := ∀ a b a' b', F a b → gR a' = gR a → (∀ c k, c ≠ 26 → gI a' c k = gI a c k) → gR b' = gR b → (∀ c k, ¬ (c = 73 ∧ 2 ≤ k ∧ k ≤ 9) → gI b' c k = gI b c k) → F a' b'
def FlO (O : SS → SS → Prop) (a b : SS) : Prop := gI a 26 7 = gI b 73 4 ∧ gI a 26 7 ≠ 0 ∧ O a b
def fv (y s : Nat) : Int32 := (-1000 : Int32) * nI y - nI s
theorem fv_ne : ∀ y, y < 6 → ∀ s, s < 401 → 1 ≤ y → fv y s ≠ 0 := by decide +kernel
section W2R
variable {α β γ δ : Type} {P : γ → δ → Prop}
theorem w2_of {x : Option γ} {y : Option δ} {Q : γ → Prop} {R : δ → Prop} (h : WP x Q) (h' : WP y R) (hk : ∀ a b, Q a → R b → P a b) : W2 x y P := by
  obtain ⟨a, e, q⟩ := h
  obtain ⟨b, e', r⟩ := h'
  exact ⟨a, b, e, e', hk a b q r⟩
theorem w2_lb {x : Option (α × β)} {y : Option δ} {k : α → β → Option γ} {a : α} {b : β} (h : x = some (a, b)) (hk : W2 (k a b) y P) : W2 (bnd x k) y P := by subst h; exact hk
theorem w2_rb {x : Option γ} {y : Option (α × β)} {k : α → β → Option δ} {a : α} {b : β} (h : y = some (a, b)) (hk : W2 x (k a b) P) : W2 x (bnd y k) P := by subst h; exact hk
theorem w2_vl {x : α} {f : α → Option γ} {y : Option δ} (h : W2 (f x) y P) : W2 (vthen x f) y P := h
theorem w2_vr {x : Option γ} {y : α} {f : α → Option δ} (h : W2 x (f y) P) : W2 x (vthen y f) P := h
theorem w2_lif {c : Prop} [Decidable c] {x x' : Option γ} {y : Option δ} (h1 : c → W2 x y P) (h2 : ¬ c → W2 x' y P) : W2 (if c then x else x') y P := by
  by_cases h : c
  · rw [if_pos h]; exact h1 h
  · rw [if_neg h]; exact h2 h
theorem w2_rif {c : Prop} [Decidable c] {x : Option γ} {y y' : Option δ} (h1 : c → W2 x y P) (h2 : ¬ c → W2 x y' P) : W2 x (if c then y else y') P := by
  by_cases h : c
  · rw [if_pos h]; exact h1 h
  · rw [if_neg h]; exact h2 h
theorem w2_rk {x : Option γ} {y : Option (α × β)} {k : α → β → Option δ} (h : W2 x y fun v w => ∃ u, k w.1 w.2 = some u ∧ P v u) : W2 x (bnd y k) P := by
  obtain ⟨v, ⟨wa, wb⟩, e, e', u, hu, hp⟩ := h
  exact ⟨v, u, e, by rw [e']; exact hu, hp⟩
theorem w2_rk_in {x : Option γ} {wa : α} {wb : β} {k : α → β → Option δ} (h : W2 x (k wa wb) P) : W2 x (some (wa, wb)) fun v w => ∃ u, k w.1 w.2 = some u ∧ P v u := by
  obtain ⟨v, u, e, e', hp⟩ := h
  exact ⟨v, (wa, wb), e, rfl, u, e', hp⟩
end W2R
section PRIM
variable {T : Nat → Nat} {n s : Nat} {a b : SS} {O F : SS → SS → Prop}
theorem K2.fr {a' b' : SS} (h : K2 T n s a b) (h1 : ∀ k, k ≠ 6 → gI a' 26 k = gI a 26 k) (h2 : ∀ k, gI a' 27 k = gI a 27 k) (h3 : ∀ k, 2 ≤ k → k ≤ 9 → gI b' 73 k = gI b 73 k) (h4 : ∀ k, gI b' 74 k = gI b 74 k) (h5 : gL b' 73 10 = gL b 73 10) : K2 T n s a' b' := by
  obtain ⟨k1, ⟨c1, c2, c3, c4, c5, c6⟩, ⟨r1, r2, r3, r4, r5, r6, r7, r8⟩, k4⟩ := h
  refine ⟨k1, ⟨by rw [h1 _ (by omega)]; exact c1, fun j hj => by rw [h2]; exact c2 j hj, by rw [h1 _ (by omega)]; exact c3, by rw [h1 _ (by omega)]; exact c4, by rw [h1 _ (by omega)]; exact c5, fun h => by rw [h1 _ (by omega)]; exact c6 h⟩, ⟨by rw [h3 _ (by omega) (by omega)]; exact r1, fun j hj => by rw [h4]; exact r2 j hj, by rw [h3 _ (by omega) (by omega)]; exact r3, by rw [h3 _ (by omega) (by omega)]; exact r4, by rw [h3 _ (by omega) (by omega)]; exact r5, fun h => by rw [h3 _ (by omega) (by omega)]; exact r6 h, fun h => by rw [h3 _ (by omega) (by omega)]; exact r7 h, fun h => by rw [h3 _ (by omega) (by omega), h5]; exact r8 h⟩, by rw [h1 _ (by omega)]; exact k4⟩
theorem K2.cl {c k : Nat} {v : Int32} (h : K2 T n s a b) (hc : (c = 26 ∧ k = 6) ∨ (c ≠ 26 ∧ c ≠ 27)) : K2 T n s (sI a c k v) b := h.fr (fun j hj => by rw [gI_nk (by omega)]) (fun j => by rw [gI_ne (by omega)]) (fun _ _ _ => rfl) (fun _ => rfl) rfl
theorem K2.rr {c k : Nat} {v : Int32} (h : K2 T n s a b) (hc : c ≠ 73 ∧ c ≠ 74) : K2 T n s a (sI b c k v) := h.fr (fun _ _ => rfl) (fun _ => rfl) (fun j _ _ => by rw [gI_ne (by omega)]) (fun j => by rw [gI_ne (by omega)]) rfl
theorem ref7 (h : K2 T n s a b) (y : Nat) : fX2_refuse a (nI y) = some (false, sI a 26 7 (fv y s)) := by
  unfold fX2_refuse; rw [h.2.1.2.2.1]; rfl
theorem fl2 (hT : TT T n) (hO : Sb O) (h : K2 T n s a b) (ho : O a b) {y : Nat} (hy : 1 ≤ y ∧ y ≤ 5) : FlO O (sI a 26 7 (fv y s)) (sI b 73 4 (fv y s)) := by
  have hs := h.1
  have hn := hT.1
  refine ⟨by rw [gI_eq, gI_eq], by rw [gI_eq]; exact fv_ne y (by omega) s (by omega) hy.1, hO a b _ _ ho rfl (fun c k hc => by rw [gI_ne hc]) rfl fun c k hc => by rw [gI_nk (by omega)]⟩
/-! words -/
def ww (o : Nat) : Nat := [632645, 2552, 427481, 15813, 11449, 24627848].getD o 0
def isW (T : Nat → Nat) (n s o : Nat) : Prop := kc T n s = 1 ∧ wl T s (en T n s - s) = lN (ww o)
theorem lit {x c : Nat} (h : nI x = nI c) (hx : x < 256) (hc : c < 256 := by decide) : x = c := nI_injN (by omega) (by omega) h
theorem wch {L : Nat} (hT : ∀ j, T j < 256) {o : Nat} (ho : o < 6) (h : ∀ j, j < L → kd (T (s + j)) = 1) : (L = stL.getD o 0 ∧ ∀ i, i < stL.getD o 0 → nI (T (s + i)) = stCh o i) ↔ (L ≤ 7 ∧ wd T s L = ww o) := by
  rcases (show o = 0 ∨ o = 1 ∨ o = 2 ∨ o = 3 ∨ o = 4 ∨ o = 5 by omega) with rfl | rfl | rfl | rfl | rfl | rfl
  · refine Iff.trans ?_ (w_size h).symm
    constructor
    · rintro ⟨h1, h2⟩
      exact ⟨h1, lit (show nI (T (s + 0)) = nI 115 from h2 0 (by decide)) (hT _), lit (show nI (T (s + 1)) = nI 105 from h2 1 (by decide)) (hT _), lit (show nI (T (s + 2)) = nI 122 from h2 2 (by decide)) (hT _), lit (show nI (T (s + 3)) = nI 101 from h2 3 (by decide)) (hT _)⟩
    · rintro ⟨h1, c0, c1, c2, c3⟩
      refine ⟨h1, fun i hi => ?_⟩
      have hi' : i < 4 := hi
      rcases (show i = 0 ∨ i = 1 ∨ i = 2 ∨ i = 3 by omega) with rfl | rfl | rfl | rfl
      · rw [c0]; rfl
      · rw [c1]; rfl
      · rw [c2]; rfl
      · rw [c3]; rfl
  · refine Iff.trans ?_ (w_box h).symm
    constructor
    · rintro ⟨h1, h2⟩
      exact ⟨h1, lit (show nI (T (s + 0)) = nI 98 from h2 0 (by decide)) (hT _), lit (show nI (T (s + 1)) = nI 111 from h2 1 (by decide)) (hT _), lit (show nI (T (s + 2)) = nI 120 from h2 2 (by decide)) (hT _)⟩
    · rintro ⟨h1, c0, c1, c2⟩
      refine ⟨h1, fun i hi => ?_⟩
      have hi' : i < 3 := hi
      rcases (show i = 0 ∨ i = 1 ∨ i = 2 by omega) with rfl | rfl | rfl
      · rw [c0]; rfl
      · rw [c1]; rfl
      · rw [c2]; rfl
  · refine Iff.trans ?_ (w_many h).symm
    constructor
    · rintro ⟨h1, h2⟩
      exact ⟨h1, lit (show nI (T (s + 0)) = nI 109 from h2 0 (by decide)) (hT _), lit (show nI (T (s + 1)) = nI 97 from h2 1 (by decide)) (hT _), lit (show nI (T (s + 2)) = nI 110 from h2 2 (by decide)) (hT _), lit (show nI (T (s + 3)) = nI 121 from h2 3 (by decide)) (hT _)⟩
    · rintro ⟨h1, c0, c1, c2, c3⟩
      refine ⟨h1, fun i hi => ?_⟩
      have hi' : i < 4 := hi
      rcases (show i = 0 ∨ i = 1 ∨ i = 2 ∨ i = 3 by omega) with rfl | rfl | rfl | rfl
      · rw [c0]; rfl
      · rw [c1]; rfl
      · rw [c2]; rfl
      · rw [c3]; rfl
  · refine Iff.trans ?_ (w_one h).symm
    constructor
    · rintro ⟨h1, h2⟩
      exact ⟨h1, lit (show nI (T (s + 0)) = nI 111 from h2 0 (by decide)) (hT _), lit (show nI (T (s + 1)) = nI 110 from h2 1 (by decide)) (hT _), lit (show nI (T (s + 2)) = nI 101 from h2 2 (by decide)) (hT _)⟩
    · rintro ⟨h1, c0, c1, c2⟩
      refine ⟨h1, fun i hi => ?_⟩
      have hi' : i < 3 := hi
      rcases (show i = 0 ∨ i = 1 ∨ i = 2 by omega) with rfl | rfl | rfl
      · rw [c0]; rfl
      · rw [c1]; rfl
      · rw [c2]; rfl
  · refine Iff.trans ?_ (w_key h).symm
    constructor
    · rintro ⟨h1, h2⟩
      exact ⟨h1, lit (show nI (T (s + 0)) = nI 107 from h2 0 (by decide)) (hT _), lit (show nI (T (s + 1)) = nI 101 from h2 1 (by decide)) (hT _), lit (show nI (T (s + 2)) = nI 121 from h2 2 (by decide)) (hT _)⟩
    · rintro ⟨h1, c0, c1, c2⟩
      refine ⟨h1, fun i hi => ?_⟩
      have hi' : i < 3 := hi
      rcases (show i = 0 ∨ i = 1 ∨ i = 2 by omega) with rfl | rfl | rfl
      · rw [c0]; rfl
      · rw [c1]; rfl
      · rw [c2]; rfl
  · refine Iff.trans ?_ (w_worth h).symm
    constructor
    · rintro ⟨h1, h2⟩
      exact ⟨h1, lit (show nI (T (s + 0)) = nI 119 from h2 0 (by decide)) (hT _), lit (show nI (T (s + 1)) = nI 111 from h2 1 (by decide)) (hT _), lit (show nI (T (s + 2)) = nI 114 from h2 2 (by decide)) (hT _), lit (show nI (T (s + 3)) = nI 116 from h2 3 (by decide)) (hT _), lit (show nI (T (s + 4)) = nI 104 from h2 4 (by decide)) (hT _)⟩
    · rintro ⟨h1, c0, c1, c2, c3, c4⟩
      refine ⟨h1, fun i hi => ?_⟩
      have hi' : i < 5 := hi
      rcases (show i = 0 ∨ i = 1 ∨ i = 2 ∨ i = 3 ∨ i = 4 by omega) with rfl | rfl | rfl | rfl | rfl
      · rw [c0]; rfl
      · rw [c1]; rfl
      · rw [c2]; rfl
      · rw [c3]; rfl
      · rw [c4]; rfl
theorem wloop {o : Nat} (hn : n ≤ 400) (h27 : ∀ j, j < n → gI a 27 j = nI (T j)) (h2 : gI a 26 2 = nI s) (hs : s + stL.getD o 0 ≤ n) : WP (X2_isWord_L28 a o fuel (0 : Int32)) (fun r => r = true ↔ ∀ i, i < stL.getD o 0 → nI (T (s + i)) = stCh o i) := by
  unfold X2_isWord_L28
  refine wf_1 (stL.getD o 0) (fun i v => v = nI i ∧ ∀ j, j < i → nI (T (s + j)) = stCh o j) ⟨rfl, fun j hj => absurd hj (by omega)⟩ (by omega) ?_ ?_
  · rintro i _ rec hi ⟨rfl, ho⟩ hr
    unfold stLen
    rw [if_neg (nI_ge hi (by omega)), h2, nI_add, nI_clamp (by omega), nI_clamp (by omega), h27 _ (by omega), nI_1]
    refine wp_grd (inb_nI (by omega) (by decide)) (wp_grd (inb_nI hi (by omega)) (wp_if (fun c => hr _ ⟨rfl, fun j hj => ?_⟩) fun c => wp_some ⟨fun h => absurd h (by decide), fun h => absurd (h i hi) c⟩))
    by_cases e : j = i
    · subst e; exact c
    · exact ho j (by omega)
  · rintro _ rec ⟨rfl, ho⟩
    unfold stLen
    rw [if_pos (nI_le (Nat.le_refl _) (by omega))]
    exact wp_some ⟨fun _ => ho, fun _ => rfl⟩
theorem stL_le {o : Nat} (ho : o < 6) : stL.getD o 0 ≤ 5 := by
  rcases (show o = 0 ∨ o = 1 ∨ o = 2 ∨ o = 3 ∨ o = 4 ∨ o = 5 by omega) with rfl | rfl | rfl | rfl | rfl | rfl <;> decide
theorem ww_lt {o : Nat} (ho : o < 6) : ww o < 34359738368 := by
  rcases (show o = 0 ∨ o = 1 ∨ o = 2 ∨ o = 3 ∨ o = 4 ∨ o = 5 by omega) with rfl | rfl | rfl | rfl | rfl | rfl <;> decide
theorem kc_le : kc T n s ≤ 5 := by
  unfold kc
  have := kd_le (T s)
  by_cases c : n ≤ s
  · rw [if_pos c]; omega
  · rw [if_neg c]; omega
theorem kcI {k : Nat} (hk : k ≤ 5) : (nI (kc T n s) = nI k) ↔ kc T n s = k := by
  have := kc_le (T := T) (n := n) (s := s)
  exact nI_eq (by omega) (by omega)
theorem word7 (hT : TT T n) (h : K2 T n s a b) {o : Nat} (ho : o < 6) : ∃ bb, fX2_isWord a o = some bb ∧ (bb = true ↔ isW T n s o) := by
  obtain ⟨k1, ⟨c1, c2, c3, c4, c5, c6⟩, -, k4⟩ := h
  have hn := hT.1
  have hen := en_le (T := T) k1
  have hl := stL_le ho
  unfold fX2_isWord isW
  rw [c5, c4, c3, nI_sub hen.1]
  by_cases e1 : kc T n s = 1
  · rw [if_pos (c := nI (kc T n s) = (1 : Int32)) (show nI (kc T n s) = nI 1 by rw [e1])]
    have hall := en_all (T := T) (n := n) (s := s) (Or.inl e1)
    have hd : ∀ j, j < en T n s - s → kd (T (s + j)) = 1 := fun j hj => by rw [hall.2 (s + j) (by omega) (by omega), e1]
    have hw := w_len (T := T) (s := s) (ww o) hd
    have hc := wch (T := T) (s := s) hT.2 ho hd
    have hw2 := ww_lt ho
    by_cases e2 : en T n s - s = stL.getD o 0
    · rw [if_pos (show nI (en T n s - s) = stLen o by unfold stLen; rw [e2])]
      obtain ⟨r, r1, r2⟩ := wloop (T := T) (a := a) (o := o) hn c2 c3 (by omega)
      refine ⟨r, r1, r2.trans ⟨fun h => ⟨e1, (hw.mpr ⟨(hc.mp ⟨e2, h⟩).1, (hc.mp ⟨e2, h⟩).2, hw2⟩).1⟩, fun h => ?_⟩⟩
      obtain ⟨q1, q2, -⟩ := hw.mp ⟨h.2, hw2⟩
      exact (hc.mpr ⟨q1, q2⟩).2
    · rw [if_neg (c := nI (en T n s - s) = stLen o) fun h => e2 (nI_injN (a := en T n s - s) (b := stL.getD o 0) (by omega) (by omega) h)]
      refine ⟨false, rfl, fun h => absurd h (by decide), fun h => ?_⟩
      obtain ⟨q1, q2, -⟩ := hw.mp ⟨h.2, hw2⟩
      exact absurd (hc.mpr ⟨q1, q2⟩).1 e2
  · rw [if_neg (c := nI (kc T n s) = (1 : Int32)) fun h => e1 ((kcI (k := 1) (by omega)).mp h)]
    exact ⟨false, rfl, fun h => absurd h (by decide), fun h => absurd h.1 e1⟩
theorem krI {k : Nat} (hk : k = 0 ∨ k = 1 ∨ k = 2) : (nI (kr (kc T n s)) = nI k) ↔ kc T n s = k := by
  have := kc_le (T := T) (n := n) (s := s)
  have e : kr (kc T n s) = k ↔ kc T n s = k := by
    unfold kr
    by_cases c : kc T n s < 4
    · rw [if_pos c]
    · rw [if_neg c]; omega
  have e2 : kr (kc T n s) ≤ 5 := by
    unfold kr
    by_cases c : kc T n s < 4
    · rw [if_pos c]; omega
    · rw [if_neg c]; omega
  rw [nI_eq (by omega) (by omega), e]
theorem kr3 : (nI (kr (kc T n s)) = nI 3) ↔ (kc T n s = 3 ∨ kc T n s = 4) := by
  have := kc_le (T := T) (n := n) (s := s)
  have e : kr (kc T n s) = 3 ↔ (kc T n s = 3 ∨ kc T n s = 4) := by
    unfold kr
    by_cases c : kc T n s < 4
    · rw [if_pos c]; omega
    · rw [if_neg c]; omega
  have e2 : kr (kc T n s) ≤ 5 := by
    unfold kr
    by_cases c : kc T n s < 4
    · rw [if_pos c]; omega
    · rw [if_neg c]; omega
  rw [nI_eq (by omega) (by omega), e]
end PRIM

/-! from 90.head of the class-and-reference proof: what speaks of the class alone -/
/-! Form kept: the head. -/
def upN (N : Nat → Nat) (q c p : Nat) : Nat := if p = q then c else N p
def OB (bb c k : Nat) : Prop := (c = 75 ∧ 5 * bb ≤ k ∧ k < 5 * bb + 5) ∨ (76 ≤ c ∧ c ≤ 79 ∧ 12 * bb ≤ k ∧ k < 12 * bb + 12) ∨ (80 ≤ c ∧ c ≤ 81 ∧ 72 * bb ≤ k ∧ k < 72 * bb + 72)
def Om (g bb : Nat) (a0 b0 a b : SS) : Prop := (gR a = gR a0 ∧ gR b = gR b0) ∧ (∀ c k, c ≠ 26 → ¬ (g ≤ c ∧ c ≤ g + 7) → gI a c k = gI a0 c k) ∧ (∀ c k, ¬ (c = 73 ∧ 2 ≤ k ∧ k ≤ 9) → ¬ OB bb c k → gI b c k = gI b0 c k) ∧ gI b 73 11 = nI bb
theorem Om.sb {g bb : Nat} {a0 b0 : SS} (hg : 27 < g ∨ g + 7 < 26) : Sb (Om g bb a0 b0) := by
  rintro a b a' b' ⟨⟨h1, h2⟩, h3, h4, h5⟩ q1 q2 q3 q4
  exact ⟨⟨q1.trans h1, q3.trans h2⟩, fun c k c1 c2 => by rw [q2 c k c1]; exact h3 c k c1 c2, fun c k c1 c2 => by rw [q4 c k c1]; exact h4 c k c1 c2, by rw [q4 _ _ (by omega)]; exact h5⟩
section OMS
variable {g bb : Nat} {a0 b0 a b : SS}
theorem Om.cl (h : Om g bb a0 b0 a b) {c k : Nat} {v : Int32} (hc : c = 26 ∨ (g ≤ c ∧ c ≤ g + 7)) : Om g bb a0 b0 (sI a c k v) b := by
  obtain ⟨⟨h1, h2⟩, h3, h4, h5⟩ := h
  exact ⟨⟨h1, h2⟩, fun c' k' c1 c2 => by rw [gI_ne (by omega)]; exact h3 c' k' c1 c2, h4, h5⟩
theorem Om.rr (h : Om g bb a0 b0 a b) {c k : Nat} {v : Int32} (hc : OB bb c k) : Om g bb a0 b0 a (sI b c k v) := by
  obtain ⟨⟨h1, h2⟩, h3, h4, h5⟩ := h
  have hc' := hc
  unfold OB at hc'
  refine ⟨⟨h1, h2⟩, h3, fun c' k' c1 c2 => ?_, by rw [gI_ne (by omega)]; exact h5⟩
  rw [gI_nk fun e => c2 (by rw [e.1, e.2]; exact hc)]
  exact h4 c' k' c1 c2
end OMS
def rgH (k v : Nat) : Prop := (k < 2 → 4 ≤ v ∧ v ≤ 40) ∧ (2 ≤ k → 1 ≤ v ∧ v ≤ 6)
def HV (g bb : Nat) (a0 b0 : SS) (V : Nat → Nat) (m m' : Nat) (a b : SS) : Prop := Om g bb a0 b0 a b ∧ gI a g 5 = 0 ∧ gI a g 6 = 0 ∧ gI b 75 (5 * bb + 4) = 0 ∧ (∀ k, k < m → gI a g (k + 1) = nI (V k)) ∧ (∀ k, k < m' → gI b 75 (5 * bb + k) = nI (V k)) ∧ ∀ k, k < m' → rgH k (V k)
section HEAD
variable {T : Nat → Nat} {n s g bb : Nat} {a0 b0 a b : SS} {V : Nat → Nat} {m m' : Nat}
theorem HV.sb (hg : 27 < g ∨ g + 7 < 26) : Sb (HV g bb a0 b0 V m m') := by
  rintro a b a' b' ⟨h1, h2, h3, h4, h5, h6, h7⟩ q1 q2 q3 q4
  exact ⟨Om.sb hg a b a' b' h1 q1 q2 q3 q4, by rw [q2 _ _ (by omega)]; exact h2, by rw [q2 _ _ (by omega)]; exact h3, by rw [q4 _ _ (by omega)]; exact h4, fun k hk => by rw [q2 _ _ (by omega)]; exact h5 k hk, fun k hk => by rw [q4 _ _ (by omega)]; exact h6 k hk, h7⟩
end HEAD

/-! from 91.headread of the class-and-reference proof: what speaks of the class alone -/
/-! Form kept: the head read. -/
section BND
variable {α β γ δ ε : Type}
theorem bnd_bnd (x : Option (α × β)) (f : α → β → Option (γ × δ)) (k : γ → δ → Option ε) : bnd (bnd x f) k = bnd x fun a b => bnd (f a b) k := by
  cases x with
  | none => rfl
  | some v => rfl
theorem bnd_bnd1 (x : Option α) (f : α → Option (γ × δ)) (k : γ → δ → Option ε) : bnd (bnd1 x f) k = bnd1 x fun a => bnd (f a) k := by
  cases x with
  | none => rfl
  | some v => rfl
theorem bnd_ite (c : Prop) [Decidable c] (x y : Option (γ × δ)) (k : γ → δ → Option ε) : bnd (if c then x else y) k = if c then bnd x k else bnd y k := by
  by_cases h : c
  · rw [if_pos h, if_pos h]
  · rw [if_neg h, if_neg h]
theorem bnd_grd (c : Bool) (x : Option (γ × δ)) (k : γ → δ → Option ε) : bnd (grd c x) k = grd c (bnd x k) := by
  unfold grd
  rw [bnd_ite]; rfl
theorem bnd_vth (x : α) (f : α → Option (γ × δ)) (k : γ → δ → Option ε) : bnd (vthen x f) k = vthen x fun a => bnd (f a) k := (Eq.refl _).trans (Eq.refl _)
theorem bnd_sm (a : γ) (b : δ) (k : γ → δ → Option ε) : bnd (some (a, b)) k = k a b := (Eq.refl _).trans (Eq.refl _)
end BND
/-! from 92.cover of the class-and-reference proof: what speaks of the class alone -/
/-! Form kept: what a box would lie over. -/
section ABS
theorem subI {u v : Nat} (hu : u ≤ 1000) (hv : v ≤ 1000) : (nI u - nI v).toInt = (u : Int) - v := by
  rw [Int32.toInt_sub, nI_toInt (by omega), nI_toInt (by omega)]
  simp only [Int.bmod]
  split <;> omega
theorem absd {u v A : Nat} (σ : SS) (hu : u ≤ 1000) (hv : v ≤ 1000) (hA : A ≤ 1000) : (nI A ≤ fJ9_abs_0f7a4 σ (nI u - nI v)) ↔ ¬ (v < u + A ∧ u < v + A) := by
  have e := subI hu hv
  have e2 : (0 - (nI u - nI v)).toInt = (v : Int) - u := by
    have z : (0 : Int32).toInt = 0 := rfl
    rw [Int32.toInt_sub, e, z]
    simp only [Int.bmod]
    split <;> omega
  have z : (0 : Int32).toInt = 0 := rfl
  unfold fJ9_abs_0f7a4
  by_cases c : (0 : Int32) ≤ nI u - nI v
  · rw [if_pos c, le_i, nI_toInt (by omega), e]
    rw [le_i, z, e] at c
    omega
  · rw [if_neg c, le_i, nI_toInt (by omega), e2]
    rw [le_i, z, e] at c
    omega
end ABS
def cv (X Y : Nat → Nat) (A B x y k : Nat) : Prop := (x < X k + A ∧ X k < x + A) ∧ y < Y k + B ∧ Y k < y + B
section COVER
variable {g K A B x y : Nat} {a : SS} {X Y : Nat → Nat}
theorem cov7 (hK : K ≤ 72) (hA : A ≤ 6) (hB : B ≤ 6) (hx : x ≤ 999) (hy : y ≤ 999) (h6 : gI a g 6 = nI K) (h3 : gI a g 3 = nI A) (h4 : gI a g 4 = nI B) (hX : ∀ k, k < K → (gI a (g + 6) k = nI (X k) ∧ X k ≤ 40) ∧ gI a (g + 7) k = nI (Y k) ∧ Y k ≤ 40) : ∃ r, fX1_isCovered a g (nI x) (nI y) = some r ∧ (r = true ↔ ∃ k, k < K ∧ cv X Y A B x y k) := by
  show WP (fX1_isCovered a g (nI x) (nI y)) (fun r => r = true ↔ ∃ k, k < K ∧ cv X Y A B x y k)
  unfold fX1_isCovered X1_isCovered_L2
  refine wf_1 K (fun i v => v = nI i ∧ ∀ k, k < i → ¬ cv X Y A B x y k) ⟨rfl, fun k hk => absurd hk (by omega)⟩ (by omega) ?_ ?_
  · rintro i _ rec hi ⟨rfl, ho⟩ hr
    obtain ⟨⟨p1, p2⟩, p3, p4⟩ := hX i hi
    rw [h6, if_neg (nI_ge hi (by omega)), nI_clamp (by omega), h3, h4, p1, p3, nI_1]
    have c1 := absd (u := X i) (v := x) (A := A) a (by omega) (by omega) (by omega)
    have c2 := absd (u := Y i) (v := y) (A := B) a (by omega) (by omega) (by omega)
    have go : ¬ cv X Y A B x y i → WP (rec (nI (i + 1))) (fun r => r = true ↔ ∃ k, k < K ∧ cv X Y A B x y k) := fun hn => hr _ ⟨rfl, fun k hk => by
      by_cases e : k = i
      · rw [e]; exact hn
      · exact ho k (by omega)⟩
    refine wp_grd (inb_nI (by omega) (by decide)) (wp_if (fun d => go fun h => (c1.mp d) h.1) fun d => wp_if (fun d2 => go fun h => (c2.mp d2) h.2) fun d2 => wp_some ⟨fun _ => ⟨i, hi, Classical.byContradiction fun q => d (c1.mpr q), Classical.byContradiction fun q => d2 (c2.mpr q)⟩, fun _ => rfl⟩)
  · rintro _ rec ⟨rfl, ho⟩
    rw [h6, if_pos (nI_le (Nat.le_refl _) (by omega))]
    exact wp_some ⟨fun h => absurd h (by decide), fun ⟨k, hk, hc⟩ => absurd hc (ho k hk)⟩
end COVER

/-! from 93.formrel of the class-and-reference proof: what speaks of the class alone -/
/-! Form kept: the form so far. -/
def RG (W H A B : Nat) : Prop := (4 ≤ W ∧ W ≤ 40) ∧ (4 ≤ H ∧ H ≤ 40) ∧ (1 ≤ A ∧ A ≤ 6) ∧ (1 ≤ B ∧ B ≤ 6)
theorem psum_c {N N' : Nat → Nat} : ∀ q, (∀ p, p < q → N' p = N p) → psum N' q = psum N q
  | 0, _ => rfl
  | q + 1, h => by
    show psum N' q + N' q = psum N q + N q
    rw [psum_c q fun p hp => h p (by omega), h q (by omega)]
def En (g bb : Nat) (N : Nat → Nat) (W H A B p : Nat) (a b : SS) : Prop :=
  N p ≤ 6 ∧ gI a (g + 2) p = nI (psum N p) ∧ gI a (g + 3) p = nI (N p) ∧ gI b 77 (12 * bb + p) = nI (N p) ∧
    (gI a (g + 4) p = gI b 78 (12 * bb + p) ∧ inR (gI b 78 (12 * bb + p)) 0 63) ∧ (gI a (g + 5) p = gI b 79 (12 * bb + p) ∧ inR (gI b 79 (12 * bb + p)) 0 99) ∧
    ((gI a (g + 1) p = 0 ∧ gI b 76 (12 * bb + p) = 1) ∨ (gI a (g + 1) p = 1 ∧ gI b 76 (12 * bb + p) = 2)) ∧
    ∀ i, i < N p → (gI a (g + 6) (psum N p + i) = gI b 80 (6 * (12 * bb + p) + i) ∧ inR (gI b 80 (6 * (12 * bb + p) + i)) 0 (W - A)) ∧ (gI a (g + 7) (psum N p + i) = gI b 81 (6 * (12 * bb + p) + i) ∧ inR (gI b 81 (6 * (12 * bb + p) + i)) 0 (H - B))
theorem En.fr {g bb W H A B p : Nat} {N N' : Nat → Nat} {a b a' b' : SS} (h : En g bb N W H A B p a b) (hN : ∀ p', p' ≤ p → N' p' = N p') (h1 : ∀ j, 1 ≤ j → j ≤ 5 → gI a' (g + j) p = gI a (g + j) p) (h2 : ∀ j, j = 6 ∨ j = 7 → ∀ i, i < N p → gI a' (g + j) (psum N p + i) = gI a (g + j) (psum N p + i)) (h3 : ∀ c, 76 ≤ c → c ≤ 79 → gI b' c (12 * bb + p) = gI b c (12 * bb + p)) (h4 : ∀ c, c = 80 ∨ c = 81 → ∀ i, i < N p → gI b' c (6 * (12 * bb + p) + i) = gI b c (6 * (12 * bb + p) + i)) : En g bb N' W H A B p a' b' := by
  obtain ⟨k1, k2, k3, k4, k5, k6, k7, k8⟩ := h
  unfold En
  rw [psum_c (N := N) (N' := N') p fun p' hp => hN p' (by omega), hN p (Nat.le_refl _), h1 1 (by omega) (by omega), h1 2 (by omega) (by omega), h1 3 (by omega) (by omega), h1 4 (by omega) (by omega), h1 5 (by omega) (by omega), h3 76 (by omega) (by omega), h3 77 (by omega) (by omega), h3 78 (by omega) (by omega), h3 79 (by omega) (by omega)]
  refine ⟨k1, k2, k3, k4, k5, k6, k7, fun i hi => ?_⟩
  rw [h2 6 (by omega) i hi, h2 7 (by omega) i hi, h4 80 (by omega) i hi, h4 81 (by omega) i hi]
  exact k8 i hi
def Hq (g bb W H A B : Nat) (a b : SS) : Prop := (gI a g 1 = nI W ∧ gI a g 2 = nI H ∧ gI a g 3 = nI A ∧ gI a g 4 = nI B) ∧ gI b 75 (5 * bb) = nI W ∧ gI b 75 (5 * bb + 1) = nI H ∧ gI b 75 (5 * bb + 2) = nI A ∧ gI b 75 (5 * bb + 3) = nI B
def Fm (g bb : Nat) (a0 b0 : SS) (W H A B m M : Nat) (N : Nat → Nat) (a b : SS) : Prop := Om g bb a0 b0 a b ∧ Hq g bb W H A B a b ∧ gI a g 5 = nI m ∧ gI a g 6 = nI (psum N m) ∧ gI b 75 (5 * bb + 4) = nI M ∧ (∀ p, p < m → En g bb N W H A B p a b) ∧ ∀ p, p < M → 1 ≤ N p
section FORMREL
variable {g bb : Nat} {a0 b0 a b : SS} {W H A B m M q : Nat} {N : Nat → Nat}
theorem Fm.sb (hg : 27 < g ∨ g + 7 < 26) : Sb (Fm g bb a0 b0 W H A B m M N) := by
  rintro a b a' b' ⟨h1, ⟨⟨k1, k2, k3, k4⟩, k5, k6, k7, k8⟩, h3, h4, h5, h6, h7⟩ q1 q2 q3 q4
  refine ⟨Om.sb hg a b a' b' h1 q1 q2 q3 q4, ⟨⟨by rw [q2 _ _ (by omega)]; exact k1, by rw [q2 _ _ (by omega)]; exact k2, by rw [q2 _ _ (by omega)]; exact k3, by rw [q2 _ _ (by omega)]; exact k4⟩, by rw [q4 _ _ (by omega)]; exact k5, by rw [q4 _ _ (by omega)]; exact k6, by rw [q4 _ _ (by omega)]; exact k7, by rw [q4 _ _ (by omega)]; exact k8⟩, by rw [q2 _ _ (by omega)]; exact h3, by rw [q2 _ _ (by omega)]; exact h4, by rw [q4 _ _ (by omega)]; exact h5, fun p hp => (h6 p hp).fr (fun _ _ => rfl) (fun j _ _ => q2 _ _ (by omega)) (fun j _ i _ => q2 _ _ (by omega)) (fun c _ _ => q4 _ _ (by omega)) (fun c _ i _ => q4 _ _ (by omega)), h7⟩
theorem Fm.box {x y : Nat} (hb : bb < 2) (hq : q < 12) (hx : x ≤ 999 ∧ (x : Int) ≤ (W : Int) - A) (hy : y ≤ 999 ∧ (y : Int) ≤ (H : Int) - B) (h6 : N q < 6) (h : Fm g bb a0 b0 W H A B (q + 1) q N a b) : Fm g bb a0 b0 W H A B (q + 1) q (upN N q (N q + 1)) (sI (sI (sI (sI a (g + 6) (psum N (q + 1)) (nI x)) (g + 7) (psum N (q + 1)) (nI y)) g 6 (nI (psum N (q + 1) + 1))) (g + 3) q (nI (N q + 1))) (sI (sI (sI b 80 (6 * (12 * bb + q) + N q) (nI x)) 81 (6 * (12 * bb + q) + N q) (nI y)) 77 (12 * bb + q) (nI (N q + 1))) := by
  obtain ⟨ho, ⟨⟨k1, k2, k3, k4⟩, k5, k6, k7, k8⟩, h3, h4, h5, hE, h7⟩ := h
  have hKe : psum N (q + 1) = psum N q + N q := rfl
  have hup : upN N q (N q + 1) q = N q + 1 := if_pos rfl
  have hne : ∀ p, p ≠ q → upN N q (N q + 1) p = N p := fun p hp => if_neg hp
  have hpq : psum (upN N q (N q + 1)) q = psum N q := psum_c q fun p hp => hne p (by omega)
  have hps : psum (upN N q (N q + 1)) (q + 1) = psum N (q + 1) + 1 := by
    show psum (upN N q (N q + 1)) q + upN N q (N q + 1) q = _
    rw [hpq, hup, hKe]; omega
  refine ⟨(((((((ho.cl (by omega)).cl (by omega)).cl (by omega)).cl (by omega)).rr (by unfold OB; omega)).rr (by unfold OB; omega)).rr (by unfold OB; omega)), ⟨⟨?_, ?_, ?_, ?_⟩, ?_, ?_, ?_, ?_⟩, ?_, ?_, ?_, fun p hp => ?_, fun p hp => by rw [hne p (by omega)]; exact h7 p hp⟩
  · rw [gI_nk (by omega), gI_nk (by omega), gI_nk (by omega), gI_nk (by omega)]; exact k1
  · rw [gI_nk (by omega), gI_nk (by omega), gI_nk (by omega), gI_nk (by omega)]; exact k2
  · rw [gI_nk (by omega), gI_nk (by omega), gI_nk (by omega), gI_nk (by omega)]; exact k3
  · rw [gI_nk (by omega), gI_nk (by omega), gI_nk (by omega), gI_nk (by omega)]; exact k4
  · rw [gI_nk (by omega), gI_nk (by omega), gI_nk (by omega)]; exact k5
  · rw [gI_nk (by omega), gI_nk (by omega), gI_nk (by omega)]; exact k6
  · rw [gI_nk (by omega), gI_nk (by omega), gI_nk (by omega)]; exact k7
  · rw [gI_nk (by omega), gI_nk (by omega), gI_nk (by omega)]; exact k8
  · rw [gI_nk (by omega), gI_nk (by omega), gI_nk (by omega), gI_nk (by omega)]; exact h3
  · rw [gI_nk (by omega), gI_eq, hps]
  · rw [gI_nk (by omega), gI_nk (by omega), gI_nk (by omega)]; exact h5
  · by_cases e : p = q
    · subst e
      obtain ⟨n1, n2, n3, n4, n5, n6, n7, n8⟩ := hE p (by omega)
      unfold En
      rw [hup, hpq]
      refine ⟨by omega, ?_, ?_, ?_, ?_, ?_, ?_, fun i hi => ?_⟩
      · rw [gI_nk (by omega), gI_nk (by omega), gI_nk (by omega), gI_nk (by omega)]; exact n2
      · rw [gI_eq]
      · rw [gI_eq]
      · rw [gI_nk (by omega), gI_nk (by omega), gI_nk (by omega), gI_nk (by omega), gI_nk (by omega), gI_nk (by omega), gI_nk (by omega)]; exact n5
      · rw [gI_nk (by omega), gI_nk (by omega), gI_nk (by omega), gI_nk (by omega), gI_nk (by omega), gI_nk (by omega), gI_nk (by omega)]; exact n6
      · rw [gI_nk (by omega), gI_nk (by omega), gI_nk (by omega), gI_nk (by omega), gI_nk (by omega), gI_nk (by omega), gI_nk (by omega)]; exact n7
      · by_cases ei : i = N p
        · subst ei
          have tx : (nI x).toInt = x := nI_toInt (by omega)
          have ty : (nI y).toInt = y := nI_toInt (by omega)
          have x6 : ∀ v, gI (sI (sI (sI (sI a (g + 6) (psum N (p + 1)) (nI x)) (g + 7) (psum N (p + 1)) (nI y)) g 6 v) (g + 3) p (nI (N p + 1))) (g + 6) (psum N p + N p) = nI x := fun v => by
            rw [gI_nk (by omega), gI_nk (by omega), gI_nk (by omega), ← hKe, gI_eq]
          have x7 : ∀ v, gI (sI (sI (sI (sI a (g + 6) (psum N (p + 1)) (nI x)) (g + 7) (psum N (p + 1)) (nI y)) g 6 v) (g + 3) p (nI (N p + 1))) (g + 7) (psum N p + N p) = nI y := fun v => by
            rw [gI_nk (by omega), gI_nk (by omega), ← hKe, gI_eq]
          rw [x6, x7, show gI (sI (sI (sI b 80 (6 * (12 * bb + p) + N p) (nI x)) 81 (6 * (12 * bb + p) + N p) (nI y)) 77 (12 * bb + p) (nI (N p + 1))) 80 (6 * (12 * bb + p) + N p) = nI x by rw [gI_nk (by omega), gI_nk (by omega), gI_eq], show gI (sI (sI (sI b 80 (6 * (12 * bb + p) + N p) (nI x)) 81 (6 * (12 * bb + p) + N p) (nI y)) 77 (12 * bb + p) (nI (N p + 1))) 81 (6 * (12 * bb + p) + N p) = nI y by rw [gI_nk (by omega), gI_eq]]
          exact ⟨⟨rfl, by rw [tx]; omega, by rw [tx]; exact hx.2⟩, rfl, by rw [ty]; omega, by rw [ty]; exact hy.2⟩
        · have hi2 : i < N p := by omega
          rw [gI_nk (by omega), gI_nk (by omega), gI_nk (by omega), gI_nk (c' := g + 6) (by omega), gI_nk (by omega), gI_nk (by omega), gI_nk (c' := 80) (by omega), gI_nk (c' := g + 7) (by omega), gI_nk (c' := g + 7) (by omega), gI_nk (c' := g + 7) (by omega), gI_nk (c' := g + 7) (by omega), gI_nk (c' := 81) (by omega), gI_nk (c' := 81) (by omega), gI_nk (c' := 81) (by omega)]
          exact n8 i hi2
    · have hlt : p < q := by omega
      have hp6 := (hE p hp).1
      refine (hE p hp).fr (fun p' hp' => hne p' (by omega)) (fun j j1 j2 => ?_) (fun j j1 i hi => ?_) (fun c c1 c2 => ?_) (fun c c1 i hi => ?_)
      · rw [gI_nk (by omega), gI_nk (by omega), gI_nk (by omega), gI_nk (by omega)]
      · have := psum_lt (N := N) (Q := q) hlt hi
        rw [gI_nk (by omega), gI_nk (by omega), gI_nk (by omega), gI_nk (by omega)]
      · rw [gI_nk (by omega), gI_nk (by omega), gI_nk (by omega)]
      · rw [gI_nk (by omega), gI_nk (by omega), gI_nk (by omega)]
theorem Fm.cell {c d : Nat} {v : Int32} (hq : q < 12) (hc : (c = 4 ∧ d = 78 ∧ inR v 0 63) ∨ (c = 5 ∧ d = 79 ∧ inR v 0 99)) (h : Fm g bb a0 b0 W H A B (q + 1) q N a b) : Fm g bb a0 b0 W H A B (q + 1) q N (sI a (g + c) q v) (sI b d (12 * bb + q) v) := by
  obtain ⟨ho, ⟨⟨k1, k2, k3, k4⟩, k5, k6, k7, k8⟩, h3, h4, h5, hE, h7⟩ := h
  refine ⟨(ho.cl (by omega)).rr (by unfold OB; omega), ⟨⟨?_, ?_, ?_, ?_⟩, ?_, ?_, ?_, ?_⟩, ?_, ?_, ?_, fun p hp => ?_, h7⟩
  · rw [gI_nk (by omega)]; exact k1
  · rw [gI_nk (by omega)]; exact k2
  · rw [gI_nk (by omega)]; exact k3
  · rw [gI_nk (by omega)]; exact k4
  · rw [gI_nk (by omega)]; exact k5
  · rw [gI_nk (by omega)]; exact k6
  · rw [gI_nk (by omega)]; exact k7
  · rw [gI_nk (by omega)]; exact k8
  · rw [gI_nk (by omega)]; exact h3
  · rw [gI_nk (by omega)]; exact h4
  · rw [gI_nk (by omega)]; exact h5
  · have hp6 := (hE p hp).1
    by_cases e : p = q
    · subst e
      obtain ⟨n1, n2, n3, n4, n5, n6, n7, n8⟩ := hE p (by omega)
      rcases hc with ⟨rfl, rfl, hv⟩ | ⟨rfl, rfl, hv⟩
      · refine ⟨n1, by rw [gI_nk (by omega)]; exact n2, by rw [gI_nk (by omega)]; exact n3, by rw [gI_nk (by omega)]; exact n4, by rw [gI_eq, gI_eq]; exact ⟨rfl, hv⟩, by rw [gI_nk (by omega), gI_nk (by omega)]; exact n6, by rw [gI_nk (by omega), gI_nk (by omega)]; exact n7, fun i hi => ?_⟩
        rw [gI_nk (by omega), gI_nk (by omega), gI_nk (by omega), gI_nk (by omega)]
        exact n8 i hi
      · refine ⟨n1, by rw [gI_nk (by omega)]; exact n2, by rw [gI_nk (by omega)]; exact n3, by rw [gI_nk (by omega)]; exact n4, by rw [gI_nk (by omega), gI_nk (by omega)]; exact n5, by rw [gI_eq, gI_eq]; exact ⟨rfl, hv⟩, by rw [gI_nk (by omega), gI_nk (by omega)]; exact n7, fun i hi => ?_⟩
        rw [gI_nk (by omega), gI_nk (by omega), gI_nk (by omega), gI_nk (by omega)]
        exact n8 i hi
    · refine (hE p hp).fr (fun _ _ => rfl) (fun j j1 j2 => ?_) (fun j j1 i hi => ?_) (fun c' c1 c2 => ?_) (fun c' c1 i hi => ?_)
      · rw [gI_nk (by omega)]
      · rw [gI_nk (by omega)]
      · rw [gI_nk (by omega)]
      · rw [gI_nk (by omega)]
end FORMREL

/-! from 94.place of the class-and-reference proof: what speaks of the class alone -/
/-! Form kept: a place. -/
section PLACE
variable {T : Nat → Nat} {n s g bb : Nat} {a0 b0 a b : SS} {W H A B q : Nat} {N : Nat → Nat}
theorem bxadd7 {x y K : Nat} (hK : K < 72) (hq : q < 12) (h5 : gI a g 5 = nI (q + 1)) (h6 : gI a g 6 = nI K) (h3 : gI a (g + 3) q = nI (N q)) : fX1_addBox a g (nI x) (nI y) = some (sI (sI (sI (sI a (g + 6) K (nI x)) (g + 7) K (nI y)) g 6 (nI (K + 1))) (g + 3) q (nI (N q + 1))) := by
  have e1 : nI (q + 1) - 1 = nI q := nI_sub (a := q + 1) (b := 1) (by omega)
  unfold fX1_addBox
  rw [h5, h6, if_neg (by show ¬ nI (q + 1) ≤ nI 0; exact nI_ge (by omega) (by omega)), if_neg (by show ¬ nI 72 ≤ nI K; exact nI_ge (by omega) (by omega)), grd_eq _ (inb_nI (by omega) (by decide)), nI_clamp (by omega), vthen_q, gI_nk (c' := g) (by omega), h6, grd_eq _ (inb_nI (by omega) (by decide)), nI_clamp (by omega), vthen_q, gI_nk (c' := g) (by omega), gI_nk (c' := g) (by omega), h6, nI_1, vthen_q, gI_nk (c' := g) (by omega), gI_nk (c' := g) (by omega), gI_nk (c' := g) (by omega), h5, e1, grd_eq _ (inb_nI (by omega) (by decide)), nI_clamp (by omega), vthen_q, gI_nk (c' := g + 3) (by omega), gI_nk (c' := g + 3) (by omega), gI_nk (c' := g + 3) (by omega), h3, nI_1]
end PLACE

/-! from 95.places of the class-and-reference proof: what speaks of the class alone -/
/-! Form kept: the places of a question. -/
theorem rp_s {g N : Nat} {v : Int32} {σ : SS} : X2_readPlaces_L2 g (N + 1) v σ =
    if (6 : Int32) < v then (
      some (true, σ)
      ) else (
      bnd (fX2_readPlace σ g v) fun b2 σ4 =>
      if b2 = true then (
        if (gI σ4 26 4) = (3 : Int32) then (
          bnd1 (fX2_advance σ4) fun σ5 =>
          X2_readPlaces_L2 g N (v + (1 : Int32)) σ5
          ) else (
          some (true, σ4)
          )
        ) else (
        some (false, σ4)
        )
      ) := by
  unfold X2_readPlaces_L2
  rw [lp_succ]
section PLACES
variable {T : Nat → Nat} {n g bb : Nat} {a0 b0 : SS} {W H A B q : Nat}
theorem kc_T {s : Nat} : (kc T n s = 3 → T s = 44) ∧ (kc T n s = 4 → T s = 59) := by
  unfold kc
  have := kd_cases (T s)
  by_cases c : n ≤ s
  · rw [if_pos c]; omega
  · rw [if_neg c]; omega
end PLACES

/-! from 96.key of the class-and-reference proof: what speaks of the class alone -/
/-! Form kept: the key of a question. -/
def isL (T : Nat → Nat) (n s : Nat) : Prop := kc T n s = 1 ∧ en T n s - s = 1 ∧ T s ≤ 102
theorem rk_s {g N : Nat} {u v : Int32} {σ : SS} : X2_readKey_L17 g u (N + 1) v σ =
    if (6 : Int32) < v then (
      some (true, σ)
      ) else (
      bnd1 (fX2_isLetter σ) fun b6 =>
      if b6 = true then (
        grd (inb (gI σ 26 2) 400) <|
        vthen ((gI σ 27 (Int32.toNatClampNeg (gI σ 26 2))) - (97 : Int32)) fun v9 =>
        grd (inb u 12) <|
        vthen (fun (_u : Unit) =>
          bnd (fX2_refuse σ (5 : Int32)) fun b12 σ14 =>
          some (b12, σ14)
          ) fun j88 =>
        if (gI σ (g + 3) (Int32.toNatClampNeg u)) ≤ v9 then (
          j88 ()
          ) else (
          if (((gI σ (g + 4) (Int32.toNatClampNeg u)) >>> (v9 &&& 31)) &&& (1 : Int32)) = (1 : Int32) then (
            j88 ()
            ) else (
            vthen (sI σ (g + 4) (Int32.toNatClampNeg u) ((gI σ (g + 4) (Int32.toNatClampNeg u)) ||| ((1 : Int32) <<< (v9 &&& 31)))) fun σ15 =>
            bnd1 (fX2_advance σ15) fun σ16 =>
            X2_readKey_L17 g u N (v + (1 : Int32)) σ16
            )
          )
        ) else (
        vthen (fun  (σ17 : SS) =>
          some (true, σ17)
          ) fun j42 =>
        if 0 < v then (
          j42 σ
          ) else (
          bnd (fX2_refuse σ (1 : Int32)) fun b19 σ21 =>
          if b19 = true then (
            j42 σ21
            ) else (
            some (false, σ21)
            )
          )
        )
      ) := by
  unfold X2_readKey_L17
  rw [lp_succ]
section KEY
variable {T : Nat → Nat} {n g bb s : Nat} {a0 b0 a b : SS} {W H A B q : Nat} {N : Nat → Nat}
theorem let7 (hT : TT T n) (h : K2 T n s a b) : ∃ r, fX2_isLetter a = some r ∧ (r = true ↔ isL T n s) := by
  obtain ⟨k1, ⟨c1, c2, c3, c4, c5, c6⟩, -, k4⟩ := h
  have hn := hT.1
  have hen := en_le (T := T) k1
  have hTs := hT.2 s
  unfold fX2_isLetter isL
  rw [c5, c4, c3, nI_sub hen.1, vthen_q]
  by_cases e1 : kc T n s = 1
  · have hall := en_all (T := T) (n := n) (s := s) (Or.inl e1)
    rw [if_pos (c := nI (kc T n s) = (1 : Int32)) (show nI (kc T n s) = nI 1 by rw [e1])]
    by_cases e2 : en T n s - s = 1
    · rw [if_pos (c := nI (en T n s - s) = (1 : Int32)) (show nI (en T n s - s) = nI 1 by rw [e2]), nI_clamp (by omega), c2 s hall.1, grd_eq _ (inb_nI (by omega) (by decide))]
      by_cases e3 : T s ≤ 102
      · rw [if_neg (c := (102 : Int32) < nI (T s)) (by intro z; have := nI_ltN (a := 102) (b := T s) z (by omega) (by omega); omega)]
        exact ⟨true, rfl, fun _ => ⟨e1, e2, e3⟩, fun _ => rfl⟩
      · rw [if_pos (c := (102 : Int32) < nI (T s)) (by show nI 102 < nI (T s); exact nI_lt (by omega) (by omega))]
        exact ⟨false, rfl, fun z => absurd z (by decide), fun z => absurd z.2.2 e3⟩
    · rw [if_neg (c := nI (en T n s - s) = (1 : Int32)) fun z => e2 (nI_injN (a := en T n s - s) (b := 1) (by omega) (by omega) z)]
      exact ⟨false, rfl, fun z => absurd z (by decide), fun z => absurd z.2.1 e2⟩
  · rw [if_neg (c := nI (kc T n s) = (1 : Int32)) fun z => e1 ((kcI (k := 1) (by omega)).mp z)]
    exact ⟨false, rfl, fun z => absurd z (by decide), fun z => absurd z.1 e1⟩
theorem let_box (hT : TT T n) (h : K2 T n s a b) (hl : isL T n s) : s < 400 ∧ 97 ≤ T s ∧ T s ≤ 102 ∧ gI a 26 2 = nI s ∧ gI a 27 s - 97 = nI (T s - 97) ∧ Int64.toInt32 (gL b 73 10) - 1 = nI (T s - 97) := by
  obtain ⟨k1, ⟨c1, c2, c3, c4, c5, c6⟩, ⟨r1, r2, r3, r4, r5, r6, r7, r8⟩, k4⟩ := h
  obtain ⟨e1, e2, e3⟩ := hl
  have hn := hT.1
  have hTs := hT.2 s
  have hen := en_le (T := T) k1
  have hall := en_all (T := T) (n := n) (s := s) (Or.inl e1)
  have hd := hall.2 s (Nat.le_refl _) (by omega)
  have hdc := kd_cases (T s)
  refine ⟨by omega, by omega, e3, c3, ?_, ?_⟩
  · rw [c2 s hall.1]; exact nI_sub (b := 97) (by omega)
  · have ew : wl T s 1 = lN (T s - 96) := by
      unfold wl
      rw [if_pos (by omega)]
      refine congrArg lN ?_
      show 32 * 0 + (T (s + 0) - 96) = T s - 96
      rw [Nat.add_zero]; omega
    rw [(r8 e1).2, e2, ew, lN_i, show nI (T s - 96) - 1 = nI (T s - 96 - 1) from nI_sub (b := 1) (by omega)]
    exact congrArg nI (by omega)
end KEY

/-! from 97.quest of the class-and-reference proof: what speaks of the class alone -/
/-! Form kept: a question. -/
section QUEST
variable {T : Nat → Nat} {n g bb s : Nat} {a0 b0 a b : SS} {W H A B q : Nat} {N : Nat → Nat}
theorem new7 {K : Nat} {bb2 : Bool} (hq : q < 12) (h5 : gI a g 5 = nI q) (h6 : gI a g 6 = nI K) : fX1_addQuestion a g bb2 = some (sI (sI (sI (sI (sI (sI a (g + 1) q (b2i bb2)) (g + 2) q (nI K)) (g + 3) q 0) (g + 4) q 0) (g + 5) q 1) g 5 (nI (q + 1))) := by
  unfold fX1_addQuestion
  rw [h5, if_neg (by show ¬ nI 12 ≤ nI q; exact nI_ge (by omega) (by omega)), grd_eq _ (inb_nI (by omega) (by decide)), nI_clamp (by omega), vthen_q, gI_nk (c' := g) (by omega), h5, grd_eq _ (inb_nI (by omega) (by decide)), nI_clamp (by omega), gI_nk (c' := g) (by omega), h6, vthen_q, gI_nk (c' := g) (by omega), gI_nk (c' := g) (by omega), h5, grd_eq _ (inb_nI (by omega) (by decide)), nI_clamp (by omega), vthen_q, gI_nk (c' := g) (by omega), gI_nk (c' := g) (by omega), gI_nk (c' := g) (by omega), h5, grd_eq _ (inb_nI (by omega) (by decide)), nI_clamp (by omega), vthen_q, gI_nk (c' := g) (by omega), gI_nk (c' := g) (by omega), gI_nk (c' := g) (by omega), gI_nk (c' := g) (by omega), h5, grd_eq _ (inb_nI (by omega) (by decide)), nI_clamp (by omega), vthen_q, gI_nk (c' := g) (by omega), gI_nk (c' := g) (by omega), gI_nk (c' := g) (by omega), gI_nk (c' := g) (by omega), gI_nk (c' := g) (by omega), h5, nI_1, vthen_q]
theorem Fm.new {bb2 : Bool} {s5 : Int32} (hs : (bb2 = false ∧ s5 = 1) ∨ (bb2 = true ∧ s5 = 2)) (hq : q < 12) (h : Fm g bb a0 b0 W H A B q q N a b) : Fm g bb a0 b0 W H A B (q + 1) q (upN N q 0) (sI (sI (sI (sI (sI (sI a (g + 1) q (b2i bb2)) (g + 2) q (nI (psum N q))) (g + 3) q 0) (g + 4) q 0) (g + 5) q 1) g 5 (nI (q + 1))) (sI (sI (sI (sI b 76 (12 * bb + q) s5) 77 (12 * bb + q) 0) 78 (12 * bb + q) 0) 79 (12 * bb + q) 1) := by
  obtain ⟨ho, ⟨⟨k1, k2, k3, k4⟩, k5, k6, k7, k8⟩, h3, h4, h5, hE, h7⟩ := h
  have hup : upN N q 0 q = 0 := if_pos rfl
  have hne : ∀ p, p ≠ q → upN N q 0 p = N p := fun p hp => if_neg hp
  have hpq : psum (upN N q 0) q = psum N q := psum_c q fun p hp => hne p (by omega)
  have hps : psum (upN N q 0) (q + 1) = psum N q := by
    show psum (upN N q 0) q + upN N q 0 q = _
    rw [hpq, hup, Nat.add_zero]
  refine ⟨((((((((((ho.cl (by omega)).cl (by omega)).cl (by omega)).cl (by omega)).cl (by omega)).cl (by omega)).rr (by unfold OB; omega)).rr (by unfold OB; omega)).rr (by unfold OB; omega)).rr (by unfold OB; omega)), ⟨⟨?_, ?_, ?_, ?_⟩, ?_, ?_, ?_, ?_⟩, ?_, ?_, ?_, fun p hp => ?_, fun p hp => by rw [hne p (by omega)]; exact h7 p hp⟩
  · rw [gI_nk (by omega), gI_nk (by omega), gI_nk (by omega), gI_nk (by omega), gI_nk (by omega), gI_nk (by omega)]; exact k1
  · rw [gI_nk (by omega), gI_nk (by omega), gI_nk (by omega), gI_nk (by omega), gI_nk (by omega), gI_nk (by omega)]; exact k2
  · rw [gI_nk (by omega), gI_nk (by omega), gI_nk (by omega), gI_nk (by omega), gI_nk (by omega), gI_nk (by omega)]; exact k3
  · rw [gI_nk (by omega), gI_nk (by omega), gI_nk (by omega), gI_nk (by omega), gI_nk (by omega), gI_nk (by omega)]; exact k4
  · rw [gI_nk (by omega), gI_nk (by omega), gI_nk (by omega), gI_nk (by omega)]; exact k5
  · rw [gI_nk (by omega), gI_nk (by omega), gI_nk (by omega), gI_nk (by omega)]; exact k6
  · rw [gI_nk (by omega), gI_nk (by omega), gI_nk (by omega), gI_nk (by omega)]; exact k7
  · rw [gI_nk (by omega), gI_nk (by omega), gI_nk (by omega), gI_nk (by omega)]; exact k8
  · rw [gI_eq]
  · rw [gI_nk (by omega), gI_nk (by omega), gI_nk (by omega), gI_nk (by omega), gI_nk (by omega), gI_nk (by omega), hps]; exact h4
  · rw [gI_nk (by omega), gI_nk (by omega), gI_nk (by omega), gI_nk (by omega)]; exact h5
  · by_cases e : p = q
    · subst e
      unfold En
      rw [hup, hpq]
      refine ⟨by omega, ?_, ?_, ?_, ⟨?_, ?_⟩, ⟨?_, ?_⟩, ?_, fun i hi => absurd hi (by omega)⟩
      · rw [gI_nk (by omega), gI_nk (by omega), gI_nk (by omega), gI_nk (by omega), gI_eq]
      · rw [gI_nk (by omega), gI_nk (by omega), gI_nk (by omega), gI_eq]; rfl
      · rw [gI_nk (by omega), gI_nk (by omega), gI_eq]; rfl
      · rw [gI_nk (by omega), gI_nk (by omega), gI_eq, gI_nk (by omega), gI_eq]
      · rw [gI_nk (by omega), gI_eq]; exact ⟨by decide, by decide⟩
      · rw [gI_nk (by omega), gI_eq, gI_eq]
      · rw [gI_eq]; exact ⟨by decide, by decide⟩
      · rw [show gI (sI (sI (sI (sI b 76 (12 * bb + p) s5) 77 (12 * bb + p) 0) 78 (12 * bb + p) 0) 79 (12 * bb + p) 1) 76 (12 * bb + p) = s5 by rw [gI_nk (by omega), gI_nk (by omega), gI_nk (by omega), gI_eq], gI_nk (by omega), gI_nk (by omega), gI_nk (by omega), gI_nk (by omega), gI_nk (by omega), gI_eq]
        rcases hs with ⟨rfl, rfl⟩ | ⟨rfl, rfl⟩
        · exact Or.inl ⟨rfl, rfl⟩
        · exact Or.inr ⟨rfl, rfl⟩
    · have hlt : p < q := by omega
      have hp6 := (hE p hlt).1
      refine (hE p hlt).fr (fun p' hp' => hne p' (by omega)) (fun j j1 j2 => ?_) (fun j j1 i hi => ?_) (fun c c1 c2 => ?_) (fun c c1 i hi => ?_)
      · rw [gI_nk (by omega), gI_nk (by omega), gI_nk (by omega), gI_nk (by omega), gI_nk (by omega), gI_nk (by omega)]
      · rw [gI_nk (by omega), gI_nk (by omega), gI_nk (by omega), gI_nk (by omega), gI_nk (by omega), gI_nk (by omega)]
      · rw [gI_nk (by omega), gI_nk (by omega), gI_nk (by omega), gI_nk (by omega)]
      · rw [gI_nk (by omega), gI_nk (by omega), gI_nk (by omega), gI_nk (by omega)]
theorem Fm.close (hq : q < 12) (hN : 1 ≤ N q) (h : Fm g bb a0 b0 W H A B (q + 1) q N a b) : Fm g bb a0 b0 W H A B (q + 1) (q + 1) N a (sI b 75 (5 * bb + 4) (nI (q + 1))) := by
  obtain ⟨ho, ⟨k0, k5, k6, k7, k8⟩, h3, h4, h5, hE, h7⟩ := h
  refine ⟨ho.rr (by unfold OB; omega), ⟨k0, ?_, ?_, ?_, ?_⟩, h3, h4, ?_, fun p hp => (hE p hp).fr (fun _ _ => rfl) (fun _ _ _ => rfl) (fun _ _ _ _ => rfl) (fun c c1 c2 => by rw [gI_nk (by omega)]) (fun c c1 i hi => by rw [gI_nk (by omega)]), fun p hp => ?_⟩
  · rw [gI_nk (by omega)]; exact k5
  · rw [gI_nk (by omega)]; exact k6
  · rw [gI_nk (by omega)]; exact k7
  · rw [gI_nk (by omega)]; exact k8
  · rw [gI_eq]
  · by_cases e : p = q
    · subst e; exact hN
    · exact h7 p (by omega)
end QUEST

/-! from 98b.loop of the class-and-reference proof: what speaks of the class alone -/
/-! Form kept: all questions. -/
theorem rs_s {g N : Nat} {v : Int32} {σ : SS} : X2_readQuestions_L2 g (N + 1) v σ =
    if (12 : Int32) < v then (
      some (true, σ)
      ) else (
      if (gI σ 26 4) = 0 then (
        some (true, σ)
        ) else (
        bnd1 (fX2_isWord σ 2) fun b2 =>
        vthen (fun  (σ4 : SS) =>
          if v = (12 : Int32) then (
            bnd (fX2_refuse σ4 (3 : Int32)) fun b24 σ26 =>
            some (b24, σ26)
            ) else (
            bnd1 (fX2_advance σ4) fun σ5 =>
            bnd1 (fX1_addQuestion σ5 g b2) fun σ6 =>
            bnd (fX2_readPlaces σ6 g) fun b8 σ10 =>
            if b8 = true then (
              bnd (fX2_readKey σ10 g v) fun b12 σ14 =>
              if b12 = true then (
                bnd (fX2_readWorth σ14 g v) fun b16 σ18 =>
                if b16 = true then (
                  bnd (fX2_takeSign σ18 (4 : Int32)) fun b20 σ22 =>
                  if b20 = true then (
                    X2_readQuestions_L2 g N (v + (1 : Int32)) σ22
                    ) else (
                    some (false, σ22)
                    )
                  ) else (
                  some (false, σ18)
                  )
                ) else (
                some (false, σ14)
                )
              ) else (
              some (false, σ10)
              )
            )
          ) fun j43 =>
        if b2 = true then (
          j43 σ
          ) else (
          bnd1 (fX2_isWord σ 3) fun b28 =>
          if b28 = true then (
            j43 σ
            ) else (
            bnd (fX2_refuse σ (1 : Int32)) fun b31 σ33 =>
            some (b31, σ33)
            )
          )
        )
      ) := by
  unfold X2_readQuestions_L2
  rw [lp_succ]
theorem w2_rq {γ δ : Type} {P : γ → δ → Prop} {x : Option γ} {y : Option (Bool × SS)} {kt kf : SS → Option δ} (h : ∀ Q : γ → Bool × SS → Prop, (∀ x b, W2 x (kt b) P → W2 x (some (true, b)) Q) → (∀ x b, W2 x (kf b) P → W2 x (some (false, b)) Q) → W2 x y Q) : W2 x (bnd y fun b12 σ14 => if b12 = true then kt σ14 else kf σ14) P := by
  refine w2_rk (h _ (fun x b hx => ?_) fun x b hx => ?_)
  · obtain ⟨v, u, e, e', hp⟩ := hx
    exact ⟨v, (true, b), e, rfl, u, (if_pos rfl).trans e', hp⟩
  · obtain ⟨v, u, e, e', hp⟩ := hx
    exact ⟨v, (false, b), e, rfl, u, (if_neg (c := false = true) (by decide)).trans e', hp⟩
section QUESTS
variable {T : Nat → Nat} {n g bb : Nat} {a0 b0 : SS} {W H A B : Nat}
end QUESTS

/-! from 98c.read of the class-and-reference proof: what speaks of the class alone -/
/-! Form kept: a text read by both. -/
theorem txread7 {σ : SS} {n g : Nat} (hn : 1 ≤ n ∧ n ≤ 400) (hg : 27 < g ∨ g + 7 < 26) : ∃ t, (gR t = gR σ ∧ (∀ c k, c ≠ 26 → c ≠ 27 → c ≠ g → gI t c k = gI σ c k) ∧ gI t 26 1 = nI n ∧ (∀ j, j < n → gI t 27 j = gI σ 2 j) ∧ gI t 26 3 = nI 0 ∧ gI t 26 7 = 0 ∧ gI t g 5 = 0 ∧ gI t g 6 = 0) ∧ ∀ k : Int32 → SS → Option (Int32 × SS), bnd (fX2_read σ (nI n) g) k = bnd1 (fX2_advance t) fun σ7 => bnd (fX2_readHead σ7 g) fun b9 σ11 => if b9 = true then (bnd (fX2_readQuestions σ11 g) fun b13 σ15 => if b13 = true then vthen (sI σ15 g 0 1) fun σ16 => k (gI σ16 26 7) σ16 else k (gI σ15 26 7) σ15) else k (gI σ11 26 7) σ11 := by
  have em : ∀ σ, fX1_empty σ g = some (sI (sI (sI (sI (sI (sI (sI σ g 0 0) g 1 0) g 2 0) g 3 0) g 4 0) g 5 0) g 6 0) := fun σ => by
    unfold fX1_empty; rw [vthen_q, vthen_q, vthen_q, vthen_q, vthen_q, vthen_q, vthen_q]
  have emin : fJ9_min_7cf53 σ (nI n) 400 = nI n := by
    unfold fJ9_min_7cf53
    rw [if_neg (fun z => by have := nI_ltN (a := 400) (b := n) z (by omega) (by omega); omega)]
  have z0 : (0 : Int32).toNatClampNeg = 0 := rfl
  have eok : cpOK (0 : Int32) (0 : Int32) (nI n) 480 400 = true := by
    unfold cpOK
    rw [z0, nI_clamp (by omega)]
    refine decide_eq_true ⟨by decide, by decide, fun z => ?_, by omega, by omega⟩
    have := nI_ltN (a := n) (b := 0) z (by omega) (by omega)
    omega
  refine ⟨sI (sI (sI (sI (sI (sI (sI (sI (sI (cpA (sI σ 26 1 (nI n)) 2 0 27 0 (nI n)) 26 3 0) 26 7 0) g 0 0) g 1 0) g 2 0) g 3 0) g 4 0) g 5 0) g 6 0, ⟨rfl, fun c k c1 c2 c3 => ?_, ?_, fun j hj => ?_, ?_, ?_, ?_, ?_⟩, fun k => ?_⟩
  · rw [gI_ne c3, gI_ne c3, gI_ne c3, gI_ne c3, gI_ne c3, gI_ne c3, gI_ne c3, gI_ne c1, gI_ne c1]
    unfold cpA
    rw [gI_A_ne c2, gI_ne c1]
  · rw [gI_ne (by omega), gI_ne (by omega), gI_ne (by omega), gI_ne (by omega), gI_ne (by omega), gI_ne (by omega), gI_ne (by omega), gI_nk (by omega), gI_nk (by omega)]
    unfold cpA
    rw [gI_A_ne (by omega), gI_eq]
  · rw [gI_ne (by omega), gI_ne (by omega), gI_ne (by omega), gI_ne (by omega), gI_ne (by omega), gI_ne (by omega), gI_ne (by omega), gI_ne (by omega), gI_ne (by omega)]
    unfold cpA
    rw [gI_A, z0, nI_clamp (by omega), sb_cpy0 hj, gI_ne (by omega)]
  · rw [gI_ne (by omega), gI_ne (by omega), gI_ne (by omega), gI_ne (by omega), gI_ne (by omega), gI_ne (by omega), gI_ne (by omega), gI_nk (by omega), gI_eq]; rfl
  · rw [gI_ne (by omega), gI_ne (by omega), gI_ne (by omega), gI_ne (by omega), gI_ne (by omega), gI_ne (by omega), gI_ne (by omega), gI_eq]
  · rw [gI_nk (by omega), gI_eq]
  · rw [gI_eq]
  · unfold fX2_read
    simp only [bnd_vth, bnd_grd, bnd_bnd1, bnd_bnd, bnd_ite, bnd_sm]
    rw [emin, vthen_q, gI_eq, grd_eq _ eok, vthen_q, vthen_q, vthen_q, bnd1_of _ (em _)]
def FP (f bb : Nat) (σ τ : SS) (v w : Int32 × SS) : Prop :=
  v.1 = w.1 ∧ ((v.2 = σ ∧ w.2 = τ) ∨ (gR w.2 = gR τ ∧ gI v.2 1 1 = 0 ∧ gI w.2 73 1 = 0 ∧
    (∀ c k, c ≠ 26 → c ≠ 27 → ¬ (28 - f ≤ c ∧ c ≤ 35 - f) → ¬ (c = 1 ∧ k = 1) → c ≠ 30 → c ≠ 58 → gI v.2 c k = gI σ c k) ∧
    (∀ c k, ¬ (c = 73 ∧ ((1 ≤ k ∧ k ≤ 12) ∨ k = 65)) → c ≠ 82 → ¬ OB bb c k → gI w.2 c k = gI τ c k) ∧
    ((gR v.2 = gR σ ∧ (∀ k, gI v.2 30 k = gI σ 30 k) ∧ (∀ k, gI v.2 58 k = gI σ 58 k) ∧ (∀ k, k = 11 ∨ k = 12 ∨ k = 65 → gI w.2 73 k = gI τ 73 k) ∧ ∀ k, gI w.2 82 k = gI τ 82 k) ∨
      (gR v.2 = gR (sR (sR σ 1 5 (28 - f)) 1 6 f) ∧ (∀ k, k < 12 → gI v.2 30 k = 0) ∧ gI v.2 58 0 = 0 ∧ gI v.2 (28 - f) 0 = 1 ∧ gI w.2 73 11 = nI bb ∧ gI w.2 73 12 = 1 ∧ gI w.2 73 65 = 0 ∧ (∀ k, k < 12 → gI w.2 82 k = 0) ∧
        ∃ (W H A B Q : Nat) (N : Nat → Nat), RG W H A B ∧ Q ≤ 12 ∧ Hq (28 - f) bb W H A B v.2 w.2 ∧ gI v.2 (28 - f) 5 = nI Q ∧ gI v.2 (28 - f) 6 = nI (psum N Q) ∧ gI w.2 75 (5 * bb + 4) = nI Q ∧ ∀ p, p < Q → 1 ≤ N p ∧ En (28 - f) bb N W H A B p v.2 w.2))))
theorem rgAll {V : Nat → Nat} (h : ∀ k, k < 4 → rgH k (V k)) : RG (V 0) (V 1) (V 2) (V 3) := ⟨(h 0 (by omega)).1 (by omega), (h 1 (by omega)).1 (by omega), (h 2 (by omega)).2 (by omega), (h 3 (by omega)).2 (by omega)⟩
