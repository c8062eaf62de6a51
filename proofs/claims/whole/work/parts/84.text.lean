/-! Form kept: a text and its tokens. -/
def kd (c : Nat) : Nat := if 97 ≤ c ∧ c ≤ 122 then 1 else if 48 ≤ c ∧ c ≤ 57 then 2 else if c = 44 then 3 else if c = 59 then 4 else 5
def fs (P : Nat → Bool) : Nat → Nat → Nat
  | 0, i => i
  | m + 1, i => if P i = true then fs P m (i + 1) else i
theorem fs_t {P : Nat → Bool} {n i : Nat} (hi : i < n) (h : P i = true) : fs P (n - i) i = fs P (n - (i + 1)) (i + 1) := by
  rw [show n - i = (n - (i + 1)) + 1 by omega]
  exact if_pos h
theorem fs_f {P : Nat → Bool} {m i : Nat} (h : ¬ P i = true) : fs P m i = i := by
  cases m with
  | zero => rfl
  | succ m => exact if_neg h
theorem fs_le {P : Nat → Bool} : ∀ m i, i ≤ fs P m i ∧ fs P m i ≤ i + m
  | 0, i => ⟨Nat.le_refl _, Nat.le_refl _⟩
  | m + 1, i => by
    by_cases h : P i = true
    · have e : fs P (m + 1) i = fs P m (i + 1) := if_pos h
      have := fs_le (P := P) m (i + 1)
      omega
    · have e : fs P (m + 1) i = i := if_neg h
      omega
theorem fs_all {P : Nat → Bool} : ∀ m i j, i ≤ j → j < fs P m i → P j = true
  | 0, i, j, h1, h2 => absurd (show j < i from h2) (by omega)
  | m + 1, i, j, h1, h2 => by
    by_cases h : P i = true
    · have e : fs P (m + 1) i = fs P m (i + 1) := if_pos h
      by_cases c : j = i
      · rw [c]; exact h
      · exact fs_all m (i + 1) j (by omega) (by rw [← e]; exact h2)
    · have e : fs P (m + 1) i = i := if_neg h
      omega
section TEXT
variable {T : Nat → Nat} {n s i : Nat}
/-- where the next token begins, its kind, where it ends -/
def bl (T : Nat → Nat) (j : Nat) : Bool := decide (T j = 32 ∨ T j = 10)
def sm (T : Nat → Nat) (k j : Nat) : Bool := decide (kd (T j) = k)
def sk (T : Nat → Nat) (n i : Nat) : Nat := fs (bl T) (n - i) i
def kc (T : Nat → Nat) (n s : Nat) : Nat := if n ≤ s then 0 else kd (T s)
def en (T : Nat → Nat) (n s : Nat) : Nat := if n ≤ s then s else if kd (T s) = 1 ∨ kd (T s) = 2 then fs (sm T (kd (T s))) (n - s) s else s + 1
def nv (T : Nat → Nat) (s : Nat) : Nat → Nat
  | 0 => 0
  | k + 1 => if 99 < nv T s k then 999 else 10 * nv T s k + (T (s + k) - 48)
def wd (T : Nat → Nat) (s : Nat) : Nat → Nat
  | 0 => 0
  | k + 1 => 32 * wd T s k + (T (s + k) - 96)
def wl (T : Nat → Nat) (s k : Nat) : Int64 := if k ≤ 7 then lN (wd T s k) else -1
theorem kd_cases (c : Nat) : (kd c = 1 ∧ 97 ≤ c ∧ c ≤ 122) ∨ (kd c = 2 ∧ 48 ≤ c ∧ c ≤ 57) ∨ (kd c = 3 ∧ c = 44) ∨ (kd c = 4 ∧ c = 59) ∨ (kd c = 5 ∧ ¬ (97 ≤ c ∧ c ≤ 122) ∧ ¬ (48 ≤ c ∧ c ≤ 57) ∧ c ≠ 44 ∧ c ≠ 59) := by
  unfold kd
  by_cases h1 : 97 ≤ c ∧ c ≤ 122
  · rw [if_pos h1]; omega
  rw [if_neg h1]
  by_cases h2 : 48 ≤ c ∧ c ≤ 57
  · rw [if_pos h2]; omega
  rw [if_neg h2]
  by_cases h3 : c = 44
  · rw [if_pos h3]; omega
  rw [if_neg h3]
  by_cases h4 : c = 59
  · rw [if_pos h4]; omega
  rw [if_neg h4]; omega
theorem sk_le (hi : i ≤ n) : i ≤ sk T n i ∧ sk T n i ≤ n := by
  have := fs_le (P := bl T) (n - i) i
  unfold sk; omega
theorem en_le (hs : s ≤ n) : s ≤ en T n s ∧ en T n s ≤ n ∧ (s < n → s < en T n s) := by
  unfold en
  by_cases h : n ≤ s
  · rw [if_pos h]; omega
  rw [if_neg h]
  by_cases c : kd (T s) = 1 ∨ kd (T s) = 2
  · rw [if_pos c, fs_t (by omega) (show sm T (kd (T s)) s = true from decide_eq_true rfl)]
    have := fs_le (P := sm T (kd (T s))) (n - (s + 1)) (s + 1)
    omega
  · rw [if_neg c]; omega
theorem en_all (h : kc T n s = 1 ∨ kc T n s = 2) : s < n ∧ ∀ j, s ≤ j → j < en T n s → kd (T j) = kc T n s := by
  unfold kc at *
  by_cases h0 : n ≤ s
  · rw [if_pos h0] at h; omega
  rw [if_neg h0] at h ⊢
  refine ⟨by omega, fun j h1 h2 => ?_⟩
  unfold en at h2
  rw [if_neg h0, if_pos h] at h2
  exact of_decide_eq_true (fs_all (P := sm T (kd (T s))) _ _ j h1 h2)
theorem nv_le : ∀ k, (∀ j, j < k → kd (T (s + j)) = 2) → nv T s k ≤ 999
  | 0, _ => Nat.zero_le _
  | k + 1, h => by
    have ih := nv_le k fun j hj => h j (by omega)
    have hk := h k (by omega)
    have e : nv T s (k + 1) = if 99 < nv T s k then 999 else 10 * nv T s k + (T (s + k) - 48) := rfl
    have hd := kd_cases (T (s + k))
    by_cases c : 99 < nv T s k
    · rw [if_pos c] at e; omega
    · rw [if_neg c] at e; omega
theorem wd_lt : ∀ k, k ≤ 7 → (∀ j, j < k → kd (T (s + j)) = 1) → wd T s k < 32 ^ k
  | 0, _, _ => by show 0 < 32 ^ 0; decide
  | k + 1, hk, h => by
    have ih := wd_lt k (by omega) fun j hj => h j (by omega)
    have hd := kd_cases (T (s + k))
    have hk' := h k (by omega)
    have e : wd T s (k + 1) = 32 * wd T s k + (T (s + k) - 96) := rfl
    have e2 : (32 : Nat) ^ (k + 1) = 32 ^ k * 32 := Nat.pow_succ ..
    omega
theorem wd_big {k : Nat} (hk : k ≤ 7) (h : ∀ j, j < k → kd (T (s + j)) = 1) : wd T s k < 34359738368 := by
  have := wd_lt k hk h
  have h2 : (32 : Nat) ^ k ≤ 32 ^ 7 := Nat.pow_le_pow_right (by omega) hk
  have h3 : (32 : Nat) ^ 7 = 34359738368 := by decide
  omega
theorem w_len (W : Nat) {L : Nat} (h : ∀ j, j < L → kd (T (s + j)) = 1) : (wl T s L = lN W ∧ W < 34359738368) ↔ (L ≤ 7 ∧ wd T s L = W ∧ W < 34359738368) := by
  unfold wl
  by_cases c : L ≤ 7
  · have := wd_big c h
    rw [if_pos c]
    refine ⟨fun q => ⟨c, ?_, q.2⟩, fun q => ⟨by rw [q.2.1], q.2.2⟩⟩
    have q1 := q.1
    rw [pk_lEQ (by omega) (by omega)] at q1
    exact q1
  · rw [if_neg c]
    refine ⟨fun q => ?_, fun q => absurd q.1 c⟩
    have q1 := q.1
    have q2 : (-1 : Int64).toInt = (lN W).toInt := by rw [q1]
    rw [pk_lT (by omega)] at q2
    have : (-1 : Int64).toInt = -1 := rfl
    omega
end TEXT
