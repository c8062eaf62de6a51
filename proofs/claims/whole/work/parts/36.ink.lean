/-! Ink that hangs together, by sets alone: no machine here. -/
def nbr (w q a b : Nat) : Prop := ∃ x y x' y', x < w ∧ y < q ∧ x' < w ∧ y' < q ∧ a = y * w + x ∧ b = y' * w + x' ∧ ((y = y' ∧ (x + 1 = x' ∨ x' + 1 = x)) ∨ (x = x' ∧ (y + 1 = y' ∨ y' + 1 = y)))
section COMP
variable {w q : Nat} {ink S : Nat → Prop} {a b c : Nat}
theorem nbr.sym (h : nbr w q a b) : nbr w q b a := by
  obtain ⟨x, y, x', y', h1, h2, h3, h4, h5, h6, h7⟩ := h
  exact ⟨x', y', x, y, h3, h4, h1, h2, h6, h5, by omega⟩
theorem nbr.lt (h : nbr w q a b) : a < w * q ∧ b < w * q := by
  obtain ⟨x, y, x', y', h1, h2, h3, h4, rfl, rfl, h7⟩ := h
  exact ⟨cell_lt h1 h2, cell_lt h3 h4⟩
/-- one comes from a to b over ink -/
def Conn (w q : Nat) (ink : Nat → Prop) (a b : Nat) : Prop := ∀ T : Nat → Prop, T a → (∀ x y, T x → nbr w q x y → ink y → T y) → T b
theorem Conn.rf : Conn w q ink a a := fun T h _ => h
theorem Conn.step (h : Conn w q ink a b) (hn : nbr w q b c) (hc : ink c) : Conn w q ink a c := fun T h1 h2 => h2 b c (h T h1 h2) hn hc
theorem Conn.tr (h1 : Conn w q ink a b) (h2 : Conn w q ink b c) : Conn w q ink a c := fun T ha hT => h2 T (h1 T ha hT) hT
theorem Conn.sym (ha : ink a) (h : Conn w q ink a b) : Conn w q ink b a :=
  (h (fun y => ink y ∧ Conn w q ink y a) ⟨ha, Conn.rf⟩ (fun x y hx hn hy => ⟨hy, (Conn.rf.step hn.sym hx.1).tr hx.2⟩)).2
theorem Conn.inked (ha : ink a) (h : Conn w q ink a b) : ink b := h ink ha fun _ _ _ _ hy => hy
theorem Conn.lt (ha : a < w * q) (h : Conn w q ink a b) : b < w * q := h (fun y => y < w * q) ha fun _ _ _ hn _ => hn.lt.2
/-- the first dot of ink that hangs together -/
def isSt (w q : Nat) (ink : Nat → Prop) (k : Nat) : Prop := k < w * q ∧ ink k ∧ ∀ j, j < k → ink j → ¬ Conn w q ink j k
/-- what hangs together with ink ahead of i -/
def Sn (w q : Nat) (ink : Nat → Prop) (i k : Nat) : Prop := ∃ j, j < i ∧ j < w * q ∧ ink j ∧ Conn w q ink j k
theorem Sn.cl {i : Nat} (ha : ink a) (hn : nbr w q a b) (hb : ink b) (h : ¬ Sn w q ink i a) : ¬ Sn w q ink i b := fun ⟨j, h1, h2, h3, h4⟩ => h ⟨j, h1, h2, h3, h4.step hn.sym ha⟩
theorem Sn.st {i : Nat} (hi : i < w * q) : isSt w q ink i ↔ ink i ∧ ¬ Sn w q ink i i :=
  ⟨fun ⟨_, h2, h3⟩ => ⟨h2, fun ⟨j, k1, _, k3, k4⟩ => h3 j k1 k3 k4⟩, fun ⟨h1, h2⟩ => ⟨hi, h1, fun j k1 k3 k4 => h2 ⟨j, k1, by omega, k3, k4⟩⟩⟩
theorem Sn.s {i k : Nat} (hi : i < w * q) : Sn w q ink (i + 1) k ↔ Sn w q ink i k ∨ (ink i ∧ Conn w q ink i k) := by
  constructor
  · rintro ⟨j, h1, h2, h3, h4⟩
    by_cases c : j = i
    · subst c; exact Or.inr ⟨h3, h4⟩
    · exact Or.inl ⟨j, by omega, h2, h3, h4⟩
  · rintro (⟨j, h1, h2, h3, h4⟩ | ⟨h1, h2⟩)
    · exact ⟨j, by omega, h2, h3, h4⟩
    · exact ⟨i, by omega, hi, h1, h2⟩
theorem Sn.same {i k : Nat} (hi : i < w * q) (h : ¬ isSt w q ink i) : Sn w q ink (i + 1) k ↔ Sn w q ink i k := by
  rw [Sn.s hi]
  constructor
  · rintro (h1 | ⟨h1, h2⟩)
    · exact h1
    · rw [Sn.st hi] at h
      have h3 : Sn w q ink i i := Classical.byContradiction fun q => h ⟨h1, q⟩
      obtain ⟨j, k1, k2, k3, k4⟩ := h3
      exact ⟨j, k1, k2, k3, k4.tr h2⟩
  · exact Or.inl
end COMP
/-! numbers over sets -/
noncomputable def gs (m : Nat → Prop) (f : Nat → Nat) : Nat → Nat
  | 0 => 0
  | k + 1 => gs m f k + @ite _ (m k) (Classical.propDecidable _) (f k) 0
section GS
variable {m m' : Nat → Prop} {f : Nat → Nat}
theorem gs_t {k : Nat} (h : m k) : gs m f (k + 1) = gs m f k + f k := by
  show gs m f k + @ite _ (m k) (Classical.propDecidable _) (f k) 0 = _
  rw [if_pos h]
theorem gs_f {k : Nat} (h : ¬ m k) : gs m f (k + 1) = gs m f k := by
  show gs m f k + @ite _ (m k) (Classical.propDecidable _) (f k) 0 = _
  rw [if_neg h]; rfl
theorem gs_congr : ∀ N, (∀ k, k < N → (m k ↔ m' k)) → gs m f N = gs m' f N
  | 0, _ => rfl
  | N + 1, h => by
    have ih := gs_congr N fun k hk => h k (by omega)
    by_cases c : m N
    · rw [gs_t c, gs_t ((h N (by omega)).mp c), ih]
    · rw [gs_f c, gs_f fun e => c ((h N (by omega)).mpr e), ih]
theorem gs_add {a : Nat} (hm : ¬ m a) (h : ∀ k, m' k ↔ m k ∨ k = a) : ∀ N, a < N → gs m' f N = gs m f N + f a
  | 0, ha => absurd ha (by omega)
  | N + 1, ha => by
    by_cases e : a = N
    · subst e
      rw [gs_t ((h a).mpr (Or.inr rfl)), gs_f hm, gs_congr (m := m') (m' := m) a fun k hk => ⟨fun h1 => ((h k).mp h1).resolve_right (by omega), fun h1 => (h k).mpr (Or.inl h1)⟩]
    · have ih := gs_add hm h N (by omega)
      by_cases c : m N
      · rw [gs_t c, gs_t ((h N).mpr (Or.inl c)), ih]; omega
      · rw [gs_f c, gs_f fun e1 => ((h N).mp e1).elim c fun e2 => e e2.symm, ih]
theorem gs_le : ∀ N, gs m (fun _ => 1) N ≤ N
  | 0 => Nat.le_refl _
  | N + 1 => by
    have := gs_le N
    by_cases c : m N
    · rw [gs_t c]; omega
    · rw [gs_f c]; omega
theorem gs_none : ∀ N, (∀ k, k < N → ¬ m k) → gs m f N = 0
  | 0, _ => rfl
  | N + 1, h => by rw [gs_f (h N (by omega))]; exact gs_none N fun k hk => h k (by omega)
theorem gs_mono {M : Nat} : ∀ N, M ≤ N → gs m f M ≤ gs m f N
  | 0, h => by have : M = 0 := by omega
               subst this; exact Nat.le_refl _
  | N + 1, h => by
    by_cases e : M = N + 1
    · subst e; exact Nat.le_refl _
    · have := gs_mono N (show M ≤ N by omega)
      by_cases c : m N
      · rw [gs_t c]; omega
      · rw [gs_f c]; exact this
end GS
def mem (L : Nat → Nat) (n k : Nat) : Prop := ∃ j, j < n ∧ L j = k
def ls (L f : Nat → Nat) : Nat → Nat
  | 0 => 0
  | n + 1 => ls L f n + f (L n)
theorem ls_gs {L f : Nat → Nat} {N : Nat} : ∀ n, (∀ i j, i < n → j < n → L i = L j → i = j) → (∀ i, i < n → L i < N) → ls L f n = gs (mem L n) f N
  | 0, _, _ => (gs_none N fun k _ h => by obtain ⟨j, h1, _⟩ := h; omega).symm
  | n + 1, h1, h2 => by
    have ih := ls_gs (f := f) n (fun i j hi hj => h1 i j (by omega) (by omega)) fun i hi => h2 i (by omega)
    rw [gs_add (m := mem L n) (a := L n) (fun ⟨j, k1, k2⟩ => by have := h1 j n (by omega) (by omega) k2; omega) (fun k => ⟨fun ⟨j, k1, k2⟩ => by
      by_cases c : j = n
      · subst c; exact Or.inr k2.symm
      · exact Or.inl ⟨j, by omega, k2⟩, fun h => h.elim (fun ⟨j, k1, k2⟩ => ⟨j, by omega, k2⟩) fun e => ⟨n, by omega, e.symm⟩⟩) N (h2 n (by omega)), ← ih]
    rfl
theorem ls_1 (L : Nat → Nat) : ∀ n, ls L (fun _ => 1) n = n
  | 0 => rfl
  | n + 1 => by show ls L (fun _ => 1) n + 1 = n + 1; rw [ls_1 L n]
/-! a row of dots that hang together, as it grows -/
def Bf (w q : Nat) (ink S : Nat → Prop) (st : Nat) (L : Nat → Nat) (n : Nat) (C : Nat → Prop) : Prop :=
  1 ≤ n ∧ L 0 = st ∧ (∀ i j, i < n → j < n → L i = L j → i = j) ∧ (∀ i, i < n → L i < w * q ∧ ink (L i) ∧ ¬ S (L i) ∧ Conn w q ink st (L i)) ∧ ∀ b, C b → b < w * q → ink b → ¬ S b → mem L n b
/-- the dots beside the first g -/
def Bn (w q : Nat) (L : Nat → Nat) (g b : Nat) : Prop := ∃ i, i < g ∧ nbr w q (L i) b
section BF
variable {w q st n g : Nat} {ink S C : Nat → Prop} {L : Nat → Nat}
theorem Bf.init (h1 : st < w * q) (h2 : ink st) (h3 : ¬ S st) (hL : L 0 = st) : Bf w q ink S st L 1 (fun b => Bn w q L 0 b) := ⟨Nat.le_refl _, hL, fun i j hi hj _ => by omega, fun i hi => by
    have : i = 0 := by omega
    subst this
    rw [hL]; exact ⟨h1, h2, h3, Conn.rf⟩, fun b hb => by obtain ⟨i, h, _⟩ := hb; omega⟩
theorem Bf.le (h : Bf w q ink S st L n C) : n ≤ w * q := by
  have e := ls_gs (L := L) (f := fun _ => 1) (N := w * q) n h.2.2.1 fun i hi => (h.2.2.2.1 i hi).1
  rw [ls_1] at e
  have := gs_le (m := mem L n) (w * q)
  omega
def Tr (ink S : Nat → Prop) (b : Nat) (L : Nat → Nat) (n : Nat) (L' : Nat → Nat) (n' : Nat) : Prop :=
  ((ink b ∧ ¬ S b ∧ ¬ mem L n b) ∧ n' = n + 1 ∧ L' = fun j => if j = n then b else L j) ∨ (¬ (ink b ∧ ¬ S b ∧ ¬ mem L n b) ∧ n' = n ∧ L' = L)
theorem Tr.keep {b n' : Nat} {L' : Nat → Nat} (h : Tr ink S b L n L' n') : n ≤ n' ∧ (∀ j, j < n → L' j = L j) ∧ ∀ k, mem L' n' k ↔ mem L n k ∨ (k = b ∧ ink b ∧ ¬ S b) := by
  rcases h with ⟨⟨h1, h2, h3⟩, rfl, rfl⟩ | ⟨h1, rfl, rfl⟩
  · refine ⟨by omega, fun j hj => if_neg (by omega), fun k => ⟨fun ⟨j, k1, k2⟩ => ?_, fun h => ?_⟩⟩
    · dsimp only at k2
      by_cases c : j = n
      · rw [if_pos c] at k2; exact Or.inr ⟨k2.symm, h1, h2⟩
      · rw [if_neg c] at k2; exact Or.inl ⟨j, by omega, k2⟩
    · rcases h with ⟨j, k1, k2⟩ | ⟨rfl, -, -⟩
      · exact ⟨j, by omega, by dsimp only; rw [if_neg (by omega)]; exact k2⟩
      · exact ⟨n, by omega, if_pos rfl⟩
  · refine ⟨Nat.le_refl _, fun _ _ => rfl, fun k => ⟨Or.inl, fun h => h.elim id fun ⟨e, h2, h3⟩ => ?_⟩⟩
    subst e
    exact Classical.byContradiction fun q => h1 ⟨h2, h3, q⟩
theorem Bf.try {b n' : Nat} {L' : Nat → Nat} (h : Bf w q ink S st L n C) (hg : g < n) (hb : nbr w q (L g) b) (ht : Tr ink S b L n L' n') : Bf w q ink S st L' n' fun k => C k ∨ k = b := by
  obtain ⟨h1, h2, h3, h4, h5⟩ := h
  obtain ⟨t1, t2, t3⟩ := ht.keep
  refine ⟨by omega, by rw [t2 0 (by omega)]; exact h2, ?_, ?_, fun k hk k1 k2 k3 => ?_⟩
  · rcases ht with ⟨⟨i1, i2, i3⟩, rfl, rfl⟩ | ⟨i1, rfl, rfl⟩
    · intro i j hi hj e
      dsimp only at e
      by_cases ci : i = n
      · by_cases cj : j = n
        · omega
        · rw [if_pos ci, if_neg cj] at e
          exact absurd ⟨j, by omega, e.symm⟩ i3
      · by_cases cj : j = n
        · rw [if_neg ci, if_pos cj] at e
          exact absurd ⟨i, by omega, e⟩ i3
        · rw [if_neg ci, if_neg cj] at e
          exact h3 i j (by omega) (by omega) e
    · exact h3
  · rcases ht with ⟨⟨i1, i2, i3⟩, rfl, rfl⟩ | ⟨i1, rfl, rfl⟩
    · intro i hi
      dsimp only
      by_cases ci : i = n
      · rw [if_pos ci]; exact ⟨hb.lt.2, i1, i2, (h4 g hg).2.2.2.step hb i1⟩
      · rw [if_neg ci]; exact h4 i (by omega)
    · exact h4
  · rw [t3]
    rcases hk with hk | rfl
    · exact Or.inl (h5 k hk k1 k2 k3)
    · exact Or.inr ⟨rfl, k2, k3⟩
theorem Bf.imp {C' : Nat → Prop} (h : Bf w q ink S st L n C) (hC : ∀ b, C' b → C b) : Bf w q ink S st L n C' := ⟨h.1, h.2.1, h.2.2.1, h.2.2.2.1, fun b hb => h.2.2.2.2 b (hC b hb)⟩
theorem Bf.done (h : Bf w q ink S st L n (Bn w q L n)) (hst : ink st) (hS : ∀ a b, ink a → nbr w q a b → ink b → ¬ S a → ¬ S b) (k : Nat) : mem L n k ↔ Conn w q ink st k := by
  obtain ⟨h1, h2, h3, h4, h5⟩ := h
  constructor
  · rintro ⟨j, k1, rfl⟩; exact (h4 j k1).2.2.2
  · intro hc
    refine hc (mem L n) ⟨0, by omega, h2⟩ ?_
    rintro x y ⟨j, k1, rfl⟩ hn hy
    obtain ⟨a1, a2, a3, a4⟩ := h4 j k1
    exact h5 y ⟨j, k1, hn⟩ hn.lt.2 hy (hS _ _ a2 hn hy a3)
/-- a room for one more -/
theorem Bf.room {b : Nat} (h : Bf w q ink S st L n C) (hg : g < n) (hb : nbr w q (L g) b) (hn : ink b ∧ ¬ S b ∧ ¬ mem L n b) : n < w * q := by
  have := (h.try hg hb (Or.inl ⟨hn, rfl, rfl⟩)).le
  omega
/-- all beside one dot -/
theorem nbr4 {x y b : Nat} (hx : x < w) (hy : y < q) (h : nbr w q (y * w + x) b) : (0 < x ∧ b = y * w + (x - 1)) ∨ (x + 1 < w ∧ b = y * w + (x + 1)) ∨ (0 < y ∧ b = (y - 1) * w + x) ∨ (y + 1 < q ∧ b = (y + 1) * w + x) := by
  obtain ⟨x1, y1, x2, y2, h1, h2, h3, h4, h5, rfl, h7⟩ := h
  obtain ⟨rfl, rfl⟩ := ix_inj hx h1 h5
  rcases h7 with ⟨rfl, h | h⟩ | ⟨rfl, h | h⟩
  · subst h; exact Or.inr (Or.inl ⟨h3, rfl⟩)
  · subst h; exact Or.inl ⟨by omega, rfl⟩
  · subst h; exact Or.inr (Or.inr (Or.inr ⟨h4, rfl⟩))
  · subst h; exact Or.inr (Or.inr (Or.inl ⟨by omega, rfl⟩))
theorem nbr_l {x y : Nat} (hx : x < w) (hy : y < q) (h : 0 < x) : nbr w q (y * w + x) (y * w + (x - 1)) := ⟨x, y, x - 1, y, hx, hy, by omega, hy, rfl, rfl, by omega⟩
theorem nbr_r {x y : Nat} (hx : x + 1 < w) (hy : y < q) : nbr w q (y * w + x) (y * w + (x + 1)) := ⟨x, y, x + 1, y, by omega, hy, hx, hy, rfl, rfl, by omega⟩
theorem nbr_u {x y : Nat} (hx : x < w) (hy : y < q) (h : 0 < y) : nbr w q (y * w + x) ((y - 1) * w + x) := ⟨x, y, x, y - 1, hx, hy, hx, by omega, rfl, rfl, by omega⟩
theorem nbr_d {x y : Nat} (hx : x < w) (hy : y + 1 < q) : nbr w q (y * w + x) ((y + 1) * w + x) := ⟨x, y, x, y + 1, hx, by omega, hx, hy, rfl, rfl, by omega⟩
end BF
/-! few first dots: no two of them stand side by side -/
theorem st_apart {w q x y : Nat} {ink : Nat → Prop} (hx : x + 1 < w) (hy : y < q) (h1 : isSt w q ink (y * w + x)) (h2 : isSt w q ink (y * w + (x + 1))) : False := h2.2.2 _ (by omega) h1.2.1 (Conn.rf.step (nbr_r hx hy) h2.2.1)
theorem st_row {w q y n0 : Nat} {ink m : Nat → Prop} (hm : ∀ k, m k → isSt w q ink k) (hy : y < q) (h0 : gs m (fun _ => 1) (y * w) ≤ n0) : ∀ x, x ≤ w → gs m (fun _ => 1) (y * w + x) ≤ n0 + (x + 1) / 2 ∧ ((x = 0 ∨ ¬ m (y * w + (x - 1))) → gs m (fun _ => 1) (y * w + x) ≤ n0 + x / 2)
  | 0, _ => ⟨by show gs m _ (y * w) ≤ _; omega, fun _ => by show gs m _ (y * w) ≤ _; omega⟩
  | x + 1, hx => by
    obtain ⟨h1, h2⟩ := st_row hm hy h0 x (by omega)
    have e : y * w + (x + 1) = y * w + x + 1 := rfl
    rw [e]
    by_cases c : m (y * w + x)
    · rw [gs_t c]
      refine ⟨?_, fun h => ?_⟩
      · have := h2 (by
          rcases Nat.eq_zero_or_pos x with z | z
          · exact Or.inl z
          · refine Or.inr fun h3 => ?_
            have k1 := hm _ h3
            have k2 := hm _ c
            rw [show y * w + x = y * w + ((x - 1) + 1) by omega] at k2
            exact st_apart (by omega) hy k1 k2)
        omega
      · rcases h with h | h
        · omega
        · exact absurd c h
    · rw [gs_f c]
      exact ⟨by omega, fun _ => by omega⟩
theorem st_few {w q : Nat} {ink m : Nat → Prop} (hw : w ≤ 40) (hm : ∀ k, m k → isSt w q ink k) : ∀ y, y ≤ q → gs m (fun _ => 1) (y * w) ≤ 20 * y
  | 0, _ => by rw [Nat.zero_mul]; exact Nat.le_refl _
  | y + 1, hy => by
    have h := (st_row hm (show y < q by omega) (st_few hw hm y (by omega)) w (Nat.le_refl _)).1
    have e : (y + 1) * w = y * w + w := by rw [Nat.add_mul, Nat.one_mul]
    rw [e]; omega
theorem st_800 {w q k : Nat} {ink m : Nat → Prop} (hw : w ≤ 40) (hq : q ≤ 40) (hm : ∀ k, m k → isSt w q ink k) (hk : isSt w q ink k) : gs m (fun _ => 1) k < 800 := by
  obtain ⟨x, y, hx, hy, rfl⟩ := of_ix hk.1
  have h := (st_row hm hy (st_few hw hm y (by omega)) x (by omega)).2 (by
    rcases Nat.eq_zero_or_pos x with z | z
    · exact Or.inl z
    · refine Or.inr fun h3 => ?_
      have k1 := hm _ h3
      rw [show y * w + x = y * w + ((x - 1) + 1) by omega] at hk
      exact st_apart (by omega) hy k1 hk)
  omega
/-- the number of each -/
theorem gs_at {m : Nat → Prop} : ∀ N b, b < gs m (fun _ => 1) N → ∃ k, k < N ∧ m k ∧ gs m (fun _ => 1) k = b
  | 0, b, h => absurd h (by show ¬ b < 0; omega)
  | N + 1, b, h => by
    by_cases c : m N
    · rw [gs_t c] at h
      by_cases e : b = gs m (fun _ => 1) N
      · exact ⟨N, by omega, c, e.symm⟩
      · obtain ⟨k, h1, h2, h3⟩ := gs_at (m := m) N b (by omega)
        exact ⟨k, by omega, h2, h3⟩
    · rw [gs_f c] at h
      obtain ⟨k, h1, h2, h3⟩ := gs_at N b h
      exact ⟨k, by omega, h2, h3⟩
/-! least and greatest over a set -/
def isMn (m : Nat → Prop) (f : Nat → Nat) (v : Nat) : Prop := (∃ k, m k ∧ f k = v) ∧ ∀ k, m k → v ≤ f k
def isMx (m : Nat → Prop) (f : Nat → Nat) (v : Nat) : Prop := (∃ k, m k ∧ f k = v) ∧ ∀ k, m k → f k ≤ v
noncomputable def mnV (m : Nat → Prop) (f : Nat → Nat) : Nat := Classical.epsilon fun v => isMn m f v
noncomputable def mxV (m : Nat → Prop) (f : Nat → Nat) : Nat := Classical.epsilon fun v => isMx m f v
theorem mnV_eq {m : Nat → Prop} {f : Nat → Nat} {v : Nat} (h : isMn m f v) : mnV m f = v := by
  have h2 := Classical.epsilon_spec (p := fun v => isMn m f v) ⟨v, h⟩
  obtain ⟨⟨k, a1, a2⟩, a3⟩ := h
  obtain ⟨⟨j, b1, b2⟩, b3⟩ := h2
  have := a3 j b1
  have := b3 k a1
  unfold mnV; omega
theorem mxV_eq {m : Nat → Prop} {f : Nat → Nat} {v : Nat} (h : isMx m f v) : mxV m f = v := by
  have h2 := Classical.epsilon_spec (p := fun v => isMx m f v) ⟨v, h⟩
  obtain ⟨⟨k, a1, a2⟩, a3⟩ := h
  obtain ⟨⟨j, b1, b2⟩, b3⟩ := h2
  have := a3 j b1
  have := b3 k a1
  unfold mxV; omega
