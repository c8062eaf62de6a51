/-! from 36.ink of the class-and-reference proof: what speaks of the class alone -/
/-! Ink that hangs together, by sets alone: no machine here. -/
def nbr (w q a b : Nat) : Prop := ∃ x y x' y', x < w ∧ y < q ∧ x' < w ∧ y' < q ∧ a = y * w + x ∧ b = y' * w + x' ∧ ((y = y' ∧ (x + 1 = x' ∨ x' + 1 = x)) ∨ (x = x' ∧ (y + 1 = y' ∨ y' + 1 = y)))
section COMP
variable {w q : Nat} {ink S : Nat → Prop} {a b c : Nat}
theorem nbr.sym (h : nbr w q a b) : nbr w q b a := by
  obtain ⟨x, y, x', y', h1, h2, h3, h4, h5, h6, h7⟩ := h
  exact ⟨x', y', x, y, h3, h4, h1, h2, h6, h5, by omega⟩
theorem nbr.lt (h : nbr w q a b) : a < w * q ∧ b < w * q := by
  obtain ⟨x, y, x', y', h1, h2, h3, h4, rfl, rfl, h7⟩ := h
  exact ⟨cell_lt h1 h2, cell_lt h3 h4⟩
def Conn (w q : Nat) (ink : Nat → Prop) (a b : Nat) : Prop := ∀ T : Nat → Prop, T a → (∀ x y, T x → nbr w q x y → ink y → T y) → T b
theorem Conn.rf : Conn w q ink a a := fun T h _ => h
theorem Conn.step (h : Conn w q ink a b) (hn : nbr w q b c) (hc : ink c) : Conn w q ink a c := fun T h1 h2 => h2 b c (h T h1 h2) hn hc
theorem Conn.tr (h1 : Conn w q ink a b) (h2 : Conn w q ink b c) : Conn w q ink a c := fun T ha hT => h2 T (h1 T ha hT) hT
theorem Conn.sym (ha : ink a) (h : Conn w q ink a b) : Conn w q ink b a :=
  (h (fun y => ink y ∧ Conn w q ink y a) ⟨ha, Conn.rf⟩ (fun x y hx hn hy => ⟨hy, (Conn.rf.step hn.sym hx.1).tr hx.2⟩)).2
theorem Conn.inked (ha : ink a) (h : Conn w q ink a b) : ink b := h ink ha fun _ _ _ _ hy => hy
theorem Conn.lt (ha : a < w * q) (h : Conn w q ink a b) : b < w * q := h (fun y => y < w * q) ha fun _ _ _ hn _ => hn.lt.2
def isSt (w q : Nat) (ink : Nat → Prop) (k : Nat) : Prop := k < w * q ∧ ink k ∧ ∀ j, j < k → ink j → ¬ Conn w q ink j k
def Sn (w q : Nat) (ink : Nat → Prop) (i k : Nat) : Prop := ∃ j, j < i ∧ j < w * q ∧ ink j ∧ Conn w q ink j k
theorem Sn.cl {i : Nat} (ha : ink a) (hn : nbr w q a b) (hb : ink b) (h : ¬ Sn w q ink i a) : ¬ Sn w q ink i b := fun ⟨j, h1, h2, h3, h4⟩ => h ⟨j, h1, h2, h3, h4.step hn.sym ha⟩
theorem Sn.st {i : Nat} (hi : i < w * q) : isSt w q ink i ↔ ink i ∧ ¬ Sn w q ink i i :=
  ⟨fun ⟨_, h2, h3⟩ => ⟨h2, fun ⟨j, k1, _, k3, k4⟩ => h3 j k1 k3 k4⟩, fun ⟨h1, h2⟩ => ⟨hi, h1, fun j k1 k3 k4 => h2 ⟨j, k1, by omega, k3, k4⟩⟩⟩
theorem Sn.s {i k : Nat} (hi : i < w * q) : Sn w q ink (i + 1) k ↔ Sn w q ink i k ∨ (ink i ∧ Conn w q ink i k) := by
  constructor
  · rintro ⟨j, h1, h2, h3, h4⟩
    by_cases c : j = i
    · subst c; exact Or.inr ⟨h3, h4⟩
    · exact Or.inl ⟨j, by omega, h2, h3, h4⟩
  · rintro (⟨j, h1, h2, h3, h4⟩ | ⟨h1, h2⟩)
    · exact ⟨j, by omega, h2, h3, h4⟩
    · exact ⟨i, by omega, hi, h1, h2⟩
theorem Sn.same {i k : Nat} (hi : i < w * q) (h : ¬ isSt w q ink i) : Sn w q ink (i + 1) k ↔ Sn w q ink i k := by
  rw [Sn.s hi]
  constructor
  · rintro (h1 | ⟨h1, h2⟩)
    · exact h1
    · rw [Sn.st hi] at h
      have h3 : Sn w q ink i i := Classical.byContradiction fun q => h ⟨h1, q⟩
      obtain ⟨j, k1, k2, k3, k4⟩ := h3
      exact ⟨j, k1, k2, k3, k4.tr h2⟩
  · exact Or.inl
end COMP
/-! numbers over sets -/
noncomputable def gs (m : Nat → Prop) (f : Nat → Nat) : Nat → Nat
  | 0 => 0
  | k + 1 => gs m f k + @ite _ (m k) (Classical.propDecidable _) (f k) 0
section GS
variable {m m' : Nat → Prop} {f : Nat → Nat}
theorem gs_t {k : Nat} (h : m k) : gs m f (k + 1) = gs m f k + f k := by
  show gs m f k + @ite _ (m k) (Classical.propDecidable _) (f k) 0 = _
  rw [if_pos h]
theorem gs_f {k : Nat} (h : ¬ m k) : gs m f (k + 1) = gs m f k := by
  show gs m f k + @ite _ (m k) (Classical.propDecidable _) (f k) 0 = _
  rw [if_neg h]; rfl
theorem gs_congr : ∀ N, (∀ k, k < N → (m k ↔ m' k)) → gs m f N = gs m' f N
  | 0, _ => rfl
  | N + 1, h => by
    have ih := gs_congr N fun k hk => h k (by omega)
    by_cases c : m N
    · rw [gs_t c, gs_t ((h N (by omega)).mp c), ih]
    · rw [gs_f c, gs_f fun e => c ((h N (by omega)).mpr e), ih]
theorem gs_add {a : Nat} (hm : ¬ m a) (h : ∀ k, m' k ↔ m k ∨ k = a) : ∀ N, a < N → gs m' f N = gs m f N + f a
  | 0, ha => absurd ha (by omega)
  | N + 1, ha => by
    by_cases e : a = N
    · subst e
      rw [gs_t ((h a).mpr (Or.inr rfl)), gs_f hm, gs_congr (m := m') (m' := m) a fun k hk => ⟨fun h1 => ((h k).mp h1).resolve_right (by omega), fun h1 => (h k).mpr (Or.inl h1)⟩]
    · have ih := gs_add hm h N (by omega)
      by_cases c : m N
      · rw [gs_t c, gs_t ((h N).mpr (Or.inl c)), ih]; omega
      · rw [gs_f c, gs_f fun e1 => ((h N).mp e1).elim c fun e2 => e e2.symm, ih]
theorem gs_le : ∀ N, gs m (fun _ => 1) N ≤ N
  | 0 => Nat.le_refl _
  | N + 1 => by
    have := gs_le N
    by_cases c : m N
    · rw [gs_t c]; omega
    · rw [gs_f c]; omega
theorem gs_none : ∀ N, (∀ k, k < N → ¬ m k) → gs m f N = 0
  | 0, _ => rfl
  | N + 1, h => by rw [gs_f (h N (by omega))]; exact gs_none N fun k hk => h k (by omega)
theorem gs_mono {M : Nat} : ∀ N, M ≤ N → gs m f M ≤ gs m f N
  | 0, h => by have : M = 0 := by omega
               subst this; exact Nat.le_refl _
  | N + 1, h => by
    by_cases e : M = N + 1
    · subst e; exact Nat.le_refl _
    · have := gs_mono N (show M ≤ N by omega)
      by_cases c : m N
      · rw [gs_t c]; omega
      · rw [gs_f c]; exact this
end GS
def mem (L : Nat → Nat) (n k : Nat) : Prop := ∃ j, j < n ∧ L j = k
def ls (L f : Nat → Nat) : Nat → Nat
  | 0 => 0
  | n + 1 => ls L f n + f (L n)
theorem ls_gs {L f : Nat → Nat} {N : Nat} : ∀ n, (∀ i j, i < n → j < n → L i = L j → i = j) → (∀ i, i < n → L i < N) → ls L f n = gs (mem L n) f N
  | 0, _, _ => (gs_none N fun k _ h => by obtain ⟨j, h1, _⟩ := h; omega).symm
  | n + 1, h1, h2 => by
    have ih := ls_gs (f := f) n (fun i j hi hj => h1 i j (by omega) (by omega)) fun i hi => h2 i (by omega)
    rw [gs_add (m := mem L n) (a := L n) (fun ⟨j, k1, k2⟩ => by have := h1 j n (by omega) (by omega) k2; omega) (fun k => ⟨fun ⟨j, k1, k2⟩ => by
      by_cases c : j = n
      · subst c; exact Or.inr k2.symm
      · exact Or.inl ⟨j, by omega, k2⟩, fun h => h.elim (fun ⟨j, k1, k2⟩ => ⟨j, by omega, k2⟩) fun e => ⟨n, by omega, e.symm⟩⟩) N (h2 n (by omega)), ← ih]
    rfl
theorem ls_1 (L : Nat → Nat) : ∀ n, ls L (fun _ => 1) n = n
  | 0 => rfl
  | n + 1 => by show ls L (fun _ => 1) n + 1 = n + 1; rw [ls_1 L n]
/-! a row of dots that hang together, as it grows -/
def Bf (w q : Nat) (ink S : Nat → Prop) (st : Nat) (L : Nat → Nat) (n : Nat) (C : Nat → Prop) : Prop :=
  1 ≤ n ∧ L 0 = st ∧ (∀ i j, i < n → j < n → L i = L j → i = j) ∧ (∀ i, i < n → L i < w * q ∧ ink (L i) ∧ ¬ S (L i) ∧ Conn w q ink st (L i)) ∧ ∀ b, C b → b < w * q → ink b → ¬ S b → mem L n b
def Bn (w q : Nat) (L : Nat → Nat) (g b : Nat) : Prop := ∃ i, i < g ∧ nbr w q (L i) b
section BF
variable {w q st n g : Nat} {ink S C : Nat → Prop} {L : Nat → Nat}
theorem Bf.init (h1 : st < w * q) (h2 : ink st) (h3 : ¬ S st) (hL : L 0 = st) : Bf w q ink S st L 1 (fun b => Bn w q L 0 b) := ⟨Nat.le_refl _, hL, fun i j hi hj _ => by omega, fun i hi => by
    have : i = 0 := by omega
    subst this
    rw [hL]; exact ⟨h1, h2, h3, Conn.rf⟩, fun b hb => by obtain ⟨i, h, _⟩ := hb; omega⟩
theorem Bf.le (h : Bf w q ink S st L n C) : n ≤ w * q := by
  have e := ls_gs (L := L) (f := fun _ => 1) (N := w * q) n h.2.2.1 fun i hi => (h.2.2.2.1 i hi).1
  rw [ls_1] at e
  have := gs_le (m := mem L n) (w * q)
  omega
def Tr (ink S : Nat → Prop) (b : Nat) (L : Nat → Nat) (n : Nat) (L' : Nat → Nat) (n' : Nat) : Prop :=
  ((ink b ∧ ¬ S b ∧ ¬ mem L n b) ∧ n' = n + 1 ∧ L' = fun j => if j = n then b else L j) ∨ (¬ (ink b ∧ ¬ S b ∧ ¬ mem L n b) ∧ n' = n ∧ L' = L)
theorem Tr.keep {b n' : Nat} {L' : Nat → Nat} (h : Tr ink S b L n L' n') : n ≤ n' ∧ (∀ j, j < n → L' j = L j) ∧ ∀ k, mem L' n' k ↔ mem L n k ∨ (k = b ∧ ink b ∧ ¬ S b) := by
  rcases h with ⟨⟨h1, h2, h3⟩, rfl, rfl⟩ | ⟨h1, rfl, rfl⟩
  · refine ⟨by omega, fun j hj => if_neg (by omega), fun k => ⟨fun ⟨j, k1, k2⟩ => ?_, fun h => ?_⟩⟩
    · dsimp only at k2
      by_cases c : j = n
      · rw [if_pos c] at k2; exact Or.inr ⟨k2.symm, h1, h2⟩
      · rw [if_neg c] at k2; exact Or.inl ⟨j, by omega, k2⟩
    · rcases h with ⟨j, k1, k2⟩ | ⟨rfl, -, -⟩
      · exact ⟨j, by omega, by dsimp only; rw [if_neg (by omega)]; exact k2⟩
      · exact ⟨n, by omega, if_pos rfl⟩
  · refine ⟨Nat.le_refl _, fun _ _ => rfl, fun k => ⟨Or.inl, fun h => h.elim id fun ⟨e, h2, h3⟩ => ?_⟩⟩
    subst e
    exact Classical.byContradiction fun q => h1 ⟨h2, h3, q⟩
theorem Bf.try {b n' : Nat} {L' : Nat → Nat} (h : Bf w q ink S st L n C) (hg : g < n) (hb : nbr w q (L g) b) (ht : Tr ink S b L n L' n') : Bf w q ink S st L' n' fun k => C k ∨ k = b := by
  obtain ⟨h1, h2, h3, h4, h5⟩ := h
  obtain ⟨t1, t2, t3⟩ := ht.keep
  refine ⟨by omega, by rw [t2 0 (by omega)]; exact h2, ?_, ?_, fun k hk k1 k2 k3 => ?_⟩
  · rcases ht with ⟨⟨i1, i2, i3⟩, rfl, rfl⟩ | ⟨i1, rfl, rfl⟩
    · intro i j hi hj e
      dsimp only at e
      by_cases ci : i = n
      · by_cases cj : j = n
        · omega
        · rw [if_pos ci, if_neg cj] at e
          exact absurd ⟨j, by omega, e.symm⟩ i3
      · by_cases cj : j = n
        · rw [if_neg ci, if_pos cj] at e
          exact absurd ⟨i, by omega, e⟩ i3
        · rw [if_neg ci, if_neg cj] at e
          exact h3 i j (by omega) (by omega) e
    · exact h3
  · rcases ht with ⟨⟨i1, i2, i3⟩, rfl, rfl⟩ | ⟨i1, rfl, rfl⟩
    · intro i hi
      dsimp only
      by_cases ci : i = n
      · rw [if_pos ci]; exact ⟨hb.lt.2, i1, i2, (h4 g hg).2.2.2.step hb i1⟩
      · rw [if_neg ci]; exact h4 i (by omega)
    · exact h4
  · rw [t3]
    rcases hk with hk | rfl
    · exact Or.inl (h5 k hk k1 k2 k3)
    · exact Or.inr ⟨rfl, k2, k3⟩
theorem Bf.imp {C' : Nat → Prop} (h : Bf w q ink S st L n C) (hC : ∀ b, C' b → C b) : Bf w q ink S st L n C' := ⟨h.1, h.2.1, h.2.2.1, h.2.2.2.1, fun b hb => h.2.2.2.2 b (hC b hb)⟩
theorem Bf.done (h : Bf w q ink S st L n (Bn w q L n)) (hst : ink st) (hS : ∀ a b, ink a → nbr w q a b → ink b → ¬ S a → ¬ S b) (k : Nat) : mem L n k ↔ Conn w q ink st k := by
  obtain ⟨h1, h2, h3, h4, h5⟩ := h
  constructor
  · rintro ⟨j, k1, rfl⟩; exact (h4 j k1).2.2.2
  · intro hc
    refine hc (mem L n) ⟨0, by omega, h2⟩ ?_
    rintro x y ⟨j, k1, rfl⟩ hn hy
    obtain ⟨a1, a2, a3, a4⟩ := h4 j k1
    exact h5 y ⟨j, k1, hn⟩ hn.lt.2 hy (hS _ _ a2 hn hy a3)
theorem Bf.room {b : Nat} (h : Bf w q ink S st L n C) (hg : g < n) (hb : nbr w q (L g) b) (hn : ink b ∧ ¬ S b ∧ ¬ mem L n b) : n < w * q := by
  have := (h.try hg hb (Or.inl ⟨hn, rfl, rfl⟩)).le
  omega
theorem nbr4 {x y b : Nat} (hx : x < w) (hy : y < q) (h : nbr w q (y * w + x) b) : (0 < x ∧ b = y * w + (x - 1)) ∨ (x + 1 < w ∧ b = y * w + (x + 1)) ∨ (0 < y ∧ b = (y - 1) * w + x) ∨ (y + 1 < q ∧ b = (y + 1) * w + x) := by
  obtain ⟨x1, y1, x2, y2, h1, h2, h3, h4, h5, rfl, h7⟩ := h
  obtain ⟨rfl, rfl⟩ := ix_inj hx h1 h5
  rcases h7 with ⟨rfl, h | h⟩ | ⟨rfl, h | h⟩
  · subst h; exact Or.inr (Or.inl ⟨h3, rfl⟩)
  · subst h; exact Or.inl ⟨by omega, rfl⟩
  · subst h; exact Or.inr (Or.inr (Or.inr ⟨h4, rfl⟩))
  · subst h; exact Or.inr (Or.inr (Or.inl ⟨by omega, rfl⟩))
theorem nbr_l {x y : Nat} (hx : x < w) (hy : y < q) (h : 0 < x) : nbr w q (y * w + x) (y * w + (x - 1)) := ⟨x, y, x - 1, y, hx, hy, by omega, hy, rfl, rfl, by omega⟩
theorem nbr_r {x y : Nat} (hx : x + 1 < w) (hy : y < q) : nbr w q (y * w + x) (y * w + (x + 1)) := ⟨x, y, x + 1, y, by omega, hy, hx, hy, rfl, rfl, by omega⟩
theorem nbr_u {x y : Nat} (hx : x < w) (hy : y < q) (h : 0 < y) : nbr w q (y * w + x) ((y - 1) * w + x) := ⟨x, y, x, y - 1, hx, hy, hx, by omega, rfl, rfl, by omega⟩
theorem nbr_d {x y : Nat} (hx : x < w) (hy : y + 1 < q) : nbr w q (y * w + x) ((y + 1) * w + x) := ⟨x, y, x, y + 1, hx, by omega, hx, hy, rfl, rfl, by omega⟩
end BF
/-! few first dots: no two of them stand side by side -/
theorem st_apart {w q x y : Nat} {ink : Nat → Prop} (hx : x + 1 < w) (hy : y < q) (h1 : isSt w q ink (y * w + x)) (h2 : isSt w q ink (y * w + (x + 1))) : False := h2.2.2 _ (by omega) h1.2.1 (Conn.rf.step (nbr_r hx hy) h2.2.1)
theorem st_row {w q y n0 : Nat} {ink m : Nat → Prop} (hm : ∀ k, m k → isSt w q ink k) (hy : y < q) (h0 : gs m (fun _ => 1) (y * w) ≤ n0) : ∀ x, x ≤ w → gs m (fun _ => 1) (y * w + x) ≤ n0 + (x + 1) / 2 ∧ ((x = 0 ∨ ¬ m (y * w + (x - 1))) → gs m (fun _ => 1) (y * w + x) ≤ n0 + x / 2)
  | 0, _ => ⟨by show gs m _ (y * w) ≤ _; omega, fun _ => by show gs m _ (y * w) ≤ _; omega⟩
  | x + 1, hx => by
    obtain ⟨h1, h2⟩ := st_row hm hy h0 x (by omega)
    have e : y * w + (x + 1) = y * w + x + 1 := rfl
    rw [e]
    by_cases c : m (y * w + x)
    · rw [gs_t c]
      refine ⟨?_, fun h => ?_⟩
      · have := h2 (by
          rcases Nat.eq_zero_or_pos x with z | z
          · exact Or.inl z
          · refine Or.inr fun h3 => ?_
            have k1 := hm _ h3
            have k2 := hm _ c
            rw [show y * w + x = y * w + ((x - 1) + 1) by omega] at k2
            exact st_apart (by omega) hy k1 k2)
        omega
      · rcases h with h | h
        · omega
        · exact absurd c h
    · rw [gs_f c]
      exact ⟨by omega, fun _ => by omega⟩
theorem st_few {w q : Nat} {ink m : Nat → Prop} (hw : w ≤ 40) (hm : ∀ k, m k → isSt w q ink k) : ∀ y, y ≤ q → gs m (fun _ => 1) (y * w) ≤ 20 * y
  | 0, _ => by rw [Nat.zero_mul]; exact Nat.le_refl _
  | y + 1, hy => by
    have h := (st_row hm (show y < q by omega) (st_few hw hm y (by omega)) w (Nat.le_refl _)).1
    have e : (y + 1) * w = y * w + w := by rw [Nat.add_mul, Nat.one_mul]
    rw [e]; omega
theorem st_800 {w q k : Nat} {ink m : Nat → Prop} (hw : w ≤ 40) (hq : q ≤ 40) (hm : ∀ k, m k → isSt w q ink k) (hk : isSt w q ink k) : gs m (fun _ => 1) k < 800 := by
  obtain ⟨x, y, hx, hy, rfl⟩ := of_ix hk.1
  have h := (st_row hm hy (st_few hw hm y (by omega)) x (by omega)).2 (by
    rcases Nat.eq_zero_or_pos x with z | z
    · exact Or.inl z
    · refine Or.inr fun h3 => ?_
      have k1 := hm _ h3
      rw [show y * w + x = y * w + ((x - 1) + 1) by omega] at hk
      exact st_apart (by omega) hy k1 hk)
  omega
theorem gs_at {m : Nat → Prop} : ∀ N b, b < gs m (fun _ => 1) N → ∃ k, k < N ∧ m k ∧ gs m (fun _ => 1) k = b
  | 0, b, h => absurd h (by show ¬ b < 0; omega)
  | N + 1, b, h => by
    by_cases c : m N
    · rw [gs_t c] at h
      by_cases e : b = gs m (fun _ => 1) N
      · exact ⟨N, by omega, c, e.symm⟩
      · obtain ⟨k, h1, h2, h3⟩ := gs_at (m := m) N b (by omega)
        exact ⟨k, by omega, h2, h3⟩
    · rw [gs_f c] at h
      obtain ⟨k, h1, h2, h3⟩ := gs_at N b h
      exact ⟨k, by omega, h2, h3⟩
/-! least and greatest over a set -/
def isMn (m : Nat → Prop) (f : Nat → Nat) (v : Nat) : Prop := (∃ k, m k ∧ f k = v) ∧ ∀ k, m k → v ≤ f k
def isMx (m : Nat → Prop) (f : Nat → Nat) (v : Nat) : Prop := (∃ k, m k ∧ f k = v) ∧ ∀ k, m k → f k ≤ v
noncomputable def mnV (m : Nat → Prop) (f : Nat → Nat) : Nat := Classical.epsilon fun v => isMn m f v
noncomputable def mxV (m : Nat → Prop) (f : Nat → Nat) : Nat := Classical.epsilon fun v => isMx m f v
theorem mnV_eq {m : Nat → Prop} {f : Nat → Nat} {v : Nat} (h : isMn m f v) : mnV m f = v := by
  have h2 := Classical.epsilon_spec (p := fun v => isMn m f v) ⟨v, h⟩
  obtain ⟨⟨k, a1, a2⟩, a3⟩ := h
  obtain ⟨⟨j, b1, b2⟩, b3⟩ := h2
  have := a3 j b1
  have := b3 k a1
  unfold mnV; omega
theorem mxV_eq {m : Nat → Prop} {f : Nat → Nat} {v : Nat} (h : isMx m f v) : mxV m f = v := by
  have h2 := Classical.epsilon_spec (p := fun v => isMx m f v) ⟨v, h⟩
  obtain ⟨⟨k, a1, a2⟩, a3⟩ := h
  obtain ⟨⟨j, b1, b2⟩, b3⟩ := h2
  have := a3 j b1
  have := b3 k a1
  unfold mxV; omega

/-! from 37.gather of the class-and-reference proof: what speaks of the class alone -/
/-! The class's blobs: one row of dots gathered. -/
section WPV
variable {A B R : Type} {P : R → Prop}
theorem wp_vk {j : A → B → Option R} {f : (A → B → Option R) → Option R} (K : A → B → Prop) (hj : ∀ a b, K a b → WP (j a b) P) (hf : ∀ j' : A → B → Option R, (∀ a b, K a b → WP (j' a b) P) → WP (f j') P) : WP (vthen j f) P := hf j hj
theorem wp_vk1 {j : A → Option R} {f : (A → Option R) → Option R} (K : A → Prop) (hj : ∀ a, K a → WP (j a) P) (hf : ∀ j' : A → Option R, (∀ a, K a → WP (j' a) P) → WP (f j') P) : WP (vthen j f) P := hf j hj
theorem wp_v {x : A} {f : A → Option R} (h : WP (f x) P) : WP (vthen x f) P := h
end WPV
def M7 (σg : SS) (S : Nat → Prop) (L : Nat → Nat) (n : Nat) (σ' : SS) : Prop := gR σ' = gR σg ∧ (∀ c k, c ≠ 42 → c ≠ 43 → gI σ' c k = gI σg c k) ∧ (∀ j, j < n → gI σ' 42 j = nI (L j)) ∧ ∀ k, k < 1600 → (gI σ' 43 k = 0 ↔ ¬ (S k ∨ mem L n k))
section GATHER
variable {σg : SS} {s w q st : Nat} {lvl : Int32} {ink S : Nat → Prop}
theorem join7 {σ' : SS} {L : Nat → Nat} {n b : Nat} (hs : s = 3 ∨ s = 6) (hN : w * q ≤ 1600) (hink : ∀ k, k < w * q → ¬ S k → (lvl ≤ gI σg (s + 1) k ↔ ink k)) (hm : M7 σg S L n σ') (hb : b < w * q) (hn : n ≤ 1600) (hr : ink b ∧ ¬ S b ∧ ¬ mem L n b → n < 1600) : ∃ L' n' σ'', fX0_join σ' s lvl (nI b) (nI n) = some (nI n', σ'') ∧ Tr ink S b L n L' n' ∧ M7 σg S L' n' σ'' := by
  obtain ⟨m1, m2, m3, m4⟩ := hm
  have h43 := m4 b (by omega)
  unfold fX0_join
  simp only [vthen_q]
  rw [if_neg (nI_pos (by omega)), if_neg (by show ¬ nI 1600 ≤ nI b; exact nI_ge (by omega) (by decide))]
  by_cases c1 : n = 1600
  · rw [if_pos (by show nI 1600 ≤ nI n; exact nI_le (by omega) (by omega))]
    exact ⟨L, n, σ', rfl, Or.inr ⟨fun h => by have := hr h; omega, rfl, rfl⟩, m1, m2, m3, m4⟩
  rw [if_neg (by show ¬ nI 1600 ≤ nI n; exact nI_ge (by omega) (by decide)), grd_eq _ (inb_nI (by omega) (by decide)), nI_clamp (by omega), nI_clamp (by omega)]
  by_cases c2 : gI σ' 43 b = 0
  · have c3 := h43.mp c2
    rw [if_pos c2, m2 (s + 1) b (by omega) (by omega)]
    by_cases c4 : ink b
    · rw [if_pos ((hink b hb fun h => c3 (Or.inl h)).mpr c4), grd_eq _ (inb_nI (by omega) (by decide)), nI_1]
      refine ⟨_, n + 1, _, rfl, Or.inl ⟨⟨c4, fun h => c3 (Or.inl h), fun h => c3 (Or.inr h)⟩, rfl, rfl⟩, m1, fun c k k1 k2 => ?_, fun j hj => ?_, fun k hk => ?_⟩
      · rw [gI_ne k1, gI_ne k2]; exact m2 c k k1 k2
      · by_cases e : j = n
        · subst e; dsimp only; rw [gI_eq, if_pos rfl]
        · dsimp only; rw [gI_nk (by omega), gI_ne (by omega), if_neg e]; exact m3 j (by omega)
      · have hk2 : mem (fun j => if j = n then b else L j) (n + 1) k ↔ mem L n k ∨ k = b := by
          constructor
          · rintro ⟨j, k1, k2⟩
            dsimp only at k2
            by_cases e : j = n
            · rw [if_pos e] at k2; exact Or.inr k2.symm
            · rw [if_neg e] at k2; exact Or.inl ⟨j, by omega, k2⟩
          · rintro (⟨j, k1, k2⟩ | rfl)
            · exact ⟨j, by omega, by dsimp only; rw [if_neg (by omega)]; exact k2⟩
            · exact ⟨n, by omega, if_pos rfl⟩
        rw [gI_ne (by omega), hk2]
        by_cases e : k = b
        · subst e
          rw [gI_eq]
          exact ⟨fun h => absurd h (by decide), fun h => absurd (Or.inr (Or.inr rfl)) h⟩
        · rw [gI_nk (by omega), m4 k hk]
          exact ⟨fun h h2 => h2.elim (fun x => h (Or.inl x)) fun x => x.elim (fun y => h (Or.inr y)) e, fun h h2 => h2.elim (fun x => h (Or.inl x)) fun x => h (Or.inr (Or.inl x))⟩
    · rw [if_neg fun h => c4 ((hink b hb fun h => c3 (Or.inl h)).mp h)]
      exact ⟨L, n, σ', rfl, Or.inr ⟨fun h => c4 h.1, rfl, rfl⟩, m1, m2, m3, m4⟩
  · rw [if_neg c2]
    refine ⟨L, n, σ', rfl, Or.inr ⟨fun h => ?_, rfl, rfl⟩, m1, m2, m3, m4⟩
    exact c2 (h43.mpr fun x => x.elim h.2.1 h.2.2)
def Sg (σg : SS) (w q : Nat) (ink S : Nat → Prop) (st : Nat) (L0 : Nat → Nat) (n0 : Nat) (C : Nat → Prop) (v : Int32) (σ' : SS) : Prop := ∃ L n, v = nI n ∧ M7 σg S L n σ' ∧ Bf w q ink S st L n C ∧ n0 ≤ n ∧ ∀ j, j < n0 → L j = L0 j
theorem Sg.try {L0 : Nat → Nat} {n0 g b : Nat} {C : Nat → Prop} {v : Int32} {σ' : SS} (h : Sg σg w q ink S st L0 n0 C v σ') (hs : s = 3 ∨ s = 6) (hN : w * q ≤ 1600) (hink : ∀ k, k < w * q → ¬ S k → (lvl ≤ gI σg (s + 1) k ↔ ink k)) (hg : g < n0) (hb : nbr w q (L0 g) b) : WP (fX0_join σ' s lvl (nI b) v) (fun r => Sg σg w q ink S st L0 n0 (fun k => C k ∨ k = b) r.1 r.2) := by
  obtain ⟨L, n, rfl, h2, h3, h4, h5⟩ := h
  have hb' : nbr w q (L g) b := by rw [h5 g hg]; exact hb
  have hle := h3.le
  obtain ⟨L', n', σ'', e, ht, hm⟩ := join7 hs hN hink h2 hb.lt.2 (by omega) fun hn => by have := h3.room (by omega) hb' hn; omega
  obtain ⟨t1, t2, -⟩ := ht.keep
  exact ⟨_, e, L', n', rfl, hm, h3.try (by omega) hb' ht, by omega, fun j hj => (t2 j (by omega)).trans (h5 j hj)⟩
theorem Sg.imp {L0 : Nat → Nat} {n0 : Nat} {C C' : Nat → Prop} {v : Int32} {σ' : SS} (h : Sg σg w q ink S st L0 n0 C v σ') (hC : ∀ b, C' b → C b) : Sg σg w q ink S st L0 n0 C' v σ' := by
  obtain ⟨L, n, h1, h2, h3, h4, h5⟩ := h
  exact ⟨L, n, h1, h2, h3.imp hC, h4, h5⟩
theorem gather7 (hs : s = 3 ∨ s = 6) (hw : 1 ≤ w ∧ w ≤ 40) (hq : 1 ≤ q ∧ q ≤ 40) (e1 : gI σg s 0 = nI w) (e2 : gI σg s 1 = nI q) (hink : ∀ k, k < w * q → ¬ S k → (lvl ≤ gI σg (s + 1) k ↔ ink k)) (h0 : ∀ k, k < 1600 → (gI σg 43 k = 0 ↔ ¬ S k)) (hst : st < w * q) : WP (fX0_gather σg s lvl (nI st)) (fun r => ∃ L n, r.1 = nI n ∧ M7 σg S L n r.2 ∧ ((ink st ∧ ¬ S st) ∧ Bf w q ink S st L n (Bn w q L n) ∨ ¬ (ink st ∧ ¬ S st) ∧ n = 0)) := by
  have hN := area_le hw.2 hq.2
  have hm0 : M7 σg S (fun _ => st) 0 σg := ⟨rfl, fun _ _ _ _ => rfl, fun j hj => absurd hj (by omega), fun k hk => by rw [h0 k hk]; exact ⟨fun h h2 => h2.elim h fun ⟨j, k1, _⟩ => by omega, fun h h2 => h (Or.inl h2)⟩⟩
  obtain ⟨L1, n1, σ1, z, ht, hm1⟩ := join7 (b := st) hs hN hink hm0 hst (by omega) (fun _ => by omega)
  unfold fX0_gather fX6_size
  simp only [vthen_q]
  rw [e1, e2, nI_mul, show (0 : Int32) = nI 0 from rfl, bnd_of _ z]
  unfold X0_gather_L25
  rcases ht with ⟨hnew, rfl, rfl⟩ | ⟨hnew, rfl, rfl⟩
  · have hb1 : Bf w q ink S st (fun j => if j = 0 then st else st) (0 + 1) (fun b => Bn w q (fun j => if j = 0 then st else st) 0 b) := Bf.init hst hnew.1 hnew.2.1 (if_pos rfl)
    refine wl_3 (fun m v6 v7 σ' => ∃ L n g, m + g = w * q ∧ g ≤ n ∧ v6 = nI n ∧ v7 = nI g ∧ M7 σg S L n σ' ∧ Bf w q ink S st L n (Bn w q L g)) ?_ fuel (w * q) _ _ _ (fuel_gt (by omega)) ⟨_, _, 0, rfl, by omega, rfl, rfl, hm1, hb1⟩
    rintro m _ _ σ' ⟨L, n, g, hmg, hgn, rfl, rfl, hm, hb⟩ rec hr
    have hle := hb.le
    by_cases c : n ≤ g
    · have : g = n := by omega
      subst this
      rw [if_pos (nI_le (Nat.le_refl _) (by omega))]
      exact wp_some ⟨L, g, rfl, hm, Or.inl ⟨⟨hnew.1, hnew.2.1⟩, hb⟩⟩
    obtain ⟨a1, a2, a3, a4⟩ := hb.2.2.2.1 g (by omega)
    obtain ⟨x, y, hx, hy, exy⟩ := of_ix a1
    have hyw : (y + 1) * w ≤ q * w := Nat.mul_le_mul_right w hy
    have hyw2 : (y + 1) * w = y * w + w := by rw [Nat.add_mul, Nat.one_mul]
    have hwq : w * q = q * w := Nat.mul_comm _ _
    have hqw : q * w - w = (q - 1) * w := by rw [Nat.sub_mul, Nat.one_mul]
    rw [if_neg (nI_ge (by omega) (by omega)), if_neg (by show ¬ nI 1600 ≤ nI g; exact nI_ge (by omega) (by decide)), grd_eq _ (inb_nI (by omega) (by decide)), nI_clamp (by omega), hm.2.2.1 g (by omega), exy]
    refine wp_v ?_
    have hS0 : Sg σg w q ink S st L n (Bn w q L g) (nI n) σ' := ⟨L, n, rfl, hm, hb, Nat.le_refl _, fun _ _ => rfl⟩
    refine wp_vk1 (fun v => v = nI x) ?_ ?_
    · rintro _ rfl
      refine wp_vk (Sg σg w q ink S st L n fun b => Bn w q L g b ∨ (0 < x ∧ b = y * w + (x - 1))) ?_ ?_
      · intro v10 σ11 h1
        refine wp_vk (Sg σg w q ink S st L n fun b => (Bn w q L g b ∨ (0 < x ∧ b = y * w + (x - 1))) ∨ (x + 1 < w ∧ b = y * w + (x + 1))) ?_ ?_
        · intro v12 σ13 h2
          refine wp_vk (Sg σg w q ink S st L n fun b => ((Bn w q L g b ∨ (0 < x ∧ b = y * w + (x - 1))) ∨ (x + 1 < w ∧ b = y * w + (x + 1))) ∨ (0 < y ∧ b = (y - 1) * w + x)) ?_ ?_
          · intro v14 σ15 h3
            have fin : ∀ v σ, Sg σg w q ink S st L n (fun b => (((Bn w q L g b ∨ (0 < x ∧ b = y * w + (x - 1))) ∨ (x + 1 < w ∧ b = y * w + (x + 1))) ∨ (0 < y ∧ b = (y - 1) * w + x)) ∨ (y + 1 < q ∧ b = (y + 1) * w + x)) v σ → WP (rec v (nI g + 1) σ) (fun r => ∃ L n, r.1 = nI n ∧ M7 σg S L n r.2 ∧ ((ink st ∧ ¬ S st) ∧ Bf w q ink S st L n (Bn w q L n) ∨ ¬ (ink st ∧ ¬ S st) ∧ n = 0)) := by
              rintro _ σ5 ⟨L', n', rfl, k2, k3, k4, k5⟩
              rw [nI_1]
              refine hr (m - 1) _ _ _ (by omega) ⟨L', n', g + 1, by omega, by omega, rfl, rfl, k2, k3.imp ?_⟩
              rintro b ⟨i, hi, hbn⟩
              by_cases ci : i = g
              · subst ci
                rw [k5 i (by omega), exy] at hbn
                rcases nbr4 hx hy hbn with h | h | h | h
                · exact Or.inl (Or.inl (Or.inl (Or.inr h)))
                · exact Or.inl (Or.inl (Or.inr h))
                · exact Or.inl (Or.inr h)
                · exact Or.inr h
              · rw [k5 i (by omega)] at hbn
                exact Or.inl (Or.inl (Or.inl (Or.inl ⟨i, by omega, hbn⟩)))
            by_cases cd : y + 1 < q
            · have hq1 : (y + 1) * w ≤ (q - 1) * w := Nat.mul_le_mul_right w (by omega)
              rw [nI_sub (by omega), if_neg (nI_ge (by omega) (by omega)), nI_add, show y * w + x + w = (y + 1) * w + x by omega]
              refine wp_bnd (h3.try (g := g) hs hN hink (by omega) (by rw [exy]; exact nbr_d hx cd)) fun v σ h4 => fin v σ (h4.imp ?_)
              exact fun b hb => hb.imp id fun h => h.2
            · have hq1 : (q - 1) * w ≤ y * w := Nat.mul_le_mul_right w (by omega)
              rw [nI_sub (by omega), if_pos (nI_le (by omega) (by omega))]
              exact fin _ _ (h3.imp fun b hb => hb.elim id fun h => absurd h.1 cd)
          · intro j129 hj
            by_cases cu : 0 < y
            · have hy1 : 1 * w ≤ y * w := Nat.mul_le_mul_right w cu
              rw [Nat.one_mul] at hy1
              have e : y * w + x - w = (y - 1) * w + x := by rw [Nat.sub_mul, Nat.one_mul]; omega
              rw [if_neg (nI_nlt (by omega) (by omega)), nI_sub (by omega), e]
              exact wp_bnd (h2.try (g := g) hs hN hink (by omega) (by rw [exy]; exact nbr_u hx hy cu)) fun v σ h4 => hj v σ (h4.imp fun b hb => hb.imp id fun h => h.2)
            · have : y = 0 := by omega
              subst this
              rw [if_pos (nI_lt (by omega) (by omega))]
              exact hj _ _ (h2.imp fun b hb => hb.elim id fun h => absurd h.1 cu)
        · intro j107 hj
          by_cases cr : x + 1 < w
          · rw [show nI w - 1 = nI (w - 1) from nI_sub (a := w) (b := 1) (by omega), if_neg (nI_ge (by omega) (by omega)), nI_1]
            exact wp_bnd (h1.try (g := g) hs hN hink (by omega) (by rw [exy]; exact nbr_r cr hy)) fun v σ h4 => hj v σ (h4.imp fun b hb => hb.imp id fun h => h.2)
          · rw [show nI w - 1 = nI (w - 1) from nI_sub (a := w) (b := 1) (by omega), if_pos (nI_le (by omega) (by omega))]
            exact hj _ _ (h1.imp fun b hb => hb.elim id fun h => absurd h.1 cr)
      · intro j84 hj
        by_cases cl : 0 < x
        · rw [if_neg (nI_nle cl (by omega)), show nI (y * w + x) - 1 = nI (y * w + (x - 1)) by rw [show nI (y * w + x) - 1 = nI (y * w + x - 1) from nI_sub (a := y * w + x) (b := 1) (by omega)]; exact congrArg nI (by omega)]
          exact wp_bnd (hS0.try (g := g) hs hN hink (by omega) (by rw [exy]; exact nbr_l hx hy cl)) fun v σ h4 => hj v σ (h4.imp fun b hb => hb.imp id fun h => h.2)
        · have : x = 0 := by omega
          subst this
          rw [if_pos (by decide)]
          exact hj _ _ (hS0.imp fun b hb => hb.elim id fun h => absurd h.1 cl)
    · intro j63 hj
      rw [if_neg (nI_nle (by omega) (by omega))]
      refine wp_grd (nz_nI (by omega) (by omega)) (hj _ ?_)
      unfold irm
      rw [pk_rem (by omega) (by omega) (by omega)]
      congr 1
      rw [Nat.mul_comm, Nat.mul_add_mod, Nat.mod_eq_of_lt hx]
  · refine wl_3 (fun m v6 v7 σ' => v6 = nI 0 ∧ v7 = nI 0 ∧ σ' = σ1) ?_ fuel 0 _ _ _ (fuel_gt (by omega)) ⟨rfl, rfl, rfl⟩
    rintro m _ _ _ ⟨rfl, rfl, rfl⟩ rec hr
    rw [if_pos (by decide)]
    exact wp_some ⟨_, 0, rfl, hm1, Or.inr ⟨fun h => hnew ⟨h.1, h.2, fun ⟨j, k1, _⟩ => by omega⟩, rfl⟩⟩
end GATHER

/-! from 38.find of the class-and-reference proof: what speaks of the class alone -/
/-! The class's blobs: described, found. -/
theorem wp_bndp {α β γ : Type} {P : γ → Prop} {x : Option (α × β)} {k : α → β → Option γ} {Q : α × β → Prop} (h : WP x Q) (hk : ∀ a b, Q (a, b) → WP (k a b) P) : WP (bnd x k) P := by
  obtain ⟨⟨a, b⟩, rfl, hq⟩ := h
  exact hk a b hq
theorem wp_vv {A R : Type} {P : R → Prop} {x : A} {f : A → Option R} (h : ∀ y, y = x → WP (f y) P) : WP (vthen x f) P := h x rfl
def mnL (L f : Nat → Nat) (i0 : Nat) (n : Nat) : Nat := itr (fun j s => min s (f (L j))) i0 n
def mxL (L f : Nat → Nat) (i0 : Nat) (n : Nat) : Nat := itr (fun j s => max s (f (L j))) i0 n
theorem mnL_p {L f : Nat → Nat} {i0 : Nat} : ∀ n, mnL L f i0 n ≤ i0 ∧ (∀ j, j < n → mnL L f i0 n ≤ f (L j)) ∧ (mnL L f i0 n = i0 ∨ ∃ j, j < n ∧ mnL L f i0 n = f (L j))
  | 0 => ⟨Nat.le_refl _, fun j hj => absurd hj (by omega), Or.inl rfl⟩
  | n + 1 => by
    obtain ⟨h1, h2, h3⟩ := mnL_p (L := L) (f := f) (i0 := i0) n
    have e : mnL L f i0 (n + 1) = min (mnL L f i0 n) (f (L n)) := rfl
    rw [e]
    refine ⟨by omega, fun j hj => ?_, ?_⟩
    · by_cases c : j = n
      · subst c; omega
      · have := h2 j (by omega); omega
    · by_cases c : f (L n) ≤ mnL L f i0 n
      · exact Or.inr ⟨n, by omega, by omega⟩
      · rcases h3 with h3 | ⟨j, k1, k2⟩
        · exact Or.inl (by omega)
        · exact Or.inr ⟨j, by omega, by omega⟩
theorem mxL_p {L f : Nat → Nat} {i0 : Nat} : ∀ n, i0 ≤ mxL L f i0 n ∧ (∀ j, j < n → f (L j) ≤ mxL L f i0 n) ∧ (mxL L f i0 n = i0 ∨ ∃ j, j < n ∧ mxL L f i0 n = f (L j))
  | 0 => ⟨Nat.le_refl _, fun j hj => absurd hj (by omega), Or.inl rfl⟩
  | n + 1 => by
    obtain ⟨h1, h2, h3⟩ := mxL_p (L := L) (f := f) (i0 := i0) n
    have e : mxL L f i0 (n + 1) = max (mxL L f i0 n) (f (L n)) := rfl
    rw [e]
    refine ⟨by omega, fun j hj => ?_, ?_⟩
    · by_cases c : j = n
      · subst c; omega
      · have := h2 j (by omega); omega
    · by_cases c : mxL L f i0 n ≤ f (L n)
      · exact Or.inr ⟨n, by omega, by omega⟩
      · rcases h3 with h3 | ⟨j, k1, k2⟩
        · exact Or.inl (by omega)
        · exact Or.inr ⟨j, by omega, by omega⟩
theorem mn_of {L f : Nat → Nat} {i0 n : Nat} {m : Nat → Prop} (hm : ∀ k, mem L n k ↔ m k) (h0 : (∃ k, m k ∧ f k = i0) ∨ (1 ≤ n ∧ ∀ k, m k → f k ≤ i0)) : mnL L f i0 n = mnV m f := by
  obtain ⟨h1, h2, h3⟩ := mnL_p (L := L) (f := f) (i0 := i0) n
  refine (mnV_eq ⟨?_, fun k hk => ?_⟩).symm
  · rcases h3 with h3 | ⟨j, k1, k2⟩
    · rcases h0 with ⟨k, a1, a2⟩ | ⟨a1, a2⟩
      · exact ⟨k, a1, by omega⟩
      · have m0 := (hm (L 0)).mp ⟨0, by omega, rfl⟩
        have := a2 _ m0
        have := h2 0 (by omega)
        exact ⟨L 0, m0, by omega⟩
    · exact ⟨L j, (hm _).mp ⟨j, k1, rfl⟩, k2.symm⟩
  · obtain ⟨j, k1, rfl⟩ := (hm k).mpr hk
    exact h2 j k1
theorem mx_of {L f : Nat → Nat} {i0 n : Nat} {m : Nat → Prop} (hm : ∀ k, mem L n k ↔ m k) (h0 : (∃ k, m k ∧ f k = i0) ∨ (1 ≤ n ∧ ∀ k, m k → i0 ≤ f k)) : mxL L f i0 n = mxV m f := by
  obtain ⟨h1, h2, h3⟩ := mxL_p (L := L) (f := f) (i0 := i0) n
  refine (mxV_eq ⟨?_, fun k hk => ?_⟩).symm
  · rcases h3 with h3 | ⟨j, k1, k2⟩
    · rcases h0 with ⟨k, a1, a2⟩ | ⟨a1, a2⟩
      · exact ⟨k, a1, by omega⟩
      · have m0 := (hm (L 0)).mp ⟨0, by omega, rfl⟩
        have := a2 _ m0
        have := h2 0 (by omega)
        exact ⟨L 0, m0, by omega⟩
    · exact ⟨L j, (hm _).mp ⟨j, k1, rfl⟩, k2.symm⟩
  · obtain ⟨j, k1, rfl⟩ := (hm k).mpr hk
    exact h2 j k1
theorem rem_nI {i w : Nat} (hi : i < 2 ^ 31) (h0 : 0 < w) (hw : w < 2 ^ 31) : irm (nI i) (nI w) = nI (i % w) := pk_rem hi h0 hw
section DESC
variable {σ : SS} {b n w : Nat} {L : Nat → Nat}
def Dc (σ : SS) (w b : Nat) (L : Nat → Nat) (n : Nat) (r : SS) : Prop :=
  gI r 34 b = nI n ∧ gI r 35 b = nI (ls L (fun k => k % w) n) ∧ gI r 36 b = nI (ls L (fun k => k / w) n) ∧ gI r 37 b = nI (L 0 % w) ∧ gI r 38 b = nI (L 0 / w) ∧ gI r 39 b = nI (mnL L (fun k => k % w) (L 0 % w) n) ∧ gI r 40 b = nI (mxL L (fun k => k % w) (L 0 % w) n) ∧ gI r 41 b = nI (mxL L (fun k => k / w) (L 0 / w) n)
theorem describe7 (hw : 1 ≤ w ∧ w ≤ 40) (hn : 1 ≤ n ∧ n ≤ 1600) (hb : b < 800) (h33 : gI σ 33 0 = nI b) (h42 : ∀ j, j < n → gI σ 42 j = nI (L j)) (hL : ∀ j, j < n → L j < 1600) : WP (fX0_describe σ (nI w) (nI n)) (fun r => gR r = gR σ ∧ gI r 33 0 = nI (b + 1) ∧ Dc σ w b L n r ∧ ∀ c k, ¬ (c = 33 ∧ k = 0) → ¬ (34 ≤ c ∧ c ≤ 41 ∧ k = b) → gI r c k = gI σ c k) := by
  have l0 := hL 0 (by omega)
  have d1 : L 0 % w < 1600 := Nat.lt_of_le_of_lt (Nat.mod_le _ _) l0
  have d2 : L 0 / w < 1600 := Nat.lt_of_le_of_lt (Nat.div_le_self _ _) l0
  unfold fX0_describe
  rw [if_neg (by show ¬ nI w < nI 1; exact nI_nlt hw.1 (by omega)), if_pos (by show nI 1 ≤ nI n; exact nI_le hn.1 (by omega)), h33, nI_1]
  refine wp_vv ?_; rintro _ rfl
  refine wp_vv ?_; intro σ2 h2
  rw [nI_clamp (by omega)]
  refine wp_grd (inb_nI hb (by decide)) ?_
  refine wp_vv ?_; intro σ4 h4
  refine wp_vv ?_; intro σ5 h5
  refine wp_vv ?_; intro σ6 h6
  refine wp_grd (nz_nI (by omega) (by omega)) ?_
  have k42 : gI σ6 42 0 = nI (L 0) := by rw [h6, gI_ne (by omega), h5, gI_ne (by omega), h4, gI_ne (by omega), h2, gI_ne (by omega)]; exact h42 0 (by omega)
  rw [k42, rem_nI (by omega) (by omega) (by omega)]
  refine wp_vv ?_; intro σ8 h8
  have k42b : gI σ8 42 0 = nI (L 0) := by rw [h8, gI_ne (by omega)]; exact k42
  rw [k42b, pk_div (by omega) (by omega) (by omega)]
  refine wp_vv ?_; intro σ9 h9
  rw [show gI σ9 37 b = nI (L 0 % w) by rw [h9, gI_ne (by omega), h8, gI_eq]]
  refine wp_vv ?_; intro σ10 h10
  rw [show gI σ10 37 b = nI (L 0 % w) by rw [h10, gI_ne (by omega), h9, gI_ne (by omega), h8, gI_eq]]
  refine wp_vv ?_; intro σ11 h11
  rw [show gI σ11 38 b = nI (L 0 / w) by rw [h11, gI_ne (by omega), h10, gI_ne (by omega), h9, gI_eq]]
  refine wp_vv ?_; intro σ12 h12
  have a33 : gI σ12 33 0 = nI (b + 1) := by rw [h12, gI_ne (by omega), h11, gI_ne (by omega), h10, gI_ne (by omega), h9, gI_ne (by omega), h8, gI_ne (by omega), h6, gI_ne (by omega), h5, gI_ne (by omega), h4, gI_ne (by omega), h2, gI_eq]
  have a34 : gI σ12 34 b = nI n := by rw [h12, gI_ne (by omega), h11, gI_ne (by omega), h10, gI_ne (by omega), h9, gI_ne (by omega), h8, gI_ne (by omega), h6, gI_ne (by omega), h5, gI_ne (by omega), h4, gI_eq]
  have a35 : gI σ12 35 b = nI 0 := by rw [h12, gI_ne (by omega), h11, gI_ne (by omega), h10, gI_ne (by omega), h9, gI_ne (by omega), h8, gI_ne (by omega), h6, gI_ne (by omega), h5, gI_eq]; rfl
  have a36 : gI σ12 36 b = nI 0 := by rw [h12, gI_ne (by omega), h11, gI_ne (by omega), h10, gI_ne (by omega), h9, gI_ne (by omega), h8, gI_ne (by omega), h6, gI_eq]; rfl
  have a37 : gI σ12 37 b = nI (L 0 % w) := by rw [h12, gI_ne (by omega), h11, gI_ne (by omega), h10, gI_ne (by omega), h9, gI_ne (by omega), h8, gI_eq]
  have a38 : gI σ12 38 b = nI (L 0 / w) := by rw [h12, gI_ne (by omega), h11, gI_ne (by omega), h10, gI_ne (by omega), h9, gI_eq]
  have a39 : gI σ12 39 b = nI (L 0 % w) := by rw [h12, gI_ne (by omega), h11, gI_ne (by omega), h10, gI_eq]
  have a40 : gI σ12 40 b = nI (L 0 % w) := by rw [h12, gI_ne (by omega), h11, gI_eq]
  have a41 : gI σ12 41 b = nI (L 0 / w) := by rw [h12, gI_eq]
  have aR : gR σ12 = gR σ := by rw [h12, h11, h10, h9, h8, h6, h5, h4, h2]; rfl
  have aF : ∀ c k, ¬ (c = 33 ∧ k = 0) → ¬ (34 ≤ c ∧ c ≤ 41 ∧ k = b) → gI σ12 c k = gI σ c k := fun c k c1 c2 => by
    rw [h12, gI_nk (by omega), h11, gI_nk (by omega), h10, gI_nk (by omega), h9, gI_nk (by omega), h8, gI_nk (by omega), h6, gI_nk (by omega), h5, gI_nk (by omega), h4, gI_nk (by omega), h2, gI_nk (by omega)]
  unfold X0_describe_L114
  refine wf_2 n (fun g v s' => v = nI g ∧ gR s' = gR σ ∧ gI s' 35 b = nI (ls L (fun k => k % w) g) ∧ gI s' 36 b = nI (ls L (fun k => k / w) g) ∧ gI s' 39 b = nI (mnL L (fun k => k % w) (L 0 % w) g) ∧ gI s' 40 b = nI (mxL L (fun k => k % w) (L 0 % w) g) ∧ gI s' 41 b = nI (mxL L (fun k => k / w) (L 0 / w) g) ∧ ∀ c k, ¬ ((c = 35 ∨ c = 36 ∨ c = 39 ∨ c = 40 ∨ c = 41) ∧ k = b) → gI s' c k = gI σ12 c k) ⟨rfl, aR, a35, a36, a39, a40, a41, fun _ _ _ => rfl⟩ (by omega) ?_ ?_
  · rintro g _ s' rec hg ⟨rfl, i1, i2, i3, i4, i5, i6, i7⟩ hr
    have lg := hL g hg
    have e1 : L g % w < 1600 := Nat.lt_of_le_of_lt (Nat.mod_le _ _) lg
    have e2 : L g / w < 1600 := Nat.lt_of_le_of_lt (Nat.div_le_self _ _) lg
    have m1 := (mnL_p (L := L) (f := fun k => k % w) (i0 := L 0 % w) g).1
    have bx : ∀ (f : Nat → Nat) i0, i0 < 1600 → (∀ j, j < g → f (L j) < 1600) → mxL L f i0 g < 1600 := fun f i0 h1 h2 => by
      rcases (mxL_p (L := L) (f := f) (i0 := i0) g).2.2 with h | ⟨j, k1, k2⟩
      · omega
      · have := h2 j k1; omega
    have m2 := bx (fun k => k % w) (L 0 % w) d1 fun j hj => Nat.lt_of_le_of_lt (Nat.mod_le _ _) (hL j (by omega))
    have m3 := bx (fun k => k / w) (L 0 / w) d2 fun j hj => Nat.lt_of_le_of_lt (Nat.div_le_self _ _) (hL j (by omega))
    rw [if_neg (nI_ge hg (by omega)), nI_clamp (by omega), show gI s' 42 g = nI (L g) by rw [i7 _ _ (by omega), aF _ _ (by omega) (by omega)]; exact h42 g hg, rem_nI (by omega) (by omega) (by omega), pk_div (by omega) (by omega) (by omega), nI_clamp (by omega), i2, nI_1]
    refine wp_grd (inb_nI (by omega) (by decide)) (wp_grd (nz_nI (by omega) (by omega)) ?_)
    refine wp_vv ?_; rintro _ rfl
    refine wp_vv ?_; rintro _ rfl
    refine wp_grd (inb_nI hb (by decide)) ?_
    rw [nI_add]
    refine wp_vv ?_; intro s1 g1
    rw [show gI s1 36 b = nI (ls L (fun k => k / w) g) by rw [g1, gI_ne (by omega)]; exact i3, nI_add]
    refine wp_vv ?_; intro s2 g2
    rw [show gI s2 39 b = nI (mnL L (fun k => k % w) (L 0 % w) g) by rw [g2, gI_ne (by omega), g1, gI_ne (by omega)]; exact i4, min_nI (by omega) (by omega)]
    refine wp_vv ?_; intro s3 g3
    rw [show gI s3 40 b = nI (mxL L (fun k => k % w) (L 0 % w) g) by rw [g3, gI_ne (by omega), g2, gI_ne (by omega), g1, gI_ne (by omega)]; exact i5, max_nI (by omega) (by omega)]
    refine wp_vv ?_; intro s4 g4
    rw [show gI s4 41 b = nI (mxL L (fun k => k / w) (L 0 / w) g) by rw [g4, gI_ne (by omega), g3, gI_ne (by omega), g2, gI_ne (by omega), g1, gI_ne (by omega)]; exact i6, max_nI (by omega) (by omega)]
    refine wp_vv ?_; intro s5 g5
    refine hr _ _ ⟨rfl, by rw [← i1, g5, g4, g3, g2, g1]; rfl, ?_, ?_, ?_, ?_, ?_, fun c k hc => ?_⟩
    · rw [g5, gI_ne (by omega), g4, gI_ne (by omega), g3, gI_ne (by omega), g2, gI_ne (by omega), g1, gI_eq]; rfl
    · rw [g5, gI_ne (by omega), g4, gI_ne (by omega), g3, gI_ne (by omega), g2, gI_eq]; rfl
    · rw [g5, gI_ne (by omega), g4, gI_ne (by omega), g3, gI_eq]; rfl
    · rw [g5, gI_ne (by omega), g4, gI_eq]; rfl
    · rw [g5, gI_eq]; rfl
    · rw [g5, gI_nk (by omega), g4, gI_nk (by omega), g3, gI_nk (by omega), g2, gI_nk (by omega), g1, gI_nk (by omega)]; exact i7 c k hc
  · rintro _ s' rec ⟨rfl, i1, i2, i3, i4, i5, i6, i7⟩
    rw [if_pos (nI_le (Nat.le_refl _) (by omega))]
    refine wp_some ⟨i1, by rw [i7 _ _ (by omega)]; exact a33, ⟨by rw [i7 _ _ (by omega)]; exact a34, i2, i3, by rw [i7 _ _ (by omega)]; exact a37, by rw [i7 _ _ (by omega)]; exact a38, i4, i5, i6⟩, fun c k c1 c2 => ?_⟩
    rw [i7 _ _ (by omega)]; exact aF c k c1 c2
end DESC
/-! what the blobs are -/
noncomputable def szS (w q : Nat) (ink : Nat → Prop) (st : Nat) : Nat := gs (Conn w q ink st) (fun _ => 1) (w * q)
def ql (w q spk : Nat) (ink : Nat → Prop) (k : Nat) : Prop := isSt w q ink k ∧ spk ≤ szS w q ink k
noncomputable def nB (w q spk : Nat) (ink : Nat → Prop) (i : Nat) : Nat := gs (ql w q spk ink) (fun _ => 1) i
def Bd (c w q : Nat) (ink : Nat → Prop) (st b : Nat) (σ : SS) : Prop := gI σ c b = nI (szS w q ink st) ∧ gI σ (c + 1) b = nI (gs (Conn w q ink st) (fun k => k % w) (w * q)) ∧ gI σ (c + 2) b = nI (gs (Conn w q ink st) (fun k => k / w) (w * q))
def Be (w q : Nat) (ink : Nat → Prop) (st b : Nat) (σ : SS) : Prop := gI σ 37 b = nI (st % w) ∧ gI σ 38 b = nI (st / w) ∧ gI σ 39 b = nI (mnV (Conn w q ink st) fun k => k % w) ∧ gI σ 40 b = nI (mxV (Conn w q ink st) fun k => k % w) ∧ gI σ 41 b = nI (mxV (Conn w q ink st) fun k => k / w)
theorem Bd.fr {c w q st b : Nat} {ink : Nat → Prop} {σ σ' : SS} (h : Bd c w q ink st b σ) (hf : ∀ j, j < 3 → gI σ' (c + j) b = gI σ (c + j) b) : Bd c w q ink st b σ' := ⟨(hf 0 (by omega)).trans h.1, (hf 1 (by omega)).trans h.2.1, (hf 2 (by omega)).trans h.2.2⟩
section FIND
variable {σ : SS} {s w q spk : Nat} {lvl : Int32} {ink : Nat → Prop}
theorem list_sz {L : Nat → Nat} {n st : Nat} {S C : Nat → Prop} (hb : Bf w q ink S st L n C) (hm : ∀ k, mem L n k ↔ Conn w q ink st k) (f : Nat → Nat) : ls L f n = gs (Conn w q ink st) f (w * q) := by
  rw [ls_gs n hb.2.2.1 fun i hi => (hb.2.2.2.1 i hi).1]
  exact gs_congr _ fun k _ => hm k
theorem find7 (hs : s = 3 ∨ s = 6) (hw : 1 ≤ w ∧ w ≤ 40) (hq : 1 ≤ q ∧ q ≤ 40) (e1 : gI σ s 0 = nI w) (e2 : gI σ s 1 = nI q) (hink : ∀ k, k < w * q → (lvl ≤ gI σ (s + 1) k ↔ ink k)) (hspk : 1 ≤ spk ∧ spk ≤ 20) : WP (fX0_find σ s lvl (nI spk)) (fun r => gR r = gR σ ∧ (∀ c k, ¬ (33 ≤ c ∧ c ≤ 43) → gI r c k = gI σ c k) ∧ gI r 33 0 = nI (nB w q spk ink (w * q)) ∧ ∀ st, st < w * q → ql w q spk ink st → Bd 34 w q ink st (nB w q spk ink st) r ∧ Be w q ink st (nB w q spk ink st) r) := by
  have hN := area_le hw.2 hq.2
  unfold fX0_find
  refine wp_vv ?_; intro σ1 h1
  refine wp_vv ?_; intro σ2 h2
  have b43 : ∀ k, k < 1600 → gI σ2 43 k = 0 := fun k hk => by rw [h2]; unfold flB; exact gI_fl hk
  have bF : ∀ c k, ¬ (33 ≤ c ∧ c ≤ 43) → gI σ2 c k = gI σ c k := fun c k hc => by
    rw [h2]; unfold flB; rw [gI_fl_ne (by omega), h1, gI_ne (by omega)]
  have b33 : gI σ2 33 0 = nI 0 := by rw [h2]; unfold flB; rw [gI_fl_ne (by omega), h1, gI_eq]; rfl
  unfold X0_find_L16
  refine wf_2 (w * q) (fun i v s' => v = nI i ∧ gR s' = gR σ ∧ (∀ c k, ¬ (33 ≤ c ∧ c ≤ 43) → gI s' c k = gI σ c k) ∧ (∀ k, k < 1600 → (gI s' 43 k = 0 ↔ ¬ Sn w q ink i k)) ∧ gI s' 33 0 = nI (nB w q spk ink i) ∧ ∀ st, st < i → ql w q spk ink st → Bd 34 w q ink st (nB w q spk ink st) s' ∧ Be w q ink st (nB w q spk ink st) s') ⟨rfl, by rw [h2, h1]; rfl, bF, fun k hk => ⟨fun _ ⟨j, k1, _⟩ => by omega, fun _ => b43 k hk⟩, b33, fun st hst => absurd hst (by omega)⟩ (by omega) ?_ ?_
  · rintro i _ s' rec hi ⟨rfl, i1, i2, i3, i4, i5⟩ hr
    have q1 : gI s' s 0 = nI w := (i2 _ _ (by omega)).trans e1
    have q2 : gI s' s 1 = nI q := (i2 _ _ (by omega)).trans e2
    have hsz : fX6_size s' s = nI (w * q) := by unfold fX6_size; rw [q1, q2, nI_mul]
    rw [hsz, if_neg (nI_ge hi (by omega))]
    refine wp_bndp (gather7 (σg := s') (ink := ink) (S := Sn w q ink i) hs hw hq q1 q2 (fun k hk _ => by rw [i2 _ _ (by omega)]; exact hink k hk) i3 hi) ?_
    rintro v3 s3 ⟨L, n, hv3, hm, hcase⟩
    dsimp only at hv3 hm
    subst hv3
    rw [nI_1]
    have fr : ∀ c k, ¬ (33 ≤ c ∧ c ≤ 43) → gI s3 c k = gI σ c k := fun c k hc => by rw [hm.2.1 c k (by omega) (by omega)]; exact i2 c k hc
    have f33 : gI s3 33 0 = nI (nB w q spk ink i) := by rw [hm.2.1 _ _ (by omega) (by omega)]; exact i4
    have fst : ∀ st, st < i → ql w q spk ink st → Bd 34 w q ink st (nB w q spk ink st) s3 ∧ Be w q ink st (nB w q spk ink st) s3 := fun st k1 k2 => by
      obtain ⟨u1, u2⟩ := i5 st k1 k2
      refine ⟨u1.fr fun j hj => hm.2.1 _ _ (by omega) (by omega), ?_⟩
      unfold Be at *
      rw [hm.2.1 _ _ (by omega) (by omega), hm.2.1 _ _ (by omega) (by omega), hm.2.1 _ _ (by omega) (by omega), hm.2.1 _ _ (by omega) (by omega), hm.2.1 _ _ (by omega) (by omega)]
      exact u2
    rcases hcase with ⟨hnew, hbf⟩ | ⟨hnew, rfl⟩
    · have hst : isSt w q ink i := (Sn.st hi).mpr hnew
      have hmem := hbf.done hnew.1 fun a b ha hn hb => Sn.cl ha hn hb
      have hsz2 : n = szS w q ink i := by rw [← ls_1 L n, list_sz hbf hmem]; rfl
      have hle := hbf.le
      have hseen : ∀ k, k < 1600 → (gI s3 43 k = 0 ↔ ¬ Sn w q ink (i + 1) k) := fun k hk => by
        rw [hm.2.2.2 k hk, Sn.s hi, hmem]
        exact ⟨fun h h2 => h (h2.imp id fun x => x.2), fun h h2 => h (h2.imp id fun x => ⟨hnew.1, x⟩)⟩
      by_cases c : n < spk
      · rw [if_pos (nI_lt c (by omega))]
        have e : nB w q spk ink (i + 1) = nB w q spk ink i := gs_f fun h => by have := h.2; omega
        refine hr _ _ ⟨rfl, hm.1.trans i1, fr, hseen, by rw [e]; exact f33, fun st k1 k2 => ?_⟩
        by_cases e2 : st = i
        · subst e2; have := k2.2; omega
        · exact fst st (by omega) k2
      · have hql : ql w q spk ink i := ⟨hst, by omega⟩
        have hb8 : nB w q spk ink i < 800 := st_800 hw.2 hq.2 (fun k h => h.1) hst
        have e : nB w q spk ink (i + 1) = nB w q spk ink i + 1 := gs_t hql
        rw [if_neg (nI_nlt (by omega) (by omega)), f33, if_neg (by show ¬ nI 800 ≤ nI _; exact nI_ge hb8 (by decide)), show gI s3 s 0 = nI w from (fr _ _ (by omega)).trans e1]
        refine wp_bnd1 (describe7 (L := L) hw ⟨hbf.1, by omega⟩ hb8 f33 hm.2.2.1 fun j hj => by have := (hbf.2.2.2.1 j hj).1; omega) ?_
        rintro s4 ⟨r1, r2, ⟨d1, d2, d3, d4, d5, d6, d7, d8⟩, r4⟩
        have hL0 := hbf.2.1
        refine hr _ _ ⟨rfl, (r1.trans hm.1).trans i1, fun c k hc => by rw [r4 c k (by omega) (by omega)]; exact fr c k hc, fun k hk => by rw [r4 43 k (by omega) (by omega)]; exact hseen k hk, by rw [e]; exact r2, fun st k1 k2 => ?_⟩
        by_cases e2 : st = i
        · subst e2
          refine ⟨⟨by rw [d1, hsz2], ?_, ?_⟩, ?_, ?_, ?_, ?_, ?_⟩
          · exact d2.trans (by rw [list_sz hbf hmem])
          · exact d3.trans (by rw [list_sz hbf hmem])
          · rw [d4, hL0]
          · rw [d5, hL0]
          · rw [d6, mn_of hmem (Or.inl ⟨L 0, (hmem _).mp ⟨0, by have := hbf.1; omega, rfl⟩, rfl⟩)]
          · rw [d7, mx_of hmem (Or.inl ⟨L 0, (hmem _).mp ⟨0, by have := hbf.1; omega, rfl⟩, rfl⟩)]
          · rw [d8, mx_of hmem (Or.inl ⟨L 0, (hmem _).mp ⟨0, by have := hbf.1; omega, rfl⟩, rfl⟩)]
        · have hlt : nB w q spk ink st < nB w q spk ink i := by
            have h1 : nB w q spk ink (st + 1) = nB w q spk ink st + 1 := gs_t k2
            have h2 : nB w q spk ink (st + 1) ≤ nB w q spk ink i := gs_mono i (by omega)
            omega
          obtain ⟨u1, u2⟩ := fst st (by omega) k2
          refine ⟨u1.fr fun j hj => r4 _ _ (by omega) (by omega), ?_⟩
          unfold Be at *
          rw [r4 _ _ (by omega) (by omega), r4 _ _ (by omega) (by omega), r4 _ _ (by omega) (by omega), r4 _ _ (by omega) (by omega), r4 _ _ (by omega) (by omega)]
          exact u2
    · have hst : ¬ isSt w q ink i := fun h => hnew ((Sn.st hi).mp h)
      have e : nB w q spk ink (i + 1) = nB w q spk ink i := gs_f fun h => hst h.1
      rw [if_pos (nI_lt (by omega) (by omega))]
      refine hr _ _ ⟨rfl, hm.1.trans i1, fr, fun k hk => ?_, by rw [e]; exact f33, fun st k1 k2 => ?_⟩
      · rw [hm.2.2.2 k hk, Sn.same hi hst]
        exact ⟨fun h h2 => h (Or.inl h2), fun h h2 => h2.elim h fun ⟨j, k1, _⟩ => by omega⟩
      · by_cases e2 : st = i
        · subst e2; exact absurd k2.1 hst
        · exact fst st (by omega) k2
  · rintro _ s' rec ⟨rfl, i1, i2, i3, i4, i5⟩
    have hsz : fX6_size s' s = nI (w * q) := by unfold fX6_size; rw [i2 _ _ (by omega), i2 _ _ (by omega), e1, e2, nI_mul]
    rw [hsz, if_pos (nI_le (Nat.le_refl _) (by omega))]
    exact wp_some ⟨i1, i2, i4, i5⟩
end FIND

/-! from 39.lays of the class-and-reference proof: what speaks of the class alone -/
/-! The reference's blobs. -/
theorem ls_agree {L L' f : Nat → Nat} : ∀ n, (∀ j, j < n → L' j = L j) → ls L' f n = ls L f n
  | 0, _ => rfl
  | n + 1, h => by
    show ls L' f n + f (L' n) = ls L f n + f (L n)
    rw [ls_agree n fun j hj => h j (by omega), h n (by omega)]
theorem mnL_agree {L L' f : Nat → Nat} {i0 n : Nat} (h : ∀ j, j < n → L' j = L j) : mnL L' f i0 n = mnL L f i0 n := itr_congr fun j hj s => by rw [h j hj]
theorem mxL_agree {L L' f : Nat → Nat} {i0 n : Nat} (h : ∀ j, j < n → L' j = L j) : mxL L' f i0 n = mxL L f i0 n := itr_congr fun j hj s => by rw [h j hj]
theorem nI_m1 {n : Nat} (h : n < 2 ^ 31) : ¬ nI n = -1 := fun e => by
  have := congrArg Int32.toInt e
  rw [nI_toInt h] at this
  have h2 : (-1 : Int32).toInt = -1 := rfl
  omega
section LAYS
variable {σg : SS} {w q st b0 : Nat} {ink S : Nat → Prop}
end LAYS

/-! from 40.laid8 of the class-and-reference proof: what speaks of the class alone -/
/-! The reference's blobs laid; blob kept. -/
def Bg (w q : Nat) (ink : Nat → Prop) (st b : Nat) (σ : SS) : Prop := gI σ 97 b = nI st ∧ gI σ 98 b = nI (mnV (Conn w q ink st) fun k => k % w) ∧ gI σ 99 b = nI (mxV (Conn w q ink st) fun k => k % w) ∧ gI σ 100 b = nI (mnV (Conn w q ink st) fun k => k / w) ∧ gI σ 101 b = nI (mxV (Conn w q ink st) fun k => k / w)
theorem st_of_ink {w q : Nat} {ink : Nat → Prop} : ∀ k, k < w * q → ink k → ∃ st, st ≤ k ∧ isSt w q ink st ∧ Conn w q ink st k := by
  intro k
  induction k using Nat.strongRecOn with
  | _ k ih =>
    intro hk hi
    by_cases c : isSt w q ink k
    · exact ⟨k, Nat.le_refl _, c, Conn.rf⟩
    · rw [Sn.st hk] at c
      have h3 : Sn w q ink k k := Classical.byContradiction fun h => c ⟨hi, h⟩
      obtain ⟨j, k1, k2, k3, k4⟩ := h3
      obtain ⟨st, a1, a2, a3⟩ := ih j k1 k2 k3
      exact ⟨st, by omega, a2, a3.tr k4⟩
theorem st_one {w q a b k : Nat} {ink : Nat → Prop} (ha : isSt w q ink a) (hb : isSt w q ink b) (h1 : Conn w q ink a k) (h2 : Conn w q ink b k) : a = b := by
  rcases Nat.lt_trichotomy a b with c | c | c
  · exact absurd (h1.tr (h2.sym hb.2.1)) (hb.2.2 a c ha.2.1)
  · exact c
  · exact absurd (h2.tr (h1.sym ha.2.1)) (ha.2.2 b c hb.2.1)
theorem nB_lt {w q spk a b : Nat} {ink : Nat → Prop} (ha : ql w q spk ink a) (h : a < b) : nB w q spk ink a < nB w q spk ink b := by
  have h1 : nB w q spk ink (a + 1) = nB w q spk ink a + 1 := gs_t ha
  have h2 : nB w q spk ink (a + 1) ≤ nB w q spk ink b := gs_mono b (by omega)
  omega
def cl9 (v : Int32) : Int32 := if 0 ≤ v then v else -1
theorem m2_ne : ¬ (-2 : Int32) = -1 := by decide
/-! from 41.blob of the class-and-reference proof: what speaks of the class alone -/
/-! Blob kept. -/
def inkO (σ : SS) (k : Nat) : Prop := ¬ gI σ 83 k < gI σ 88 0
section FOUND
variable {σ : SS} {s f w q spk : Nat}
end FOUND
theorem top_eq {w q st : Nat} {ink : Nat → Prop} (hst : isSt w q ink st) : mnV (Conn w q ink st) (fun k => k / w) = st / w :=
  mnV_eq ⟨⟨st, Conn.rf, rfl⟩, fun k hk => by
    refine Nat.div_le_div_right (Nat.le_of_not_lt fun hlt => ?_)
    exact hst.2.2 k hlt (hk.inked hst.2.1) (hk.sym hst.2.1)⟩
/-! from 42.clean of the class-and-reference proof: what speaks of the class alone -/
/-! Clean kept. -/
theorem gs_or {m m' : Nat → Prop} {f : Nat → Nat} (hd : ∀ k, ¬ (m k ∧ m' k)) : ∀ N, gs (fun k => m k ∨ m' k) f N = gs m f N + gs m' f N
  | 0 => rfl
  | N + 1 => by
    have ih := gs_or (f := f) hd N
    by_cases c : m N
    · rw [gs_t (m := fun k => m k ∨ m' k) (Or.inl c), gs_t c, gs_f (m := m') fun h => hd N ⟨c, h⟩, ih]; omega
    · by_cases c' : m' N
      · rw [gs_t (m := fun k => m k ∨ m' k) (Or.inr c'), gs_f c, gs_t c', ih]; omega
      · rw [gs_f (m := fun k => m k ∨ m' k) fun h => h.elim c c', gs_f c, gs_f c', ih]
def Wp (w q spk : Nat) (ink : Nat → Prop) (i k : Nat) : Prop := ∃ st, st < i ∧ isSt w q ink st ∧ ¬ spk ≤ szS w q ink st ∧ Conn w q ink st k
/-! from 43.marks of the class-and-reference proof: what speaks of the class alone -/
/-! Marks: the class's. -/
noncomputable def blS (w q spk : Nat) (ink : Nat → Prop) (b : Nat) : Nat := Classical.epsilon fun st => st < w * q ∧ ql w q spk ink st ∧ nB w q spk ink st = b
noncomputable def zS (w q spk : Nat) (ink : Nat → Prop) (b : Nat) : Nat := szS w q ink (blS w q spk ink b)
noncomputable def zX (w q spk : Nat) (ink : Nat → Prop) (b : Nat) : Nat := gs (Conn w q ink (blS w q spk ink b)) (fun k => k % w) (w * q)
noncomputable def zY (w q spk : Nat) (ink : Nat → Prop) (b : Nat) : Nat := gs (Conn w q ink (blS w q spk ink b)) (fun k => k / w) (w * q)
section BLS
variable {w q spk b : Nat} {ink : Nat → Prop}
theorem blS_p (h : b < nB w q spk ink (w * q)) : blS w q spk ink b < w * q ∧ ql w q spk ink (blS w q spk ink b) ∧ nB w q spk ink (blS w q spk ink b) = b :=
  Classical.epsilon_spec (p := fun st => st < w * q ∧ ql w q spk ink st ∧ nB w q spk ink st = b) (gs_at _ _ h)
theorem gs_bd {m : Nat → Prop} {f : Nat → Nat} {B : Nat} : ∀ N, (∀ k, k < N → f k ≤ B) → gs m f N ≤ B * N
  | 0, _ => Nat.zero_le _
  | N + 1, h => by
    have ih := gs_bd (m := m) N fun k hk => h k (by omega)
    have h1 := h N (by omega)
    have e : B * (N + 1) = B * N + B := by rw [Nat.mul_add, Nat.mul_one]
    by_cases c : m N
    · rw [gs_t c]; omega
    · rw [gs_f c]; omega
theorem z_bd (hw : 1 ≤ w ∧ w ≤ 40) (hq : 1 ≤ q ∧ q ≤ 40) (hspk : 1 ≤ spk) (h : b < nB w q spk ink (w * q)) : (1 ≤ zS w q spk ink b ∧ zS w q spk ink b ≤ 1600) ∧ zX w q spk ink b ≤ 64000 ∧ zY w q spk ink b ≤ 64000 := by
  have hN := area_le hw.2 hq.2
  obtain ⟨h1, h2, h3⟩ := blS_p h
  refine ⟨⟨by have := h2.2; show 1 ≤ szS w q ink (blS w q spk ink b); omega, Nat.le_trans (gs_le _) hN⟩, ?_, ?_⟩
  · refine Nat.le_trans (gs_bd (B := 40) _ fun k hk => ?_) (by omega)
    have : k % w < w := Nat.mod_lt _ (by omega)
    omega
  · refine Nat.le_trans (gs_bd (B := 40) _ fun k hk => ?_) (by omega)
    have : k / w < q := Nat.div_lt_of_lt_mul hk
    omega
theorem nB_le (hw : w ≤ 40) (hq : q ≤ 40) : nB w q spk ink (w * q) ≤ 800 := by
  have := st_few (m := ql w q spk ink) hw (fun k h => h.1) q (Nat.le_refl _)
  rw [Nat.mul_comm q w] at this
  show gs _ _ _ ≤ _; omega
end BLS
def nrS (w q : Nat) (s x y : Nat → Nat) (cx cy : Int64) (mk : Int32) (b : Nat) (r : Int32 × Int64 × Int64) : Int32 × Int64 × Int64 :=
  if nI (s b) < mk then r else
    if r.1 < 0 then (nI b, (lN (x b) - lN (s b) * cx) * (lN (x b) - lN (s b) * cx) + (lN (y b) - lN (s b) * cy) * (lN (y b) - lN (s b) * cy), lN (s b) * lN (s b))
    else if 0 ≤ lg_cmp (((lN (x b) - lN (s b) * cx) * (lN (x b) - lN (s b) * cx) + (lN (y b) - lN (s b) * cy) * (lN (y b) - lN (s b) * cy)) * r.2.2) (r.2.1 * (lN (s b) * lN (s b))) then r
    else (nI b, (lN (x b) - lN (s b) * cx) * (lN (x b) - lN (s b) * cx) + (lN (y b) - lN (s b) * cy) * (lN (y b) - lN (s b) * cy), lN (s b) * lN (s b))
def nrR (w q : Nat) (s x y : Nat → Nat) (cx cy : Int64) (mk : Int32) (n : Nat) : Int32 × Int64 × Int64 := itr (nrS w q s x y cx cy mk) (-1, 0, 1) n
def crX (w k : Nat) : Nat := if k % 2 = 0 then 0 else w - 1
def crY (q k : Nat) : Nat := if k / 2 = 0 then 0 else q - 1
noncomputable def mkB (w q spk : Nat) (mk : Int32) (ink : Nat → Prop) (k : Nat) : Int32 := (nrR w q (zS w q spk ink) (zX w q spk ink) (zY w q spk ink) (lN (crX w k)) (lN (crY q k)) mk (nB w q spk ink (w * q))).1
def frU (B : Nat → Int32) (n : Nat) : Prop := ∀ k, k < n → 0 ≤ B k ∧ ∀ i, i < k → ¬ B i = B k
theorem nrR_rng {w q : Nat} {s x y : Nat → Nat} {cx cy : Int64} {mk : Int32} : ∀ n, n ≤ 1000 → (nrR w q s x y cx cy mk n).1 = -1 ∨ ∃ b, b < n ∧ (nrR w q s x y cx cy mk n).1 = nI b ∧ (nrR w q s x y cx cy mk n).2.2 = lN (s b) * lN (s b)
  | 0, _ => Or.inl rfl
  | n + 1, hn => by
    have ih := nrR_rng (w := w) (q := q) (s := s) (x := x) (y := y) (cx := cx) (cy := cy) (mk := mk) n (by omega)
    have e : nrR w q s x y cx cy mk (n + 1) = nrS w q s x y cx cy mk n (nrR w q s x y cx cy mk n) := rfl
    rw [e]
    generalize nrR w q s x y cx cy mk n = r at ih ⊢
    have keep : r.1 = -1 ∨ ∃ b, b < n + 1 ∧ r.1 = nI b ∧ r.2.2 = lN (s b) * lN (s b) := ih.imp id fun ⟨b, h1, h2⟩ => ⟨b, by omega, h2⟩
    unfold nrS
    split
    · exact keep
    · split
      · exact Or.inr ⟨n, by omega, rfl, rfl⟩
      · split
        · exact keep
        · exact Or.inr ⟨n, by omega, rfl, rfl⟩
section NEAR7
variable {σ : SS} {w q n : Nat} {s x y : Nat → Nat} {mk : Int32}
theorem nearest7 {X Y : Nat} (hX : X < 100) (hY : Y < 100) (hn : n ≤ 800) (e33 : gI σ 33 0 = nI n) (hz : ∀ b, b < n → gI σ 34 b = nI (s b) ∧ gI σ 35 b = nI (x b) ∧ gI σ 36 b = nI (y b)) (hb : ∀ b, b < n → s b < 2 ^ 31 ∧ x b < 2 ^ 31 ∧ y b < 2 ^ 31) : fX0_nearest σ (nI X) (nI Y) mk = some (nrR w q s x y (lN X) (lN Y) mk n).1 := by
  unfold fX0_nearest X0_nearest_L12
  refine lp_4 (fun i => (nrR w q s x y (lN X) (lN Y) mk i).1) (fun i => (nrR w q s x y (lN X) (lN Y) mk i).2.1) (fun i => (nrR w q s x y (lN X) (lN Y) mk i).2.2) (fun i => nI i) n _ (fun i hi rec => ?_) (fun rec => ?_) fuel (fuel_gt (by omega))
  · obtain ⟨h1, h2, h3⟩ := hz i hi
    obtain ⟨l1, l2, l3⟩ := hb i hi
    have e : nrR w q s x y (lN X) (lN Y) mk (i + 1) = nrS w q s x y (lN X) (lN Y) mk i (nrR w q s x y (lN X) (lN Y) mk i) := rfl
    rw [e]
    simp only [vthen_q]
    rw [e33, if_neg (nI_ge hi (by omega)), grd_eq _ (inb_nI (by omega) (by decide)), nI_clamp (by omega), h1, h2, h3, nI_l l1, nI_l l2, nI_l l3, nI_l (by omega), nI_l (by omega), nI_1]
    generalize nrR w q s x y (lN X) (lN Y) mk i = r
    unfold nrS
    by_cases c1 : nI (s i) < mk
    · rw [if_pos c1, if_pos c1]
    rw [if_neg c1, if_neg c1]
    by_cases c2 : r.1 < 0
    · rw [if_pos c2, if_pos c2]
    rw [if_neg c2, if_neg c2]
    by_cases c3 : 0 ≤ lg_cmp (((lN (x i) - lN (s i) * lN X) * (lN (x i) - lN (s i) * lN X) + (lN (y i) - lN (s i) * lN Y) * (lN (y i) - lN (s i) * lN Y)) * r.2.2) (r.2.1 * (lN (s i) * lN (s i)))
    · rw [if_pos c3, if_pos c3]
    · rw [if_neg c3, if_neg c3]
  · rw [e33, if_pos (nI_le (Nat.le_refl _) (by omega))]
end NEAR7
theorem four7 {σ : SS} {B : Nat → Int32} (hB : ∀ k, k < 4 → gI σ 44 k = B k) : WP (fX3_marksAreFour σ) (fun b => b = true ↔ frU B 4) := by
  unfold fX3_marksAreFour X3_marksAreFour_L2
  refine wf_1 4 (fun k v => v = nI k ∧ frU B k) ⟨rfl, fun k hk => absurd hk (by omega)⟩ (by omega) ?_ ?_
  · rintro k _ rec hk ⟨rfl, hf⟩ hr
    rw [if_neg (by show ¬ nI 4 ≤ nI k; exact nI_ge hk (by decide)), nI_clamp (by omega), hB k hk]
    refine wp_grd (inb_nI (by omega) (by decide)) (wp_if (fun h0 => ?_) fun h0 => wp_some ?_)
    · unfold X3_marksAreFour_L20
      refine wf_1 k (fun i v => v = nI i ∧ ∀ i', i' < i → ¬ B i' = B k) ⟨rfl, fun i hi => absurd hi (by omega)⟩ (by omega) ?_ ?_
      · rintro i _ rec2 hi ⟨rfl, hi2⟩ hr2
        rw [if_neg (nI_ge hi (by omega)), nI_clamp (by omega), nI_clamp (by omega), hB k hk, hB i (by omega), nI_1]
        refine wp_grd (inb_nI (by omega) (by decide)) (wp_grd (inb_nI (by omega) (by decide)) (wp_if (fun h1 => wp_some ?_) fun h1 => hr2 _ ⟨rfl, fun i' hi' => ?_⟩))
        · exact ⟨fun h => absurd h (by decide), fun h => absurd h1 ((h k hk).2 i hi)⟩
        · by_cases e : i' = i
          · subst e; exact h1
          · exact hi2 i' (by omega)
      · rintro _ rec2 ⟨rfl, hi2⟩
        rw [if_pos (nI_le (Nat.le_refl _) (by omega)), nI_1]
        refine hr _ ⟨rfl, fun j hj => ?_⟩
        by_cases e : j = k
        · subst e; exact ⟨h0, hi2⟩
        · exact hf j (by omega)
    · exact ⟨fun h => absurd h (by decide), fun h => absurd (h k hk).1 h0⟩
  · rintro _ rec ⟨rfl, hf⟩
    rw [if_pos (by decide)]
    exact wp_some ⟨fun _ => hf, fun _ => rfl⟩
theorem locate7 {σ : SS} {s w q spk : Nat} {mk : Int32} {ink : Nat → Prop} (hs : s = 3 ∨ s = 6) (hw : 8 ≤ w ∧ w ≤ 40) (hq : 8 ≤ q ∧ q ≤ 40) (e1 : gI σ s 0 = nI w) (e2 : gI σ s 1 = nI q) (hink : ∀ k, k < w * q → (gI σ 32 0 ≤ gI σ (s + 1) k ↔ ink k)) (e32 : gI σ 32 1 = nI spk) (hspk : 1 ≤ spk ∧ spk ≤ 20) (emk : gI σ 32 2 = mk) : WP (fX3_locate σ s) (fun r => (r.1 = true ↔ frU (mkB w q spk mk ink) 4) ∧ gR r.2 = gR σ ∧ (∀ c k, ¬ (33 ≤ c ∧ c ≤ 44) → gI r.2 c k = gI σ c k) ∧ (∀ k, k < 4 → gI r.2 44 k = mkB w q spk mk ink k) ∧ (frU (mkB w q spk mk ink) 4 → ∀ k, k < 4 → ∃ b, b < nB w q spk ink (w * q) ∧ mkB w q spk mk ink k = nI b ∧ gL r.2 46 k = lN (zX w q spk ink b) ∧ gL r.2 47 k = lN (zY w q spk ink b) ∧ gL r.2 48 k = lN (zS w q spk ink b))) := by
  obtain ⟨r1, x1, a1, a2, a3, a4⟩ := find7 (σ := σ) (lvl := gI σ 32 0) hs ⟨by omega, hw.2⟩ ⟨by omega, hq.2⟩ e1 e2 hink hspk
  have hn8 := nB_le (spk := spk) (ink := ink) hw.2 hq.2
  have hz : ∀ b, b < nB w q spk ink (w * q) → gI r1 34 b = nI (zS w q spk ink b) ∧ gI r1 35 b = nI (zX w q spk ink b) ∧ gI r1 36 b = nI (zY w q spk ink b) := fun b hb => by
    obtain ⟨h1, h2, h3⟩ := blS_p hb
    obtain ⟨⟨u0, u1, u2⟩, -⟩ := a4 _ h1 h2
    rw [h3] at u0 u1 u2
    exact ⟨u0, u1, u2⟩
  have hzb := fun b (hb : b < nB w q spk ink (w * q)) => z_bd (spk := spk) (ink := ink) ⟨by omega, hw.2⟩ ⟨by omega, hq.2⟩ hspk.1 hb
  have hl : ∀ b, b < nB w q spk ink (w * q) → zS w q spk ink b < 2 ^ 31 ∧ zX w q spk ink b < 2 ^ 31 ∧ zY w q spk ink b < 2 ^ 31 := fun b hb => by
    obtain ⟨⟨_, h1⟩, h2, h3⟩ := hzb b hb
    exact ⟨by omega, by omega, by omega⟩
  unfold fX3_locate
  rw [e32, bnd1_of _ x1]
  unfold X3_locate_L22
  refine wf_2 4 (fun k v s' => v = nI k ∧ gR s' = gR r1 ∧ (∀ c k, c ≠ 44 → gI s' c k = gI r1 c k) ∧ ∀ j, j < k → gI s' 44 j = mkB w q spk mk ink j) ⟨rfl, rfl, fun _ _ _ => rfl, fun j hj => absurd hj (by omega)⟩ (by omega) ?_ ?_
  · rintro k _ s' rec hk ⟨rfl, i1, i2, i3⟩ hr
    rw [if_neg (by show ¬ nI 4 ≤ nI k; exact nI_ge hk (by decide)), show irm (nI k) (2 : Int32) = nI (k % 2) from rem_nI (w := 2) (by omega) (by omega) (by omega), show nI k / (2 : Int32) = nI (k / 2) from pk_div (d := 2) (by omega) (by omega) (by omega)]
    refine wp_vk1 (fun v => v = nI (crX w k)) ?_ fun j hj => ?_
    · rintro _ rfl
      refine wp_vk1 (fun v => v = nI (crY q k)) ?_ fun j hj => ?_
      · rintro _ rfl
        have lx : crX w k < 100 := by unfold crX; split <;> omega
        have ly : crY q k < 100 := by unfold crY; split <;> omega
        rw [i2 32 2 (by omega), a2 32 2 (by omega), emk, bnd1_of _ (nearest7 (w := w) (q := q) (s := zS w q spk ink) (x := zX w q spk ink) (y := zY w q spk ink) (mk := mk) lx ly hn8 (by rw [i2 _ _ (by omega)]; exact a3) (fun b hb => by rw [i2 _ _ (by omega), i2 _ _ (by omega), i2 _ _ (by omega)]; exact hz b hb) hl), nI_clamp (by omega), nI_1]
        refine wp_grd (inb_nI (by omega) (by decide)) ?_
        refine wp_vv ?_; intro s2 g2
        refine hr _ _ ⟨rfl, by rw [g2]; exact i1, fun c k hc => by rw [g2, gI_ne hc]; exact i2 c k hc, fun j hj => ?_⟩
        rw [g2]
        by_cases e : j = k
        · subst e; rw [gI_eq]; rfl
        · rw [gI_nk (by omega)]; exact i3 j (by omega)
      · unfold crY at hj
        by_cases c : k / 2 = 0
        · rw [if_pos (by rw [c]; rfl)]; exact hj _ (by rw [if_pos c]; rfl)
        · rw [if_neg (nI_ne0 (by omega) (by omega)), i2 _ _ (by omega), a2 _ _ (by omega), e2]
          exact hj _ (by rw [if_neg c]; exact nI_sub (a := q) (b := 1) (by omega))
    · unfold crX at hj
      by_cases c : k % 2 = 0
      · rw [if_pos (by rw [c]; rfl)]; exact hj _ (by rw [if_pos c]; rfl)
      · rw [if_neg (nI_ne0 (by omega) (by omega)), i2 _ _ (by omega), a2 _ _ (by omega), e1]
        exact hj _ (by rw [if_neg c]; exact nI_sub (a := w) (b := 1) (by omega))
  · rintro _ s' rec ⟨rfl, i1, i2, i3⟩
    rw [if_pos (by decide)]
    have fr : ∀ c k, ¬ (33 ≤ c ∧ c ≤ 44) → gI s' c k = gI σ c k := fun c k hc => by rw [i2 c k (by omega), a2 c k (by omega)]
    refine wp_bnd1 (four7 i3) fun b hb => ?_
    refine wp_if (fun h1 => ?_) fun h1 => wp_some ⟨⟨fun h => absurd (show false = true from h) (by decide), fun h => absurd (hb.mpr h) h1⟩, i1.trans a1, fr, i3, fun h => absurd (hb.mpr h) h1⟩
    have hfour := hb.mp h1
    have hbk : ∀ k, k < 4 → ∃ b, b < nB w q spk ink (w * q) ∧ mkB w q spk mk ink k = nI b := fun k hk => by
      rcases nrR_rng (w := w) (q := q) (s := zS w q spk ink) (x := zX w q spk ink) (y := zY w q spk ink) (cx := lN (crX w k)) (cy := lN (crY q k)) (mk := mk) (nB w q spk ink (w * q)) (by omega) with h | ⟨b, h2, h3, -⟩
      · have := (hfour k hk).1
        unfold mkB at this
        rw [h] at this
        exact absurd this (by decide)
      · exact ⟨b, h2, h3⟩
    unfold X3_locate_L101
    refine wf_2 4 (fun k v s7 => v = nI k ∧ gR s7 = gR s' ∧ (∀ c k, gI s7 c k = gI s' c k) ∧ ∀ j, j < k → ∃ b, b < nB w q spk ink (w * q) ∧ mkB w q spk mk ink j = nI b ∧ gL s7 46 j = lN (zX w q spk ink b) ∧ gL s7 47 j = lN (zY w q spk ink b) ∧ gL s7 48 j = lN (zS w q spk ink b)) ⟨rfl, rfl, fun _ _ => rfl, fun j hj => absurd hj (by omega)⟩ (by omega) ?_ ?_
    · rintro k _ s7 rec7 hk ⟨rfl, l1, l2, l3⟩ hr7
      obtain ⟨b, hb1, hb2⟩ := hbk k hk
      obtain ⟨z1, z2, z3⟩ := hz b hb1
      obtain ⟨p1, p2, p3⟩ := hl b hb1
      rw [if_neg (by show ¬ nI 4 ≤ nI k; exact nI_ge hk (by decide)), nI_clamp (by omega), l2 44 k, i3 k hk, hb2, nI_1]
      refine wp_grd (inb_nI (by omega) (by decide)) ?_
      refine wp_v (wp_grd (inb_nI (by omega) (by decide)) ?_)
      rw [nI_clamp (by omega), l2 35, l2 36, l2 34, i2 _ _ (by omega), i2 _ _ (by omega), i2 _ _ (by omega), z1, z2, z3, nI_l p1, nI_l p2, nI_l p3]
      unfold fX5_put
      simp only [vthen_q]
      rw [grd_eq _ (inb_nI (by omega) (by decide)), nI_clamp (by omega), bnd1_some]
      refine hr7 _ _ ⟨rfl, l1, l2, fun j hj => ?_⟩
      by_cases e : j = k
      · subst e
        exact ⟨b, hb1, hb2, by rw [gL_sL, if_neg (by omega), gL_sL, if_neg (by omega), gL_sL, if_pos ⟨rfl, rfl⟩], by rw [gL_sL, if_neg (by omega), gL_sL, if_pos ⟨rfl, rfl⟩], by rw [gL_sL, if_pos ⟨rfl, rfl⟩]⟩
      · obtain ⟨b', k1, k2, k3, k4, k5⟩ := l3 j (by omega)
        refine ⟨b', k1, k2, ?_, ?_, ?_⟩
        · rw [gL_sL, if_neg (by omega), gL_sL, if_neg (by omega), gL_sL, if_neg (by omega)]; exact k3
        · rw [gL_sL, if_neg (by omega), gL_sL, if_neg (by omega), gL_sL, if_neg (by omega)]; exact k4
        · rw [gL_sL, if_neg (by omega), gL_sL, if_neg (by omega), gL_sL, if_neg (by omega)]; exact k5
    · rintro _ s7 rec7 ⟨rfl, l1, l2, l3⟩
      rw [if_pos (by decide)]
      exact wp_some ⟨⟨fun _ => hfour, fun _ => rfl⟩, (l1.trans i1).trans a1, fun c k hc => by rw [l2]; exact fr c k hc, fun k hk => by rw [l2]; exact i3 k hk, fun _ => l3⟩

/-! from 44.marks8 of the class-and-reference proof: what speaks of the class alone -/
/-! Marks: the reference's; mark, marked kept. -/
def md (v : Int32) : Int32 := if v < 0 then -2 else v
theorem md_nI {b : Nat} (h : b < 2 ^ 31) : md (nI b) = nI b := if_neg (nI_pos h)
section MARK8
variable {σ : SS} {w q n k : Nat} {s x y : Nat → Nat} {mk : Int32}
end MARK8
section MARKS8
variable {σ : SS} {w q spk k : Nat} {mk : Int32} {ink : Nat → Prop}
end MARKS8

