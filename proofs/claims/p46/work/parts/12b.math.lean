/-! from 23.wp of the class-and-reference proof: what speaks of the class alone -/
/-! What a function that may fail comes to: a small logic of its own, with loops by what holds at each turn. -/
def WP {α : Type} (x : Option α) (P : α → Prop) : Prop := ∃ v, x = some v ∧ P v
section WPS
variable {α β γ : Type} {P : γ → Prop}
theorem wp_some {v : γ} (h : P v) : WP (some v) P := ⟨v, rfl, h⟩
theorem wp_bnd {x : Option (α × β)} {k : α → β → Option γ} {Q : α → β → Prop} (h : WP x fun r => Q r.1 r.2) (hk : ∀ a b, Q a b → WP (k a b) P) : WP (bnd x k) P := by
  obtain ⟨⟨a, b⟩, rfl, hq⟩ := h
  exact hk a b hq
theorem wp_bnd1 {x : Option α} {k : α → Option γ} {Q : α → Prop} (h : WP x Q) (hk : ∀ a, Q a → WP (k a) P) : WP (bnd1 x k) P := by
  obtain ⟨a, rfl, hq⟩ := h
  exact hk a hq
theorem wp_grd {b : Bool} {x : Option γ} (hb : b = true) (h : WP x P) : WP (grd b x) P := by rw [grd_eq _ hb]; exact h
theorem wp_imp {x : Option γ} {Q : γ → Prop} (h : WP x Q) (hk : ∀ a, Q a → P a) : WP x P := by
  obtain ⟨a, e, hq⟩ := h
  exact ⟨a, e, hk a hq⟩
theorem wp_if {c : Prop} [Decidable c] {x y : Option γ} (h1 : c → WP x P) (h2 : ¬ c → WP y P) : WP (if c then x else y) P := by
  by_cases h : c
  · rw [if_pos h]; exact h1 h
  · rw [if_neg h]; exact h2 h
end WPS
section WPL
variable {A B C D E R : Type} {P : R → Prop}
theorem wl_1 {bot : A → Option R} {body : (A → Option R) → A → Option R} (I : Nat → A → Prop) (hs : ∀ m a, I m a → ∀ rec : A → Option R, (∀ m' a', m' < m → I m' a' → WP (rec a') P) → WP (body rec a) P) : ∀ n m a, m < n → I m a → WP (lp bot body n a) P := by
  intro n
  induction n with
  | zero => intro m a h; omega
  | succ n ih => exact fun m a h hI => hs m a hI _ fun m' a' h' hI' => ih m' a' (by omega) hI'
theorem wl_2 {bot : A → B → Option R} {body : (A → B → Option R) → A → B → Option R} (I : Nat → A → B → Prop) (hs : ∀ m a b, I m a b → ∀ rec : A → B → Option R, (∀ m' a' b', m' < m → I m' a' b' → WP (rec a' b') P) → WP (body rec a b) P) : ∀ n m a b, m < n → I m a b → WP (lp bot body n a b) P := by
  intro n
  induction n with
  | zero => intro m a b h; omega
  | succ n ih => exact fun m a b h hI => hs m a b hI _ fun m' a' b' h' hI' => ih m' a' b' (by omega) hI'
theorem wl_3 {bot : A → B → C → Option R} {body : (A → B → C → Option R) → A → B → C → Option R} (I : Nat → A → B → C → Prop) (hs : ∀ m a b c, I m a b c → ∀ rec : A → B → C → Option R, (∀ m' a' b' c', m' < m → I m' a' b' c' → WP (rec a' b' c') P) → WP (body rec a b c) P) : ∀ n m a b c, m < n → I m a b c → WP (lp bot body n a b c) P := by
  intro n
  induction n with
  | zero => intro m a b c h; omega
  | succ n ih => exact fun m a b c h hI => hs m a b c hI _ fun m' a' b' c' h' hI' => ih m' a' b' c' (by omega) hI'
theorem wl_4 {bot : A → B → C → D → Option R} {body : (A → B → C → D → Option R) → A → B → C → D → Option R} (I : Nat → A → B → C → D → Prop) (hs : ∀ m a b c d, I m a b c d → ∀ rec : A → B → C → D → Option R, (∀ m' a' b' c' d', m' < m → I m' a' b' c' d' → WP (rec a' b' c' d') P) → WP (body rec a b c d) P) : ∀ n m a b c d, m < n → I m a b c d → WP (lp bot body n a b c d) P := by
  intro n
  induction n with
  | zero => intro m a b c d h; omega
  | succ n ih => exact fun m a b c d h hI => hs m a b c d hI _ fun m' a' b' c' d' h' hI' => ih m' a' b' c' d' (by omega) hI'
theorem wl_5 {bot : A → B → C → D → E → Option R} {body : (A → B → C → D → E → Option R) → A → B → C → D → E → Option R} (I : Nat → A → B → C → D → E → Prop) (hs : ∀ m a b c d e, I m a b c d e → ∀ rec : A → B → C → D → E → Option R, (∀ m' a' b' c' d' e', m' < m → I m' a' b' c' d' e' → WP (rec a' b' c' d' e') P) → WP (body rec a b c d e) P) : ∀ n m a b c d e, m < n → I m a b c d e → WP (lp bot body n a b c d e) P := by
  intro n
  induction n with
  | zero => intro m a b c d e h; omega
  | succ n ih => exact fun m a b c d e h hI => hs m a b c d e hI _ fun m' a' b' c' d' e' h' hI' => ih m' a' b' c' d' e' (by omega) hI'
/-! counted loops: i from 0 to N -/
theorem wf_1 {bot : A → Option R} {body : (A → Option R) → A → Option R} (N : Nat) (I : Nat → A → Prop) {a : A} (h0 : I 0 a) (hN : N < 1000000) (hs : ∀ i a (rec : A → Option R), i < N → I i a → (∀ a', I (i + 1) a' → WP (rec a') P) → WP (body rec a) P) (he : ∀ a (rec : A → Option R), I N a → WP (body rec a) P) : WP (lp bot body fuel a) P :=
  wl_1 (fun m a => ∃ i, i + m = N ∧ I i a) (fun m a hI rec hr => by
    obtain ⟨i, hi, hI⟩ := hI
    rcases Nat.eq_zero_or_pos m with h | h
    · have : i = N := by omega
      subst this; exact he a rec hI
    · exact hs i a rec (by omega) hI fun a' h' => hr (m - 1) a' (by omega) ⟨i + 1, by omega, h'⟩) fuel N a hN ⟨0, by omega, h0⟩
theorem wf_2 {bot : A → B → Option R} {body : (A → B → Option R) → A → B → Option R} (N : Nat) (I : Nat → A → B → Prop) {a : A} {b : B} (h0 : I 0 a b) (hN : N < 1000000) (hs : ∀ i a b (rec : A → B → Option R), i < N → I i a b → (∀ a' b', I (i + 1) a' b' → WP (rec a' b') P) → WP (body rec a b) P) (he : ∀ a b (rec : A → B → Option R), I N a b → WP (body rec a b) P) : WP (lp bot body fuel a b) P :=
  wl_2 (fun m a b => ∃ i, i + m = N ∧ I i a b) (fun m a b hI rec hr => by
    obtain ⟨i, hi, hI⟩ := hI
    rcases Nat.eq_zero_or_pos m with h | h
    · have : i = N := by omega
      subst this; exact he a b rec hI
    · exact hs i a b rec (by omega) hI fun a' b' h' => hr (m - 1) a' b' (by omega) ⟨i + 1, by omega, h'⟩) fuel N a b hN ⟨0, by omega, h0⟩
theorem wf_3 {bot : A → B → C → Option R} {body : (A → B → C → Option R) → A → B → C → Option R} (N : Nat) (I : Nat → A → B → C → Prop) {a : A} {b : B} {c : C} (h0 : I 0 a b c) (hN : N < 1000000) (hs : ∀ i a b c (rec : A → B → C → Option R), i < N → I i a b c → (∀ a' b' c', I (i + 1) a' b' c' → WP (rec a' b' c') P) → WP (body rec a b c) P) (he : ∀ a b c (rec : A → B → C → Option R), I N a b c → WP (body rec a b c) P) : WP (lp bot body fuel a b c) P :=
  wl_3 (fun m a b c => ∃ i, i + m = N ∧ I i a b c) (fun m a b c hI rec hr => by
    obtain ⟨i, hi, hI⟩ := hI
    rcases Nat.eq_zero_or_pos m with h | h
    · have : i = N := by omega
      subst this; exact he a b c rec hI
    · exact hs i a b c rec (by omega) hI fun a' b' c' h' => hr (m - 1) a' b' c' (by omega) ⟨i + 1, by omega, h'⟩) fuel N a b c hN ⟨0, by omega, h0⟩
theorem wf_4 {bot : A → B → C → D → Option R} {body : (A → B → C → D → Option R) → A → B → C → D → Option R} (N : Nat) (I : Nat → A → B → C → D → Prop) {a : A} {b : B} {c : C} {d : D} (h0 : I 0 a b c d) (hN : N < 1000000) (hs : ∀ i a b c d (rec : A → B → C → D → Option R), i < N → I i a b c d → (∀ a' b' c' d', I (i + 1) a' b' c' d' → WP (rec a' b' c' d') P) → WP (body rec a b c d) P) (he : ∀ a b c d (rec : A → B → C → D → Option R), I N a b c d → WP (body rec a b c d) P) : WP (lp bot body fuel a b c d) P :=
  wl_4 (fun m a b c d => ∃ i, i + m = N ∧ I i a b c d) (fun m a b c d hI rec hr => by
    obtain ⟨i, hi, hI⟩ := hI
    rcases Nat.eq_zero_or_pos m with h | h
    · have : i = N := by omega
      subst this; exact he a b c d rec hI
    · exact hs i a b c d rec (by omega) hI fun a' b' c' d' h' => hr (m - 1) a' b' c' d' (by omega) ⟨i + 1, by omega, h'⟩) fuel N a b c d hN ⟨0, by omega, h0⟩
end WPL
/-! Two at a time: what both come to. -/
def W2 {α β : Type} (x : Option α) (y : Option β) (P : α → β → Prop) : Prop := ∃ v w, x = some v ∧ y = some w ∧ P v w
section W2S
variable {α β γ δ : Type} {P : γ → δ → Prop}
theorem w2_some {v : γ} {w : δ} (h : P v w) : W2 (some v) (some w) P := ⟨v, w, rfl, rfl, h⟩
theorem w2_bnd1 {x : Option α} {y : Option β} {k : α → Option γ} {k' : β → Option δ} {Q : α → β → Prop} (h : W2 x y Q) (hk : ∀ a b, Q a b → W2 (k a) (k' b) P) : W2 (bnd1 x k) (bnd1 y k') P := by
  obtain ⟨a, b, rfl, rfl, hq⟩ := h
  exact hk a b hq
theorem w2_l {x : Option α} {y : Option δ} {k : α → Option γ} {a : α} (h : x = some a) (hk : W2 (k a) y P) : W2 (bnd1 x k) y P := by subst h; exact hk
theorem w2_r {x : Option γ} {y : Option β} {k : β → Option δ} {b : β} (h : y = some b) (hk : W2 x (k b) P) : W2 x (bnd1 y k) P := by subst h; exact hk
theorem w2_gl {b : Bool} {x : Option γ} {y : Option δ} (hb : b = true) (h : W2 x y P) : W2 (grd b x) y P := by rw [grd_eq _ hb]; exact h
theorem w2_gr {b : Bool} {x : Option γ} {y : Option δ} (hb : b = true) (h : W2 x y P) : W2 x (grd b y) P := by rw [grd_eq _ hb]; exact h
theorem w2_if {c c' : Prop} [Decidable c] [Decidable c'] {x x' : Option γ} {y y' : Option δ} (hc : c ↔ c') (h1 : c → c' → W2 x y P) (h2 : ¬ c → ¬ c' → W2 x' y' P) : W2 (if c then x else x') (if c' then y else y') P := by
  by_cases h : c
  · rw [if_pos h, if_pos (hc.mp h)]; exact h1 h (hc.mp h)
  · rw [if_neg h, if_neg fun q => h (hc.mpr q)]; exact h2 h fun q => h (hc.mpr q)
theorem w2_nif {c c' : Prop} [Decidable c] [Decidable c'] {x x' : Option γ} {y y' : Option δ} (hc : c ↔ ¬ c') (h1 : c → ¬ c' → W2 x y' P) (h2 : ¬ c → c' → W2 x' y P) : W2 (if c then x else x') (if c' then y else y') P := by
  by_cases h : c
  · rw [if_pos h, if_neg (hc.mp h)]; exact h1 h (hc.mp h)
  · have h' : c' := Classical.byContradiction fun q => h (hc.mpr q)
    rw [if_neg h, if_pos h']; exact h2 h h'
theorem w2_val {x y : Option γ} (h : W2 x y (fun v w => v = w)) : ∃ v, x = some v ∧ y = some v := by
  obtain ⟨v, w, h1, h2, rfl⟩ := h
  exact ⟨v, h1, h2⟩
theorem w2_imp {x : Option γ} {y : Option δ} {Q : γ → δ → Prop} (h : W2 x y Q) (hk : ∀ a b, Q a b → P a b) : W2 x y P := by
  obtain ⟨a, b, e1, e2, hq⟩ := h
  exact ⟨a, b, e1, e2, hk a b hq⟩
end W2S
section W2L
variable {A B C A' B' C' R R' : Type} {P : R → R' → Prop}
theorem w2f_1 {bot : A → Option R} {body : (A → Option R) → A → Option R} {bot' : A' → Option R'} {body' : (A' → Option R') → A' → Option R'} (N : Nat) (I : Nat → A → A' → Prop) {a : A} {a' : A'} (h0 : I 0 a a') (hN : N < 1000000) (hs : ∀ i a a' (rec : A → Option R) (rec' : A' → Option R'), i < N → I i a a' → (∀ c c', I (i + 1) c c' → W2 (rec c) (rec' c') P) → W2 (body rec a) (body' rec' a') P) (he : ∀ a a' (rec : A → Option R) (rec' : A' → Option R'), I N a a' → W2 (body rec a) (body' rec' a') P) : W2 (lp bot body fuel a) (lp bot' body' fuel a') P := by
  have key : ∀ n m i a a', m < n → i + m = N → I i a a' → W2 (lp bot body n a) (lp bot' body' n a') P := by
    intro n
    induction n with
    | zero => intro m i a a' h; omega
    | succ n ih =>
      intro m i a a' h hi hI
      rcases Nat.eq_zero_or_pos m with q | q
      · have : i = N := by omega
        subst this; exact he _ _ _ _ hI
      · exact hs i a a' _ _ (by omega) hI fun c c' h' => ih (m - 1) (i + 1) c c' (by omega) (by omega) h'
  exact key fuel N 0 a a' hN (by omega) h0
theorem w2f_2 {bot : A → B → Option R} {body : (A → B → Option R) → A → B → Option R} {bot' : A' → B' → Option R'} {body' : (A' → B' → Option R') → A' → B' → Option R'} (N : Nat) (I : Nat → A → B → A' → B' → Prop) {a : A} {b : B} {a' : A'} {b' : B'} (h0 : I 0 a b a' b') (hN : N < 1000000) (hs : ∀ i a b a' b' (rec : A → B → Option R) (rec' : A' → B' → Option R'), i < N → I i a b a' b' → (∀ c d c' d', I (i + 1) c d c' d' → W2 (rec c d) (rec' c' d') P) → W2 (body rec a b) (body' rec' a' b') P) (he : ∀ a b a' b' (rec : A → B → Option R) (rec' : A' → B' → Option R'), I N a b a' b' → W2 (body rec a b) (body' rec' a' b') P) : W2 (lp bot body fuel a b) (lp bot' body' fuel a' b') P := by
  have key : ∀ n m i a b a' b', m < n → i + m = N → I i a b a' b' → W2 (lp bot body n a b) (lp bot' body' n a' b') P := by
    intro n
    induction n with
    | zero => intro m i a b a' b' h; omega
    | succ n ih =>
      intro m i a b a' b' h hi hI
      rcases Nat.eq_zero_or_pos m with q | q
      · have : i = N := by omega
        subst this; exact he _ _ _ _ _ _ hI
      · exact hs i a b a' b' _ _ (by omega) hI fun c d c' d' h' => ih (m - 1) (i + 1) c d c' d' (by omega) (by omega) h'
  exact key fuel N 0 a b a' b' hN (by omega) h0
end W2L

/-! from 24.chosen of the class-and-reference proof: what speaks of the class alone -/
/-! The pile, asked: chosen, copied. -/
theorem bnd1_id {α : Type} (x : Option α) : bnd1 x (fun v => some v) = x := by cases x <;> rfl
theorem and1 (x : Int32) : x &&& 1 = 0 ∨ x &&& 1 = 1 := by
  obtain ⟨j, hj, e⟩ := pk_andE x (m := 1) 1 rfl
  rcases (show j = 0 ∨ j = 1 by omega) with rfl | rfl
  · exact Or.inl e
  · exact Or.inr e
theorem or_bit (a b s : Int32) : ((a ||| b) >>> s) &&& 1 = (a >>> s &&& 1) ||| (b >>> s &&& 1) := by
  apply Int32.toBitVec_inj.mp
  simp only [Int32.toBitVec_and, Int32.toBitVec_or, Int32.toBitVec_shiftRight]
  apply BitVec.eq_of_getLsbD_eq
  intro i hi
  simp only [BitVec.getLsbD_and, BitVec.getLsbD_or]
  have e : ∀ n, ((a.toBitVec ||| b.toBitVec).sshiftRight n).getLsbD i = ((a.toBitVec.sshiftRight n).getLsbD i || (b.toBitVec.sshiftRight n).getLsbD i) := fun n => by
    rw [BitVec.getLsbD_sshiftRight, BitVec.getLsbD_sshiftRight, BitVec.getLsbD_sshiftRight]
    by_cases c1 : 32 ≤ i
    · omega
    · by_cases c2 : n + i < 32 <;> simp [c1, c2, BitVec.msb_or]
  cases (1 : Int32).toBitVec.getLsbD i
  · simp
  · simp only [Bool.and_true]; exact e _
theorem or_two (a b : Int32) (k : Int32) : (((a ||| b) >>> k) &&& 1 = 0) ↔ ¬ (a >>> k &&& 1 = 1) ∧ ¬ (b >>> k &&& 1 = 1) := by
  rw [or_bit]
  rcases and1 (a >>> k) with h1 | h1 <;> rcases and1 (b >>> k) with h2 | h2 <;> rw [h1, h2] <;> decide
/-! from 25.sort of the class-and-reference proof: what speaks of the class alone -/
/-! Sorting by insertion, as a function of its own; the pile sorted: points, telling; take. -/
def ins (key : Nat → Int32) (i : Nat) : Nat → (Nat → Nat) → Nat → Nat
  | 0, o => fun k => if k = 0 then i else o k
  | a + 1, o => if key (o a) < key i then ins key i a (fun k => if k = a + 1 then o a else o k) else fun k => if k = a + 1 then i else o k
def srt (key : Nat → Int32) : Nat → Nat → Nat
  | 0 => fun _ => 0
  | n + 1 => ins key n n (srt key n)
theorem ins_s (key : Nat → Int32) (i a : Nat) (o : Nat → Nat) : ins key i (a + 1) o = if key (o a) < key i then ins key i a (fun k => if k = a + 1 then o a else o k) else fun k => if k = a + 1 then i else o k := rfl
theorem ins_lt {key : Nat → Int32} {i : Nat} : ∀ a o, a ≤ i → (∀ k, k ≤ i → k ≠ a → o k < i + 1) → ∀ k, k ≤ i → ins key i a o k < i + 1
  | 0, o, _, h, k, hk => by
    show (if k = 0 then i else o k) < i + 1
    by_cases c : k = 0
    · rw [if_pos c]; omega
    · rw [if_neg c]; exact h k hk c
  | a + 1, o, ha, h, k, hk => by
    show (if key (o a) < key i then ins key i a (fun k => if k = a + 1 then o a else o k) else fun k => if k = a + 1 then i else o k) k < i + 1
    by_cases c : key (o a) < key i
    · rw [if_pos c]
      refine ins_lt a _ (by omega) (fun j hj hja => ?_) k hk
      show (if j = a + 1 then o a else o j) < i + 1
      by_cases c2 : j = a + 1
      · rw [if_pos c2]; exact h a (by omega) (by omega)
      · rw [if_neg c2]; exact h j hj c2
    · rw [if_neg c]
      show (if k = a + 1 then i else o k) < i + 1
      by_cases c2 : k = a + 1
      · rw [if_pos c2]; omega
      · rw [if_neg c2]; exact h k hk c2
theorem srt_lt {key : Nat → Int32} : ∀ n k, k < n → srt key n k < n
  | 0, k, h => absurd h (by omega)
  | n + 1, k, h => ins_lt (key := key) (i := n) n (srt key n) (Nat.le_refl _) (fun j hj hjn => by have := srt_lt (key := key) n j (by omega); omega) k (by omega)
theorem ins_congr {key key' : Nat → Int32} {i : Nat} (hk : ∀ k, k ≤ i → key k = key' k) : ∀ a o o', a ≤ i → (∀ k, k ≤ i → k ≠ a → o k = o' k ∧ o k ≤ i) → ∀ k, k ≤ i → ins key i a o k = ins key' i a o' k
  | 0, o, o', _, h, k, hk' => by
    show (if k = 0 then i else o k) = if k = 0 then i else o' k
    by_cases c : k = 0
    · rw [if_pos c, if_pos c]
    · rw [if_neg c, if_neg c]; exact (h k hk' c).1
  | a + 1, o, o', ha, h, k, hk' => by
    show (if key (o a) < key i then ins key i a (fun k => if k = a + 1 then o a else o k) else fun k => if k = a + 1 then i else o k) k = (if key' (o' a) < key' i then ins key' i a (fun k => if k = a + 1 then o' a else o' k) else fun k => if k = a + 1 then i else o' k) k
    obtain ⟨h1, h2⟩ := h a (by omega) (by omega)
    rw [← h1, ← hk _ h2, ← hk i (Nat.le_refl _)]
    by_cases c : key (o a) < key i
    · rw [if_pos c, if_pos c]
      refine ins_congr hk a _ _ (by omega) (fun j hj hja => ?_) k hk'
      show (if j = a + 1 then o a else o j) = (if j = a + 1 then o a else o' j) ∧ (if j = a + 1 then o a else o j) ≤ i
      by_cases c2 : j = a + 1
      · rw [if_pos c2, if_pos c2]; exact ⟨rfl, h2⟩
      · rw [if_neg c2, if_neg c2]; exact h j hj c2
    · rw [if_neg c, if_neg c]
      show (if k = a + 1 then i else o k) = if k = a + 1 then i else o' k
      by_cases c2 : k = a + 1
      · rw [if_pos c2, if_pos c2]
      · rw [if_neg c2, if_neg c2]; exact (h k hk' c2).1
theorem srt_congr {key key' : Nat → Int32} : ∀ n, (∀ k, k < n → key k = key' k) → ∀ k, k < n → srt key n k = srt key' n k
  | 0, _, k, hk => absurd hk (by omega)
  | n + 1, h, k, hk => ins_congr (i := n) (fun j hj => h j (by omega)) n _ _ (Nat.le_refl _) (fun j hj hjn => ⟨srt_congr n (fun l hl => h l (by omega)) j (by omega), by have := srt_lt (key := key) n j (by omega); omega⟩) k (by omega)
def ordd (d : Nat → Int32) (o : Nat → Nat) (i a : Nat) : Prop := ∀ k, k ≤ i → k ≠ a → d k = nI (o k)
section SORT
variable {σ : SS} {i : Nat}
end SORT
/-! from 26.telling of the class-and-reference proof: what speaks of the class alone -/
/-! The pile: telling, take. -/
def Mv (c s0 : Nat) (σ : SS) (n m q : Nat) (σ' : SS) : Prop := gR σ' = gR σ ∧ (∀ c' k, ¬ (c ≤ c' ∧ c' ≤ c + 3) → gI σ' c' k = gI σ c' k) ∧ (∀ j, j < 3 → ∀ t, gI σ' (c + j) t = if s0 ≤ t ∧ t < s0 + n then gI σ (c + j) (t + 1) else gI σ (c + j) t) ∧ ∀ t p, p < 12 → gI σ' (c + 3) (12 * t + p) = if s0 ≤ t ∧ (t < s0 + m ∨ t = s0 + m ∧ p < q) then gI σ (c + 3) (12 * (t + 1) + p) else gI σ (c + 3) (12 * t + p)
theorem Mv.z (c s0 : Nat) (σ : SS) : Mv c s0 σ 0 0 0 σ := ⟨rfl, fun _ _ _ => rfl, fun j hj t => by rw [if_neg (by omega)], fun t p hp => by rw [if_neg (by omega)]⟩
theorem Mv.row {c s0 n : Nat} {σ σ' : SS} (h : Mv c s0 σ n n 0 σ') : Mv c s0 σ (n + 1) n 0 (sI (sI (sI σ' c (s0 + n) (gI σ' c (s0 + n + 1))) (c + 1) (s0 + n) (gI (sI σ' c (s0 + n) (gI σ' c (s0 + n + 1))) (c + 1) (s0 + n + 1))) (c + 2) (s0 + n) (gI (sI (sI σ' c (s0 + n) (gI σ' c (s0 + n + 1))) (c + 1) (s0 + n) (gI (sI σ' c (s0 + n) (gI σ' c (s0 + n + 1))) (c + 1) (s0 + n + 1))) (c + 2) (s0 + n + 1))) := by
  obtain ⟨h1, h2, h3, h4⟩ := h
  refine ⟨h1, fun c' k hk => ?_, fun j hj t => ?_, fun t p hp => ?_⟩
  · rw [gI_nk (by omega), gI_nk (by omega), gI_nk (by omega)]; exact h2 c' k hk
  · by_cases ht : t = s0 + n
    · subst ht
      rw [if_pos (by omega)]
      rcases (show j = 0 ∨ j = 1 ∨ j = 2 by omega) with rfl | rfl | rfl
      · rw [gI_nk (by omega), gI_nk (by omega)]
        refine (gI_eq σ' c (s0 + n) _).trans ?_
        exact (h3 0 (by omega) _).trans (if_neg (by omega))
      · rw [gI_nk (by omega), gI_eq, gI_nk (by omega), h3 1 (by omega), if_neg (by omega)]
      · rw [gI_eq, gI_nk (by omega), gI_nk (by omega), h3 2 (by omega), if_neg (by omega)]
    · rw [gI_nk (by omega), gI_nk (by omega), gI_nk (by omega), h3 j hj]
      by_cases c1 : s0 ≤ t ∧ t < s0 + n
      · rw [if_pos c1, if_pos (by omega)]
      · rw [if_neg c1, if_neg (by omega)]
  · rw [gI_nk (by omega), gI_nk (by omega), gI_nk (by omega), h4 t p hp]
theorem Mv.ans {c s0 n q : Nat} {σ σ' : SS} (h : Mv c s0 σ (n + 1) n q σ') (hq : q < 12) : Mv c s0 σ (n + 1) n (q + 1) (sI σ' (c + 3) (12 * (s0 + n) + q) (gI σ' (c + 3) (12 * (s0 + n + 1) + q))) := by
  obtain ⟨h1, h2, h3, h4⟩ := h
  refine ⟨h1, fun c' k hk => ?_, fun j hj t => ?_, fun t p hp => ?_⟩
  · rw [gI_nk (by omega)]; exact h2 c' k hk
  · rw [gI_nk (by omega)]; exact h3 j hj t
  · by_cases ht : 12 * t + p = 12 * (s0 + n) + q
    · have a1 : t = s0 + n := by omega
      have a2 : p = q := by omega
      subst a1; subst a2
      rw [gI_eq, if_pos (by omega), h4 (s0 + n + 1) p hp, if_neg (by omega)]
    · rw [gI_nk (by omega), h4 t p hp]
      by_cases c1 : s0 ≤ t ∧ (t < s0 + n ∨ t = s0 + n ∧ p < q)
      · rw [if_pos c1, if_pos (by omega)]
      · rw [if_neg c1, if_neg (by omega)]
theorem Mv.wrap {c s0 n : Nat} {σ σ' : SS} (h : Mv c s0 σ (n + 1) n 12 σ') : Mv c s0 σ (n + 1) (n + 1) 0 σ' := by
  obtain ⟨h1, h2, h3, h4⟩ := h
  refine ⟨h1, h2, h3, fun t p hp => ?_⟩
  rw [h4 t p hp]
  by_cases c1 : s0 ≤ t ∧ t < s0 + (n + 1)
  · rw [if_pos (by omega), if_pos (by omega)]
  · rw [if_neg (by omega), if_neg (by omega)]
/-! from 27.spare of the class-and-reference proof: what speaks of the class alone -/
/-! Pictures by places; the spare scan filled and taken; shift. -/
theorem ix_inj {w x y x' y' : Nat} (hx : x < w) (hx' : x' < w) (h : y * w + x = y' * w + x') : x = x' ∧ y = y' := by
  have h1 : (y * w + x) % w = x := by rw [Nat.mul_comm, Nat.mul_add_mod, Nat.mod_eq_of_lt hx]
  have h2 : (y' * w + x') % w = x' := by rw [Nat.mul_comm, Nat.mul_add_mod, Nat.mod_eq_of_lt hx']
  have e : x = x' := by rw [← h1, h, h2]
  subst e
  exact ⟨rfl, Nat.eq_of_mul_eq_mul_right (show 0 < w by omega) (by omega)⟩
def Vis (d : Nat → Int32) (w q : Nat) (F : Nat → Nat → Int32) (V : Nat → Nat → Prop) : Prop := ∀ x y, x < w → y < q → V x y → d (y * w + x) = F x y
theorem Vis.put {d : Nat → Int32} {w q X Y : Nat} {F : Nat → Nat → Int32} {V V' : Nat → Nat → Prop} {v : Int32} (h : Vis d w q F V) (hX : X < w) (hV : ∀ x y, x < w → y < q → V' x y → V x y ∨ (x = X ∧ y = Y)) (hv : v = F X Y) : Vis (upd d (Y * w + X) v) w q F V' := by
  intro x y hx hy hxy
  show (if y * w + x = Y * w + X then v else d (y * w + x)) = F x y
  by_cases e : y * w + x = Y * w + X
  · obtain ⟨rfl, rfl⟩ := ix_inj hx hX e
    rw [if_pos rfl]; exact hv
  · rw [if_neg e]
    rcases hV x y hx hy hxy with h1 | ⟨rfl, rfl⟩
    · exact h x y hx hy h1
    · exact absurd rfl e
theorem Vis.keep {d : Nat → Int32} {w q X Y : Nat} {F : Nat → Nat → Int32} {V V' : Nat → Nat → Prop} {v : Int32} (h : Vis d w q F V) (hX : X < w) (hV : ∀ x y, x < w → y < q → V' x y → V x y ∧ ¬ (x = X ∧ y = Y)) : Vis (upd d (Y * w + X) v) w q F V' := by
  intro x y hx hy hxy
  show (if y * w + x = Y * w + X then v else d (y * w + x)) = F x y
  obtain ⟨h1, h2⟩ := hV x y hx hy hxy
  rw [if_neg fun e => h2 (ix_inj hx hX e)]
  exact h x y hx hy h1
theorem Vis.imp {d : Nat → Int32} {w q : Nat} {F : Nat → Nat → Int32} {V V' : Nat → Nat → Prop} (h : Vis d w q F V) (hV : ∀ x y, x < w → y < q → V' x y → V x y) : Vis d w q F V' := fun x y hx hy hxy => h x y hx hy (hV x y hx hy hxy)
theorem of_ix {w q k : Nat} (hk : k < w * q) : ∃ x y, x < w ∧ y < q ∧ k = y * w + x := by
  have hw : 0 < w := Nat.pos_of_ne_zero fun h => by subst h; omega
  refine ⟨k % w, k / w, Nat.mod_lt _ hw, Nat.div_lt_of_lt_mul hk, ?_⟩
  have := Nat.div_add_mod k w
  rw [Nat.mul_comm (k / w) w]; omega
theorem at_eq {σ : SS} {s w h : Nat} (hw : gI σ s 0 = nI w) (hh : gI σ s 1 = nI h) (hw2 : w ≤ 40) (hh2 : h ≤ 40) (x y : Int32) : fX6_at σ s x y = some (if (0 ≤ x.toInt ∧ x.toInt < w) ∧ 0 ≤ y.toInt ∧ y.toInt < h then gI σ (s + 1) (y.toInt.toNat * w + x.toInt.toNat) else 0) := by
  unfold fX6_at
  by_cases c : (0 ≤ x.toInt ∧ x.toInt < w) ∧ 0 ≤ y.toInt ∧ y.toInt < h
  · rw [if_pos (by rw [has_eq hw hh hw2 hh2]; exact c), if_pos c]
    obtain ⟨X, hX, rfl⟩ := in_of (by omega) c.1
    obtain ⟨Y, hY, rfl⟩ := in_of (by omega) c.2
    have hk := cell_lt hX hY
    have ha := area_le hw2 hh2
    rw [hw, ix_c, grd_eq _ (inb_nI (by omega) (by omega)), nI_clamp (by omega), nI_toInt (by omega), nI_toInt (by omega)]
    rfl
  · rw [if_neg (by rw [has_eq hw hh hw2 hh2]; exact c), if_neg c]
theorem at_in {σ : SS} {s w h X Y : Nat} (hw : gI σ s 0 = nI w) (hh : gI σ s 1 = nI h) (hw2 : w ≤ 40) (hh2 : h ≤ 40) (hX : X < w) (hY : Y < h) : fX6_at σ s (nI X) (nI Y) = some (gI σ (s + 1) (Y * w + X)) := by
  rw [at_eq hw hh hw2 hh2, nI_toInt (by omega), nI_toInt (by omega), if_pos (by omega)]
  rfl
def Spare (s t w q : Nat) (F : Nat → Nat → Int32) (σ σ1 : SS) : Prop := gR σ1 = gR σ ∧ gI σ1 t 0 = nI w ∧ gI σ1 t 1 = nI q ∧ Vis (gI σ1 (t + 1)) w q F (fun _ _ => True) ∧ ∀ c k, c ≠ t → c ≠ t + 1 → c ≠ s + 2 → gI σ1 c k = gI σ c k
def Dots (w q : Nat) (F : Nat → Nat → Int32) (σ σ2 : SS) : Prop := gR σ2 = gR σ ∧ Vis (gI σ2 83) w q F (fun _ _ => True) ∧ (∀ k, k < 1600 → gI σ2 84 k = gI σ 83 k) ∧ ∀ c k, c ≠ 83 → c ≠ 84 → c ≠ 91 → gI σ2 c k = gI σ c k
def swp (s t : Nat) (σ : SS) : SS := sR (sR σ 1 2 t) 1 3 s
theorem swp_I (s t : Nat) (σ : SS) : gI (swp s t σ) = gI σ := rfl
theorem swap_eq {s t : Nat} {σ : SS} (h2 : gR σ 1 2 = s) (h3 : gR σ 1 3 = t) : fX7_swapScans σ = some (swp s t σ) := by
  unfold fX7_swapScans
  simp only [vthen_eq]
  rw [h2, h3]
  rfl
/-! from 28.shift of the class-and-reference proof: what speaks of the class alone -/
/-! Shift, copy. -/
theorem ti_bm {z : Int} (h1 : -2147483648 ≤ z) (h2 : z < 2147483648) : z.bmod (2 ^ 32) = z := Int.bmod_eq_of_le (by omega) (by omega)
theorem ti_sub {x y : Int32} (h1 : -2147483648 ≤ x.toInt - y.toInt) (h2 : x.toInt - y.toInt < 2147483648) : (x - y).toInt = x.toInt - y.toInt := by rw [Int32.toInt_sub, ti_bm h1 h2]
theorem ti_add {x y : Int32} (h1 : -2147483648 ≤ x.toInt + y.toInt) (h2 : x.toInt + y.toInt < 2147483648) : (x + y).toInt = x.toInt + y.toInt := by rw [Int32.toInt_add, ti_bm h1 h2]
theorem ti_mul {x y : Int32} (h1 : -2147483648 ≤ x.toInt * y.toInt) (h2 : x.toInt * y.toInt < 2147483648) : (x * y).toInt = x.toInt * y.toInt := by rw [Int32.toInt_mul, ti_bm h1 h2]
def shF (src : Nat → Int32) (w q : Nat) (u v : Int) (x y : Nat) : Int32 := if (0 ≤ (x : Int) - u ∧ (x : Int) - u < w) ∧ 0 ≤ (y : Int) - v ∧ (y : Int) - v < q then src (((y : Int) - v).toNat * w + ((x : Int) - u).toNat) else 0
section SHIFT
variable {σ : SS} {s t w q : Nat} {u v : Int32}
end SHIFT
theorem shF_congr {src src' : Nat → Int32} {w q : Nat} {u v : Int} (h : ∀ k, k < w * q → src k = src' k) (x y : Nat) : shF src w q u v x y = shF src' w q u v x y := by
  unfold shF
  by_cases c : (0 ≤ (x : Int) - u ∧ (x : Int) - u < w) ∧ 0 ≤ (y : Int) - v ∧ (y : Int) - v < q
  · rw [if_pos c, if_pos c]; exact h _ (cell_lt (by omega) (by omega))
  · rw [if_neg c, if_neg c]
theorem Spare.congr {s t w q : Nat} {F F' : Nat → Nat → Int32} {σ σ1 : SS} (h : Spare s t w q F σ σ1) (hF : ∀ x y, x < w → y < q → F x y = F' x y) : Spare s t w q F' σ σ1 := ⟨h.1, h.2.1, h.2.2.1, fun x y hx hy hv => (h.2.2.2.1 x y hx hy hv).trans (hF x y hx hy), h.2.2.2.2⟩
theorem Dots.congr {w q : Nat} {F F' : Nat → Nat → Int32} {σ σ1 : SS} (h : Dots w q F σ σ1) (hF : ∀ x y, x < w → y < q → F x y = F' x y) : Dots w q F' σ σ1 := ⟨h.1, fun x y hx hy hv => (h.2.1 x y hx hy hv).trans (hF x y hx hy), h.2.2⟩
/-! from 29.copy of the class-and-reference proof: what speaks of the class alone -/
/-! Copy. -/
theorem ite_iff {α : Type} {c c' : Prop} [Decidable c] [Decidable c'] {x y : α} (h : c ↔ c') : (if c then x else y) = if c' then x else y := by
  by_cases hc : c
  · rw [if_pos hc, if_pos (h.mp hc)]
  · rw [if_neg hc, if_neg fun q => hc (h.mpr q)]
theorem Vis.chg {d : Nat → Int32} {w q X Y : Nat} {G G' : Nat → Nat → Int32} {v : Int32} (h : Vis d w q G fun _ _ => True) (hX : X < w) (hg : ∀ x y, x < w → y < q → ¬ (x = X ∧ y = Y) → G' x y = G x y) (hv : v = G' X Y) : Vis (upd d (Y * w + X) v) w q G' fun _ _ => True := by
  intro x y hx hy _
  show (if y * w + x = Y * w + X then v else d (y * w + x)) = G' x y
  by_cases e : y * w + x = Y * w + X
  · obtain ⟨rfl, rfl⟩ := ix_inj hx hX e
    rw [if_pos rfl]; exact hv
  · rw [if_neg e, hg x y hx hy fun c => e (by rw [c.1, c.2])]
    exact h x y hx hy trivial
theorem Vis.fn {d : Nat → Int32} {w q : Nat} {G G' : Nat → Nat → Int32} (h : Vis d w q G fun _ _ => True) (hg : ∀ x y, x < w → y < q → G' x y = G x y) : Vis d w q G' fun _ _ => True := fun x y hx hy _ => (h x y hx hy trivial).trans (hg x y hx hy).symm
def cpF (src : Nat → Int32) (w q x0 y0 W0 H0 u v i j x y : Nat) : Int32 := if (u ≤ x ∧ v ≤ y ∧ (y < v + j ∨ y = v + j ∧ x < u + i)) ∧ x < u + W0 ∧ y < v + H0 ∧ x + x0 < w + u ∧ y + y0 < q + v then src ((y + y0 - v) * w + (x + x0 - u)) else src (y * w + x)
theorem cpF_if {src : Nat → Int32} {w q x0 y0 W0 H0 u v i j i' j' x y : Nat} (h : ((u ≤ x ∧ v ≤ y ∧ (y < v + j ∨ y = v + j ∧ x < u + i)) ∧ x < u + W0 ∧ y < v + H0 ∧ x + x0 < w + u ∧ y + y0 < q + v) ↔ ((u ≤ x ∧ v ≤ y ∧ (y < v + j' ∨ y = v + j' ∧ x < u + i')) ∧ x < u + W0 ∧ y < v + H0 ∧ x + x0 < w + u ∧ y + y0 < q + v)) : cpF src w q x0 y0 W0 H0 u v i j x y = cpF src w q x0 y0 W0 H0 u v i' j' x y := ite_iff h
theorem cpF_congr {src src' : Nat → Int32} {w q x0 y0 W0 H0 u v i j x y : Nat} (hx : x < w) (hy : y < q) (h : ∀ k, k < w * q → src k = src' k) : cpF src w q x0 y0 W0 H0 u v i j x y = cpF src' w q x0 y0 W0 H0 u v i j x y := by
  unfold cpF
  by_cases c : (u ≤ x ∧ v ≤ y ∧ (y < v + j ∨ y = v + j ∧ x < u + i)) ∧ x < u + W0 ∧ y < v + H0 ∧ x + x0 < w + u ∧ y + y0 < q + v
  · rw [if_pos c, if_pos c]; exact h _ (cell_lt (by omega) (by omega))
  · rw [if_neg c, if_neg c]; exact h _ (cell_lt hx hy)
section COPY
variable {σ : SS} {s t w q x0 y0 W0 H0 u v : Nat}
end COPY
/-! from 30.turn of the class-and-reference proof: what speaks of the class alone -/
/-! Turn: a scan by quarters. -/
def tF (src : Nat → Int32) (w q : Nat) : Nat → Nat → Nat → Int32
  | 0, x, y => src (y * w + x)
  | 1, x, y => src ((q - 1 - x) * w + y)
  | 2, x, y => src ((q - 1 - y) * w + (w - 1 - x))
  | 3, x, y => src (x * w + (w - 1 - y))
  | _, x, y => src (y * w + x)
def tW (w q k : Nat) : Nat := if k % 2 = 0 then w else q
theorem tF_s (src : Nat → Int32) {w q k X Y : Nat} (hk : k < 4) (hX : X < tW q w k) (hY : Y < tW w q k) : tF src w q (k + 1) X Y = tF src w q k Y (tW q w k - 1 - X) := by
  rcases (show k = 0 ∨ k = 1 ∨ k = 2 ∨ k = 3 by omega) with rfl | rfl | rfl | rfl
  · rfl
  · rfl
  · have h : X < q := hX
    show src (X * w + (w - 1 - Y)) = src ((q - 1 - (q - 1 - X)) * w + (w - 1 - Y))
    rw [show q - 1 - (q - 1 - X) = X by omega]
  · have h : X < w := hX
    show src (Y * w + X) = src (Y * w + (w - 1 - (w - 1 - X)))
    rw [show w - 1 - (w - 1 - X) = X by omega]
theorem tF_congr {src src' : Nat → Int32} {w q k X Y : Nat} (hk : k < 4) (hX : X < tW w q k) (hY : Y < tW q w k) (h : ∀ j, j < w * q → src j = src' j) : tF src w q k X Y = tF src' w q k X Y := by
  rcases (show k = 0 ∨ k = 1 ∨ k = 2 ∨ k = 3 by omega) with rfl | rfl | rfl | rfl
  · exact h _ (cell_lt (show X < w from hX) (show Y < q from hY))
  · have h1 : X < q := hX
    have h2 : Y < w := hY
    exact h _ (cell_lt h2 (show q - 1 - X < q by omega))
  · have h1 : X < w := hX
    have h2 : Y < q := hY
    exact h _ (cell_lt (show w - 1 - X < w by omega) (show q - 1 - Y < q by omega))
  · have h1 : X < q := hX
    have h2 : Y < w := hY
    exact h _ (cell_lt (show w - 1 - Y < w by omega) h1)
theorem tF_rng {src : Nat → Int32} {w q k X Y : Nat} (hk : k < 4) (hX : X < tW w q k) (hY : Y < tW q w k) (h : ∀ j, j < w * q → inR (src j) 0 9) : inR (tF src w q k X Y) 0 9 := by
  rcases (show k = 0 ∨ k = 1 ∨ k = 2 ∨ k = 3 by omega) with rfl | rfl | rfl | rfl
  · exact h _ (cell_lt (show X < w from hX) (show Y < q from hY))
  · have h1 : X < q := hX
    have h2 : Y < w := hY
    exact h _ (cell_lt h2 (show q - 1 - X < q by omega))
  · have h1 : X < w := hX
    have h2 : Y < q := hY
    exact h _ (cell_lt (show w - 1 - X < w by omega) (show q - 1 - Y < q by omega))
  · have h1 : X < q := hX
    have h2 : Y < w := hY
    exact h _ (cell_lt (show w - 1 - Y < w by omega) h1)
theorem tW_le {w q k : Nat} (hw : 8 ≤ w ∧ w ≤ 40) (hq : 8 ≤ q ∧ q ≤ 40) : 8 ≤ tW w q k ∧ tW w q k ≤ 40 := by
  unfold tW; split <;> assumption
def tV (w q : Nat) : Nat → Nat → Nat → Nat → Nat → Prop
  | 0, i, j, x, y => y < j ∨ y = j ∧ x < i
  | 1, i, j, x, y => q - 1 - x < j ∨ q - 1 - x = j ∧ y < i
  | 2, i, j, x, y => q - 1 - y < j ∨ q - 1 - y = j ∧ w - 1 - x < i
  | 3, i, j, x, y => x < j ∨ x = j ∧ w - 1 - y < i
  | _, _, _, _, _ => False
theorem tV_0 {w q k x y : Nat} : ¬ tV w q k 0 0 x y := by
  rcases k with _ | _ | _ | _ | k
  · show ¬ (y < 0 ∨ y = 0 ∧ x < 0); omega
  · show ¬ (q - 1 - x < 0 ∨ q - 1 - x = 0 ∧ y < 0); omega
  · show ¬ (q - 1 - y < 0 ∨ q - 1 - y = 0 ∧ w - 1 - x < 0); omega
  · show ¬ (x < 0 ∨ x = 0 ∧ w - 1 - y < 0); omega
  · exact fun h => h
theorem tV_row {w q k j x y : Nat} (hk : k < 4) (hw : 1 ≤ w) (hx : x < tW w q k) (hy : y < tW q w k) (h : tV w q k 0 (j + 1) x y) : tV w q k w j x y := by
  rcases (show k = 0 ∨ k = 1 ∨ k = 2 ∨ k = 3 by omega) with rfl | rfl | rfl | rfl
  · have h1 : x < w := hx
    have h2 : y < j + 1 ∨ y = j + 1 ∧ x < 0 := h
    show y < j ∨ y = j ∧ x < w; omega
  · have h1 : y < w := hy
    have h2 : q - 1 - x < j + 1 ∨ q - 1 - x = j + 1 ∧ y < 0 := h
    show q - 1 - x < j ∨ q - 1 - x = j ∧ y < w; omega
  · have h2 : q - 1 - y < j + 1 ∨ q - 1 - y = j + 1 ∧ w - 1 - x < 0 := h
    show q - 1 - y < j ∨ q - 1 - y = j ∧ w - 1 - x < w; omega
  · have h2 : x < j + 1 ∨ x = j + 1 ∧ w - 1 - y < 0 := h
    show x < j ∨ x = j ∧ w - 1 - y < w; omega
theorem tV_all {w q k x y : Nat} (hk : k < 4) (hx : x < tW w q k) (hy : y < tW q w k) (hq : 1 ≤ q) : tV w q k 0 q x y := by
  rcases (show k = 0 ∨ k = 1 ∨ k = 2 ∨ k = 3 by omega) with rfl | rfl | rfl | rfl
  · have h1 : y < q := hy
    show y < q ∨ y = q ∧ x < 0; omega
  · show q - 1 - x < q ∨ q - 1 - x = q ∧ y < 0; omega
  · show q - 1 - y < q ∨ q - 1 - y = q ∧ w - 1 - x < 0; omega
  · have h1 : x < q := hx
    show x < q ∨ x = q ∧ w - 1 - y < 0; omega
section TURN
variable {σ : SS} {s t w q k : Nat}
theorem turned7 (hst : s = 3 ∧ t = 6 ∨ s = 6 ∧ t = 3) (hw : 1 ≤ w ∧ w ≤ 40) (hq : 1 ≤ q ∧ q ≤ 40) (e1 : gI σ s 0 = nI w) (e2 : gI σ s 1 = nI q) (hk : k < 4) : WP (fX6_takeTurned σ t s (nI k)) (Spare s t (tW w q k) (tW q w k) (tF (gI σ (s + 1)) w q k) σ) := by
  have hm : irm (nI k) 2 = nI (k % 2) := pk_rem (d := 2) (by omega) (by omega) (by omega)
  have ez : (nI (k % 2) = 0) ↔ k % 2 = 0 := nI_eq (b := 0) (by omega) (by omega)
  unfold fX6_takeTurned
  simp only [vthen_eq]
  rw [hm, e1, e2]
  have go : WP (X6_takeTurned_L46 t s (nI k) (nI w) (nI q) fuel 0 (sI (sI σ t 0 (nI (tW w q k))) t 1 (nI (tW q w k)))) (Spare s t (tW w q k) (tW q w k) (tF (gI σ (s + 1)) w q k) σ) := by
    generalize hσ : sI (sI σ t 0 (nI (tW w q k))) t 1 (nI (tW q w k)) = σ0
    have f0 : gI σ0 t 0 = nI (tW w q k) := by rw [← hσ, gI_nk (by omega), gI_eq]
    have f1 : gI σ0 t 1 = nI (tW q w k) := by rw [← hσ, gI_eq]
    have fk : ∀ c, c ≠ t → gI σ0 c = gI σ c := fun c hc => by rw [← hσ, gI_ne hc, gI_ne hc]
    have fR : gR σ0 = gR σ := by rw [← hσ]; rfl
    have hW : tW w q k ≤ 40 := by unfold tW; split <;> omega
    have hH : tW q w k ≤ 40 := by unfold tW; split <;> omega
    have k0 : ∀ d, gI (sA σ0 (t + 1) d) s 0 = nI w := fun d => by rw [gI_A_ne (by omega), fk s (by omega)]; exact e1
    have k1 : ∀ d, gI (sA σ0 (t + 1) d) s 1 = nI q := fun d => by rw [gI_A_ne (by omega), fk s (by omega)]; exact e2
    have g0 : ∀ d, gI (sA σ0 (t + 1) d) t 0 = nI (tW w q k) := fun d => by rw [gI_A_ne (by omega)]; exact f0
    have g1 : ∀ d, gI (sA σ0 (t + 1) d) t 1 = nI (tW q w k) := fun d => by rw [gI_A_ne (by omega)]; exact f1
    suffices hh : WP (X6_takeTurned_L46 t s (nI k) (nI w) (nI q) fuel (0 : Int32) (sA σ0 (t + 1) (gI σ0 (t + 1)))) (fun r => ∃ d, r = sA σ0 (t + 1) d ∧ Vis d (tW w q k) (tW q w k) (tF (gI σ (s + 1)) w q k) fun _ _ => True) by
      rw [sA_self] at hh
      refine wp_imp hh ?_
      rintro _ ⟨d, rfl, hd⟩
      refine ⟨fR, ?_, ?_, ?_, fun c k h1 h2 h3 => ?_⟩
      · exact g0 d
      · exact g1 d
      · rw [gI_A]; exact hd
      · rw [gI_A_ne h2, fk c h1]
    unfold X6_takeTurned_L46
    refine wf_2 q (fun j vv s' => vv = nI j ∧ ∃ d, s' = sA σ0 (t + 1) d ∧ Vis d (tW w q k) (tW q w k) (tF (gI σ (s + 1)) w q k) (tV w q k 0 j)) ⟨rfl, _, rfl, fun x y _ _ h => absurd h tV_0⟩ (by omega) ?_ ?_
    · rintro j _ _ rec hj ⟨rfl, d, rfl, hd⟩ hr
      rw [if_neg (nI_ge hj (by omega))]
      unfold X6_takeTurned_L56
      refine wf_2 w (fun i x s' => x = nI i ∧ ∃ d, s' = sA σ0 (t + 1) d ∧ Vis d (tW w q k) (tW q w k) (tF (gI σ (s + 1)) w q k) (tV w q k i j)) ⟨rfl, d, rfl, hd⟩ (by omega) ?_ ?_
      · rintro i _ _ rec2 hi ⟨rfl, d2, rfl, hd2⟩ hr2
        have sq : nI q - 1 - nI j = nI (q - 1 - j) := by rw [show nI q - 1 = nI (q - 1) from nI_sub (a := q) (b := 1) (by omega), nI_sub (by omega)]
        have sw : nI w - 1 - nI i = nI (w - 1 - i) := by rw [show nI w - 1 = nI (w - 1) from nI_sub (a := w) (b := 1) (by omega), nI_sub (by omega)]
        rw [if_neg (nI_ge hi (by omega)), at_in (k0 d2) (k1 d2) hw.2 hq.2 hi hj, bnd1_some, gI_A_ne (c' := s + 1) (by omega), fk (s + 1) (by omega), sq, sw, nI_1]
        have ke : ∀ m : Nat, m < 4 → (nI k = nI m ↔ k = m) := fun m hm => nI_eq (by omega) (by omega)
        have put : ∀ X Y, X < tW w q k → Y < tW q w k → tF (gI σ (s + 1)) w q k X Y = gI σ (s + 1) (j * w + i) → (∀ x y, x < tW w q k → y < tW q w k → tV w q k (i + 1) j x y → tV w q k i j x y ∨ (x = X ∧ y = Y)) → WP (bnd (fX6_put (sA σ0 (t + 1) d2) t (nI X) (nI Y) (gI σ (s + 1) (j * w + i))) fun b11 σ13 => rec2 (nI (i + 1)) σ13) (fun r => ∃ d, r = sA σ0 (t + 1) d ∧ Vis d (tW w q k) (tW q w k) (tF (gI σ (s + 1)) w q k) fun _ _ => True) := fun X Y hX hY hv hV => by
          obtain ⟨b, z, -⟩ := put_in (σ := sA σ0 (t + 1) d2) (s := t) (w := tW w q k) (h := tW q w k) (X := X) (Y := Y) (g0 d2) (g1 d2) hW hH hX hY (gI σ (s + 1) (j * w + i))
          rw [bnd_of _ z, sI_A]
          exact hr2 _ _ ⟨rfl, _, rfl, hd2.put hX hV hv.symm⟩
        rcases (show k = 0 ∨ k = 1 ∨ k = 2 ∨ k = 3 by omega) with rfl | rfl | rfl | rfl
        · rw [if_neg (by decide), if_neg (by decide), if_neg (by decide)]
          refine put i j hi hj rfl fun x y h1 h2 h3 => ?_
          have h4 : y < j ∨ y = j ∧ x < i + 1 := h3
          show (y < j ∨ y = j ∧ x < i) ∨ _; omega
        · rw [if_pos (by decide)]
          refine put (q - 1 - j) i (show q - 1 - j < q by omega) (show i < w from hi) ?_ fun x y h1 h2 h3 => ?_
          · show gI σ (s + 1) ((q - 1 - (q - 1 - j)) * w + i) = _
            rw [show q - 1 - (q - 1 - j) = j by omega]
          · have h5 : x < q := h1
            have h4 : q - 1 - x < j ∨ q - 1 - x = j ∧ y < i + 1 := h3
            show (q - 1 - x < j ∨ q - 1 - x = j ∧ y < i) ∨ _; omega
        · rw [if_neg (by decide), if_pos (by decide)]
          refine put (w - 1 - i) (q - 1 - j) (show w - 1 - i < w by omega) (show q - 1 - j < q by omega) ?_ fun x y h1 h2 h3 => ?_
          · show gI σ (s + 1) ((q - 1 - (q - 1 - j)) * w + (w - 1 - (w - 1 - i))) = _
            rw [show q - 1 - (q - 1 - j) = j by omega, show w - 1 - (w - 1 - i) = i by omega]
          · have h5 : x < w := h1
            have h6 : y < q := h2
            have h4 : q - 1 - y < j ∨ q - 1 - y = j ∧ w - 1 - x < i + 1 := h3
            show (q - 1 - y < j ∨ q - 1 - y = j ∧ w - 1 - x < i) ∨ _; omega
        · rw [if_neg (by decide), if_neg (by decide), if_pos (by decide)]
          refine put j (w - 1 - i) (show j < q from hj) (show w - 1 - i < w by omega) ?_ fun x y h1 h2 h3 => ?_
          · show gI σ (s + 1) (j * w + (w - 1 - (w - 1 - i))) = _
            rw [show w - 1 - (w - 1 - i) = i by omega]
          · have h5 : x < q := h1
            have h6 : y < w := h2
            have h4 : x < j ∨ x = j ∧ w - 1 - y < i + 1 := h3
            show (x < j ∨ x = j ∧ w - 1 - y < i) ∨ _; omega
      · rintro _ _ rec2 ⟨rfl, d2, rfl, hd2⟩
        rw [if_pos (nI_le (Nat.le_refl _) (by omega)), nI_1]
        exact hr _ _ ⟨rfl, _, rfl, hd2.imp fun x y h1 h2 h => tV_row hk hw.1 h1 h2 h⟩
    · rintro _ _ rec ⟨rfl, d, rfl, hd⟩
      rw [if_pos (nI_le (Nat.le_refl _) (by omega))]
      exact wp_some ⟨d, rfl, hd.imp fun x y h1 h2 _ => tV_all hk h1 h2 hq.1⟩
  by_cases c : k % 2 = 0
  · rw [if_pos (ez.mpr c), if_pos (ez.mpr c)]
    have t1 : tW w q k = w := if_pos c
    have t2 : tW q w k = q := if_pos c
    rw [t1, t2] at go
    rw [t1, t2]
    exact go
  · rw [if_neg fun e => c (ez.mp e), if_neg fun e => c (ez.mp e)]
    have t1 : tW w q k = q := if_neg c
    have t2 : tW q w k = w := if_neg c
    rw [t1, t2] at go
    rw [t1, t2]
    exact go
def Trn (w q : Nat) (F : Nat → Nat → Int32) (σ σ2 : SS) : Prop := gR σ2 = gR σ ∧ gI σ2 73 29 = nI w ∧ gI σ2 73 30 = nI q ∧ Vis (gI σ2 83) w q F (fun _ _ => True) ∧ ∀ c k, c ≠ 83 → c ≠ 84 → ¬ (c = 73 ∧ (k = 29 ∨ k = 30)) → gI σ2 c k = gI σ c k
end TURN
theorem Trn.tr {w q w' q' : Nat} {F F' : Nat → Nat → Int32} {σ σ1 σ2 : SS} (h1 : Trn w q F σ σ1) (h2 : Trn w' q' F' σ1 σ2) : Trn w' q' F' σ σ2 := ⟨h2.1.trans h1.1, h2.2.1, h2.2.2.1, h2.2.2.2.1, fun c k a b d => (h2.2.2.2.2 c k a b d).trans (h1.2.2.2.2 c k a b d)⟩
theorem tW_s (w q k : Nat) : tW w q (k + 1) = tW q w k := by
  unfold tW
  by_cases c : k % 2 = 0
  · rw [if_neg (by omega), if_pos c]
  · rw [if_pos (by omega), if_neg c]
/-! from 31.noise of the class-and-reference proof: what speaks of the class alone -/
/-! Noise. -/
def nsX (X : Nat) : Nat := (25173 * X + 13849) % 65536
def nsAt (w q X : Nat) : Nat := nsX (nsX X) / 4 % q * w + nsX X / 4 % w
def nsV (X : Nat) (x : Int32) : Int32 := if nsX (nsX (nsX X)) / 4 % 3 = 0 then nI (x.toNatClampNeg - 1) else nI (min 9 (x.toNatClampNeg + 1))
def nsS (X : Nat) : Nat → Nat
  | 0 => X
  | i + 1 => nsX (nsX (nsX (nsS X i)))
def nsD (w q X : Nat) (d : Nat → Int32) : Nat → Nat → Int32
  | 0 => d
  | i + 1 => upd (nsD w q X d i) (nsAt w q (nsS X i)) (nsV (nsS X i) (nsD w q X d i (nsAt w q (nsS X i))))
def nsN (w q X : Nat) (d : Nat → Int32) : Nat → Int32
  | 0 => 0
  | i + 1 => if nsV (nsS X i) (nsD w q X d i (nsAt w q (nsS X i))) = nsD w q X d i (nsAt w q (nsS X i)) then nsN w q X d i else nsN w q X d i + 1
theorem nsX_lt (X : Nat) : nsX X < 65536 := Nat.mod_lt _ (by decide)
theorem nsS_lt {X : Nat} (h : X < 65536) : ∀ i, nsS X i < 65536
  | 0 => h
  | i + 1 => nsX_lt _
theorem nsAt_lt {w q X : Nat} (hw : 1 ≤ w) (hq : 1 ≤ q) : nsAt w q X < w * q := cell_lt (Nat.mod_lt _ hw) (Nat.mod_lt _ hq)
theorem rng_nat {x : Int32} (h : inR x 0 9) : ∃ m, m < 10 ∧ x = nI m := by
  obtain ⟨m, hm, e⟩ := in_of (x := x) (w := 10) (by decide) (by have := h.1; have := h.2; omega)
  exact ⟨m, hm, e⟩
theorem nsV_rng {X : Nat} {x : Int32} (h : inR x 0 9) : inR (nsV X x) 0 9 := by
  obtain ⟨m, hm, rfl⟩ := rng_nat h
  unfold nsV inR
  rw [nI_clamp (by omega)]
  split <;> rw [nI_toInt (by omega)] <;> omega
theorem nsD_alk {w q X : Nat} {d d' : Nat → Int32} (h : alk (w * q) d d') : ∀ i, alk (w * q) (nsD w q X d i) (nsD w q X d' i)
  | 0 => h
  | i + 1 => fun k hk => by
    have ih := nsD_alk (X := X) h i
    show (if k = nsAt w q (nsS X i) then _ else _) = (if k = nsAt w q (nsS X i) then _ else _) ∧ inR (if k = nsAt w q (nsS X i) then _ else _) 0 9
    by_cases c : k = nsAt w q (nsS X i)
    · rw [if_pos c, if_pos c, (ih _ (c ▸ hk)).1]
      exact ⟨rfl, nsV_rng (ih _ (c ▸ hk)).2⟩
    · rw [if_neg c, if_neg c]
      exact ih k hk
theorem nsN_alk {w q X : Nat} {d d' : Nat → Int32} (hw : 1 ≤ w) (hq : 1 ≤ q) (h : alk (w * q) d d') : ∀ i, nsN w q X d i = nsN w q X d' i
  | 0 => rfl
  | i + 1 => by
    have ih := nsN_alk (X := X) hw hq h i
    have al := (nsD_alk (X := X) h i _ (nsAt_lt (X := nsS X i) hw hq)).1
    show (if nsV (nsS X i) (nsD w q X d i (nsAt w q (nsS X i))) = nsD w q X d i (nsAt w q (nsS X i)) then nsN w q X d i else nsN w q X d i + 1) = if nsV (nsS X i) (nsD w q X d' i (nsAt w q (nsS X i))) = nsD w q X d' i (nsAt w q (nsS X i)) then nsN w q X d' i else nsN w q X d' i + 1
    rw [al, ih]
theorem nz_nI {M : Nat} (h : 0 < M) (h2 : M < 2 ^ 31) : nz (nI M) = true := decide_eq_true (nI_ne0 h h2)
theorem draw7 {σ : SS} {X M : Nat} (h : gI σ 1 8 = nI X) (hX : X < 65536) (hM : 1 ≤ M ∧ M ≤ 40) : fX7_drawBelow σ (nI M) = some (nI (nsX X / 4 % M), sI σ 1 8 (nI (nsX X))) := by
  unfold fX7_drawBelow
  have e : ((25173 : Int32) * nI X + 13849) &&& 65535 = nI (nsX X) := by
    rw [show (25173 : Int32) = nI 25173 from rfl, nI_mul, show (13849 : Int32) = nI 13849 from rfl, nI_add]
    exact pk_andN (n := 25173 * X + 13849) (by omega) 16 rfl
  have hl := nsX_lt X
  simp only [vthen_eq]
  rw [h, e, if_pos (by show nI 1 ≤ nI M; exact nI_le hM.1 (by omega)), grd_eq _ (nz_nI (by omega) (by omega)), gI_eq, show nI (nsX X) / 4 = nI (nsX X / 4) from pk_div (d := 4) (by omega) (by omega) (by omega)]
  unfold irm
  rw [pk_rem (by omega) (by omega) (by omega)]
theorem mm_dn (σ : SS) : ∀ m, m < 10 → fJ9_max_7cf53 σ (0 : Int32) (fJ9_min_7cf53 σ (9 : Int32) (nI m + (-1 : Int32))) = nI (m - 1) := by
  unfold fJ9_max_7cf53 fJ9_min_7cf53; decide +kernel
theorem mm_up (σ : SS) : ∀ m, m < 10 → fJ9_max_7cf53 σ (0 : Int32) (fJ9_min_7cf53 σ (9 : Int32) (nI m + (1 : Int32))) = nI (min 9 (m + 1)) := by
  unfold fJ9_max_7cf53 fJ9_min_7cf53; decide +kernel
theorem m8_dn : ∀ m, m < 10 → ((0 ≤ (nI m + (-1 : Int32)).toInt ∧ (nI m + (-1 : Int32)).toInt ≤ 9) ↔ ¬ nI (m - 1) = nI m) ∧ (¬ nI (m - 1) = nI m → nI m + (-1 : Int32) = nI (m - 1)) := by decide +kernel
theorem m8_up : ∀ m, m < 10 → ((0 ≤ (nI m + (1 : Int32)).toInt ∧ (nI m + (1 : Int32)).toInt ≤ 9) ↔ ¬ nI (min 9 (m + 1)) = nI m) ∧ (¬ nI (min 9 (m + 1)) = nI m → nI m + (1 : Int32) = nI (min 9 (m + 1))) := by decide +kernel
section NOISE
variable {σ : SS} {s w q X K : Nat}
theorem noise7 (hs : s = 3 ∨ s = 6) (hR : gR σ 1 2 = s) (hw : 1 ≤ w ∧ w ≤ 40) (hq : 1 ≤ q ∧ q ≤ 40) (e1 : gI σ s 0 = nI w) (e2 : gI σ s 1 = nI q) (hX : gI σ 1 8 = nI X) (hX2 : X < 65536) (hd : ∀ k, k < w * q → inR (gI σ (s + 1) k) 0 9) (hK : K ≤ 500) : WP (X7_noise_L17 (nI K) fuel (0 : Int32) (0 : Int32) σ) (fun r => r.1 = nsN w q X (gI σ (s + 1)) K ∧ gR r.2 = gR σ ∧ gI r.2 1 8 = nI (nsS X K) ∧ gI r.2 (s + 1) = nsD w q X (gI σ (s + 1)) K ∧ ∀ c k, c ≠ s + 1 → ¬ (c = 1 ∧ k = 8) → gI r.2 c k = gI σ c k) := by
  have al : alk (w * q) (gI σ (s + 1)) (gI σ (s + 1)) := fun k hk => ⟨rfl, hd k hk⟩
  unfold X7_noise_L17
  refine wf_3 K (fun i v c s' => v = nsN w q X (gI σ (s + 1)) i ∧ c = nI i ∧ gR s' = gR σ ∧ gI s' 1 8 = nI (nsS X i) ∧ gI s' (s + 1) = nsD w q X (gI σ (s + 1)) i ∧ ∀ c k, c ≠ s + 1 → ¬ (c = 1 ∧ k = 8) → gI s' c k = gI σ c k) ⟨rfl, rfl, rfl, hX, rfl, fun _ _ _ _ => rfl⟩ (by omega) ?_ ?_
  · rintro i _ _ s' rec hi ⟨rfl, rfl, hr1, hx, hp, hk⟩ hr
    have g : gR s' 1 2 = s := by rw [hr1]; exact hR
    have b0 := nsS_lt hX2 i
    have b1 := nsX_lt (nsS X i)
    have b2 := nsX_lt (nsX (nsS X i))
    have q1 : gI s' s 0 = nI w := (hk s 0 (by omega) (by omega)).trans e1
    have q2 : gI s' s 1 = nI q := (hk s 1 (by omega) (by omega)).trans e2
    have hx1 : nsX (nsS X i) / 4 % w < w := Nat.mod_lt _ hw.1
    have hy1 : nsX (nsX (nsS X i)) / 4 % q < q := Nat.mod_lt _ hq.1
    have hat := cell_lt hx1 hy1
    rw [if_neg (nI_ge hi (by omega)), g, q1, bnd_of _ (draw7 hx b0 hw), show gR (sI s' 1 8 (nI (nsX (nsS X i)))) 1 2 = s from g, gI_nk (by omega), q2, bnd_of _ (draw7 (gI_eq _ _ _ _) b1 hq), show (3 : Int32) = nI 3 from rfl, bnd_of _ (draw7 (gI_eq _ _ _ _) b2 (by decide))]
    generalize hσ : sI (sI (sI s' 1 8 (nI (nsX (nsS X i)))) 1 8 (nI (nsX (nsX (nsS X i))))) 1 8 (nI (nsX (nsX (nsX (nsS X i))))) = σ3
    have g3 : gR σ3 1 2 = s := by rw [← hσ]; exact g
    have k3 : ∀ c k, ¬ (c = 1 ∧ k = 8) → gI σ3 c k = gI s' c k := fun c k h => by rw [← hσ, gI_nk h, gI_nk h, gI_nk h]
    have x3 : gI σ3 1 8 = nI (nsS X (i + 1)) := by rw [← hσ, gI_eq]; rfl
    obtain ⟨m, hm, em⟩ := rng_nat (nsD_alk (X := X) al i _ hat).2
    have at3 : gI σ3 (s + 1) (nsX (nsX (nsS X i)) / 4 % q * w + nsX (nsS X i) / 4 % w) = nI m := by rw [k3 _ _ (by omega), hp]; exact em
    have fin : ∀ v, v = nsV (nsS X i) (nI m) → WP (bnd (fX6_put σ3 s (nI (nsX (nsS X i) / 4 % w)) (nI (nsX (nsX (nsS X i)) / 4 % q)) v) fun b19 σ21 => if b19 = true then rec (nsN w q X (gI σ (s + 1)) i + (1 : Int32)) (nI i + (1 : Int32)) σ21 else rec (nsN w q X (gI σ (s + 1)) i) (nI i + (1 : Int32)) σ21) (fun r => r.1 = nsN w q X (gI σ (s + 1)) K ∧ gR r.2 = gR σ ∧ gI r.2 1 8 = nI (nsS X K) ∧ gI r.2 (s + 1) = nsD w q X (gI σ (s + 1)) K ∧ ∀ c k, c ≠ s + 1 → ¬ (c = 1 ∧ k = 8) → gI r.2 c k = gI σ c k) := fun v hv => by
      obtain ⟨b, z, zb⟩ := put_in (σ := σ3) (s := s) (w := w) (h := q) (by rw [k3 _ _ (by omega)]; exact q1) (by rw [k3 _ _ (by omega)]; exact q2) hw.2 hq.2 hx1 hy1 v
      rw [bnd_of _ z, nI_1]
      rw [at3] at zb
      have J : ∀ n, n = nsN w q X (gI σ (s + 1)) (i + 1) → WP (rec n (nI (i + 1)) (sI σ3 (s + 1) (nsX (nsX (nsS X i)) / 4 % q * w + nsX (nsS X i) / 4 % w) v)) (fun r => r.1 = nsN w q X (gI σ (s + 1)) K ∧ gR r.2 = gR σ ∧ gI r.2 1 8 = nI (nsS X K) ∧ gI r.2 (s + 1) = nsD w q X (gI σ (s + 1)) K ∧ ∀ c k, c ≠ s + 1 → ¬ (c = 1 ∧ k = 8) → gI r.2 c k = gI σ c k) := fun n hn => by
        refine hr _ _ _ ⟨hn, rfl, by rw [← hr1, ← hσ]; rfl, ?_, ?_, fun c k h1 h2 => ?_⟩
        · rw [gI_nk (by omega)]; exact x3
        · show gI (sA σ3 (s + 1) (upd (gI σ3 (s + 1)) _ v)) (s + 1) = _
          rw [gI_A, show gI σ3 (s + 1) = gI s' (s + 1) from funext fun k => k3 _ _ (by omega), hp, hv, ← em]
          rfl
        · rw [gI_nk (by omega), k3 _ _ h2]; exact hk c k h1 h2
      have e : nsN w q X (gI σ (s + 1)) (i + 1) = if v = nI m then nsN w q X (gI σ (s + 1)) i else nsN w q X (gI σ (s + 1)) i + 1 := by
        show (if nsV (nsS X i) (nsD w q X (gI σ (s + 1)) i (nsAt w q (nsS X i))) = nsD w q X (gI σ (s + 1)) i (nsAt w q (nsS X i)) then _ else _) = _
        rw [show nsD w q X (gI σ (s + 1)) i (nsAt w q (nsS X i)) = nI m from em, ← hv]
      by_cases c : v = nI m
      · rw [if_neg (by rw [zb]; simp [c])]
        exact J _ (by rw [e, if_pos c])
      · rw [if_pos (by rw [zb]; simp; exact fun h => c h.symm)]
        exact J _ (by rw [e, if_neg c])
    simp only [vthen_eq]
    rw [g3, at_in (by rw [k3 _ _ (by omega)]; exact q1) (by rw [k3 _ _ (by omega)]; exact q2) hw.2 hq.2 hx1 hy1, bnd1_some, bnd1_some, at3, mm_dn _ m hm, mm_up _ m hm]
    by_cases c : nsX (nsX (nsX (nsS X i))) / 4 % 3 = 0
    · rw [if_pos (by rw [c]; rfl)]
      exact fin _ (by unfold nsV; rw [if_pos c, nI_clamp (by omega)])
    · rw [if_neg (nI_ne0 (by omega) (by omega))]
      exact fin _ (by unfold nsV; rw [if_neg c, nI_clamp (by omega)])
  · rintro _ _ s' rec ⟨rfl, rfl, h⟩
    rw [if_pos (nI_le (Nat.le_refl _) (by omega))]
    exact wp_some ⟨rfl, h⟩
end NOISE
/-! from 32.stretch of the class-and-reference proof: what speaks of the class alone -/
/-! Stretch. -/
def sN (src : Nat → Int32) (k : Nat) : Nat := (src k).toNatClampNeg
def loN (src : Nat → Int32) (N : Nat) : Nat := itr (fun i l => min l (sN src i)) 9 N
def hiN (src : Nat → Int32) (N : Nat) : Nat := itr (fun i g => max g (sN src i)) 0 N
theorem sN_of {src : Nat → Int32} {k : Nat} (h : inR (src k) 0 9) : src k = nI (sN src k) ∧ sN src k ≤ 9 := by
  obtain ⟨m, hm, e⟩ := rng_nat h
  unfold sN
  rw [e, nI_clamp (by omega)]
  exact ⟨rfl, by omega⟩
theorem loN_le {src : Nat → Int32} : ∀ N, loN src N ≤ 9 ∧ ∀ k, k < N → loN src N ≤ sN src k
  | 0 => ⟨Nat.le_refl _, fun k hk => absurd hk (by omega)⟩
  | N + 1 => by
    obtain ⟨h1, h2⟩ := loN_le (src := src) N
    have e : loN src (N + 1) = min (loN src N) (sN src N) := rfl
    rw [e]
    refine ⟨by omega, fun k hk => ?_⟩
    by_cases c : k = N
    · subst c; omega
    · have := h2 k (by omega); omega
theorem hiN_le {src : Nat → Int32} : ∀ N, (∀ k, k < N → sN src k ≤ 9) → hiN src N ≤ 9 ∧ ∀ k, k < N → sN src k ≤ hiN src N
  | 0, _ => ⟨Nat.zero_le 9, fun k hk => absurd hk (by omega)⟩
  | N + 1, h => by
    obtain ⟨h1, h2⟩ := hiN_le (src := src) N fun k hk => h k (by omega)
    have e : hiN src (N + 1) = max (hiN src N) (sN src N) := rfl
    have := h N (by omega)
    rw [e]
    refine ⟨by omega, fun k hk => ?_⟩
    by_cases c : k = N
    · subst c; omega
    · have := h2 k (by omega); omega
theorem lohi_congr {src src' : Nat → Int32} {N : Nat} (h : ∀ k, k < N → src k = src' k) : loN src N = loN src' N ∧ hiN src N = hiN src' N :=
  ⟨itr_congr fun i hi s => by unfold sN; rw [h i hi], itr_congr fun i hi s => by unfold sN; rw [h i hi]⟩
def stF (src : Nat → Int32) (N k : Nat) : Int32 := if hiN src N ≤ loN src N then src k else nI ((sN src k - loN src N) * 9 / (hiN src N - loN src N))
theorem st_val {src : Nat → Int32} {N k : Nat} (hs : ∀ k, k < N → inR (src k) 0 9) (hk : k < N) (h : loN src N < hiN src N) : (src k - nI (loN src N)) * 9 / (nI (hiN src N) - nI (loN src N)) = stF src N k := by
  have h1 := (sN_of (hs k hk)).1
  have h2 := (loN_le (src := src) N).2 k hk
  have h3 := (hiN_le (src := src) N fun k hk => (sN_of (hs k hk)).2)
  have h4 := h3.2 k hk
  unfold stF
  rw [if_neg (by omega), h1, nI_sub h2, nI_sub (by omega), show (9 : Int32) = nI 9 from rfl, nI_mul, pk_div (by omega) (by omega) (by omega)]
theorem st_rng {src : Nat → Int32} {N k : Nat} (hs : ∀ k, k < N → inR (src k) 0 9) (hk : k < N) : inR (stF src N k) 0 9 := by
  unfold stF
  by_cases c : hiN src N ≤ loN src N
  · rw [if_pos c]; exact hs k hk
  · rw [if_neg c]
    have h2 := (loN_le (src := src) N).2 k hk
    have h3 := (hiN_le (src := src) N fun k hk => (sN_of (hs k hk)).2)
    have h4 := h3.2 k hk
    have h5 : (sN src k - loN src N) * 9 / (hiN src N - loN src N) ≤ 9 := by
      apply Nat.div_le_of_le_mul
      exact Nat.mul_le_mul_right _ (by omega)
    generalize (sN src k - loN src N) * 9 / (hiN src N - loN src N) = z at h5 ⊢
    unfold inR
    rw [nI_toInt (by omega)]; omega
theorem st_congr {src src' : Nat → Int32} {N k : Nat} (hk : k < N) (h : ∀ k, k < N → src k = src' k) : stF src N k = stF src' N k := by
  unfold stF
  rw [(lohi_congr h).1, (lohi_congr h).2]
  unfold sN
  rw [h k hk]
theorem ix_of {d : Nat → Int32} {w q : Nat} {G : Nat → Int32} (h : ∀ k, k < w * q → d k = G k) : Vis d w q (fun x y => G (y * w + x)) fun _ _ => True := fun x y hx hy _ => h _ (cell_lt hx hy)
section STRETCH
variable {σ : SS} {s t w q : Nat}
end STRETCH
/-! from 33.smooth of the class-and-reference proof: what speaks of the class alone -/
/-! Smooth. -/
def smS (src : Nat → Int32) (k : Nat) (r : (Nat → Nat) × Nat) : (Nat → Nat) × Nat := (fun v => if v = sN src k then r.1 v + 1 else r.1 v, r.2 + 1)
def smI (src : Nat → Int32) (w x j i : Nat) (r : (Nat → Nat) × Nat) : (Nat → Nat) × Nat := if i < w ∧ x ≤ i + 1 ∧ i ≤ x + 1 then smS src (j * w + i) r else r
def smJ (src : Nat → Int32) (w q x y j : Nat) (r : (Nat → Nat) × Nat) : (Nat → Nat) × Nat := if j < q ∧ y ≤ j + 1 ∧ j ≤ y + 1 then itr (smI src w x j) r (x + 2) else r
def sm0 : (Nat → Nat) × Nat := (fun _ => 0, 0)
def smR (src : Nat → Int32) (w q x y : Nat) : (Nat → Nat) × Nat := itr (smJ src w q x y) sm0 (y + 2)
def csum (T : Nat → Nat) : Nat → Nat
  | 0 => 0
  | v + 1 => csum T v + T v
theorem csum_up (T : Nat → Nat) (m : Nat) : ∀ v, csum (fun k => if k = m then T k + 1 else T k) v = csum T v + if m < v then 1 else 0
  | 0 => by rw [if_neg (by omega)]; rfl
  | v + 1 => by
    show csum _ v + (if v = m then T v + 1 else T v) = csum T v + T v + _
    rw [csum_up T m v]
    by_cases c : v = m
    · subst c; rw [if_pos rfl, if_neg (by omega), if_pos (by omega)]; omega
    · rw [if_neg c]
      by_cases c2 : m < v
      · rw [if_pos c2, if_pos (by omega)]; omega
      · rw [if_neg c2, if_neg (by omega)]; omega
theorem csum_mono (T : Nat → Nat) {a b : Nat} (h : a ≤ b) : csum T a ≤ csum T b := by
  obtain ⟨d, rfl⟩ : ∃ d, b = a + d := ⟨b - a, by omega⟩
  clear h
  induction d with
  | zero => exact Nat.le_refl _
  | succ d ih => show csum T a ≤ csum T (a + d) + T (a + d); omega
def smK (N : Nat) (r : (Nat → Nat) × Nat) : Prop := csum r.1 10 = r.2 ∧ r.2 ≤ N
theorem smI_k {src : Nat → Int32} {w q x j : Nat} (hd : ∀ k, k < w * q → inR (src k) 0 9) (hj : j < q) {N : Nat} {r : (Nat → Nat) × Nat} (h : smK N r) : ∀ i, smK (N + i) (itr (smI src w x j) r i)
  | 0 => h
  | i + 1 => by
    obtain ⟨h1, h2⟩ := smI_k (x := x) hd hj h i
    show smK (N + (i + 1)) (smI src w x j i (itr (smI src w x j) r i))
    generalize itr (smI src w x j) r i = r2 at h1 h2 ⊢
    unfold smI
    by_cases c : i < w ∧ x ≤ i + 1 ∧ i ≤ x + 1
    · rw [if_pos c]
      have hm := (sN_of (hd _ (cell_lt c.1 hj))).2
      refine ⟨?_, ?_⟩
      · show csum (fun v => if v = sN src (j * w + i) then _ else _) 10 = _ + 1
        rw [csum_up, if_pos (by omega), h1]
      · show _ + 1 ≤ _; omega
    · rw [if_neg c]; exact ⟨h1, by omega⟩
theorem smJ_k {src : Nat → Int32} {w q x y : Nat} (hd : ∀ k, k < w * q → inR (src k) 0 9) {N : Nat} {r : (Nat → Nat) × Nat} (h : smK N r) : ∀ j, smK (N + j * (x + 2)) (itr (smJ src w q x y) r j)
  | 0 => by rw [Nat.zero_mul]; exact h
  | j + 1 => by
    have ih := smJ_k (x := x) (y := y) hd h j
    show smK (N + (j + 1) * (x + 2)) (smJ src w q x y j (itr (smJ src w q x y) r j))
    have e : N + (j + 1) * (x + 2) = N + j * (x + 2) + (x + 2) := by rw [Nat.add_mul, Nat.one_mul]; omega
    rw [e]
    generalize itr (smJ src w q x y) r j = r2 at ih ⊢
    unfold smJ
    by_cases c : j < q ∧ y ≤ j + 1 ∧ j ≤ y + 1
    · rw [if_pos c]; exact smI_k hd c.1 ih (x + 2)
    · rw [if_neg c]; exact ⟨ih.1, Nat.le_trans ih.2 (by omega)⟩
theorem sm_b {src : Nat → Int32} {w q x y j : Nat} (hd : ∀ k, k < w * q → inR (src k) 0 9) (hx : x < 40) (hj : j ≤ 42) : csum (itr (smJ src w q x y) sm0 j).1 10 = (itr (smJ src w q x y) sm0 j).2 ∧ (itr (smJ src w q x y) sm0 j).2 ≤ 1764 := by
  obtain ⟨h1, h2⟩ := smJ_k (x := x) (y := y) (N := 0) (r := sm0) hd ⟨rfl, Nat.le_refl _⟩ j
  refine ⟨h1, Nat.le_trans h2 ?_⟩
  have : j * (x + 2) ≤ 42 * 42 := Nat.mul_le_mul hj (by omega)
  omega
theorem smI_mono {src : Nat → Int32} {w x j : Nat} {r : (Nat → Nat) × Nat} : ∀ i, r.2 ≤ (itr (smI src w x j) r i).2
  | 0 => Nat.le_refl _
  | i + 1 => by
    have ih := smI_mono (src := src) (w := w) (x := x) (j := j) (r := r) i
    show r.2 ≤ (smI src w x j i (itr (smI src w x j) r i)).2
    generalize itr (smI src w x j) r i = r2 at ih ⊢
    unfold smI
    split
    · show r.2 ≤ r2.2 + 1; omega
    · exact ih
theorem smJ_mono {src : Nat → Int32} {w q x y : Nat} {r : (Nat → Nat) × Nat} : ∀ j, r.2 ≤ (itr (smJ src w q x y) r j).2
  | 0 => Nat.le_refl _
  | j + 1 => by
    have ih := smJ_mono (src := src) (w := w) (q := q) (x := x) (y := y) (r := r) j
    show r.2 ≤ (smJ src w q x y j (itr (smJ src w q x y) r j)).2
    generalize itr (smJ src w q x y) r j = r2 at ih ⊢
    unfold smJ
    split
    · exact Nat.le_trans ih (smI_mono _)
    · exact ih
theorem smR_pos {src : Nat → Int32} {w q x y : Nat} (hx : x < w) (hy : y < q) : 1 ≤ (smR src w q x y).2 := by
  show 1 ≤ (smJ src w q x y (y + 1) (smJ src w q x y y (itr (smJ src w q x y) sm0 y))).2
  have h1 : 1 ≤ (smJ src w q x y y (itr (smJ src w q x y) sm0 y)).2 := by
    generalize itr (smJ src w q x y) sm0 y = r
    unfold smJ
    rw [if_pos (by omega)]
    show 1 ≤ (smI src w x y (x + 1) (smI src w x y x (itr (smI src w x y) r x))).2
    have h2 : 1 ≤ (smI src w x y x (itr (smI src w x y) r x)).2 := by
      generalize itr (smI src w x y) r x = r2
      unfold smI
      rw [if_pos (by omega)]
      show 1 ≤ r2.2 + 1; omega
    generalize smI src w x y x (itr (smI src w x y) r x) = r2 at h2 ⊢
    unfold smI
    split
    · show 1 ≤ r2.2 + 1; omega
    · exact h2
  generalize smJ src w q x y y (itr (smJ src w q x y) sm0 y) = r at h1 ⊢
  unfold smJ
  split
  · exact Nat.le_trans h1 (smI_mono _)
  · exact h1
theorem smR_congr {src src' : Nat → Int32} {w q x y : Nat} (h : ∀ k, k < w * q → src k = src' k) : smR src w q x y = smR src' w q x y := by
  refine itr_congr fun j _ r => ?_
  unfold smJ
  by_cases c : j < q ∧ y ≤ j + 1 ∧ j ≤ y + 1
  · rw [if_pos c, if_pos c]
    refine itr_congr fun i _ r2 => ?_
    unfold smI
    by_cases c2 : i < w ∧ x ≤ i + 1 ∧ i ≤ x + 1
    · rw [if_pos c2, if_pos c2]
      unfold smS sN
      rw [h _ (cell_lt c2.1 c.1)]
    · rw [if_neg c2, if_neg c2]
  · rw [if_neg c, if_neg c]
def midP (r : (Nat → Nat) × Nat) (v : Nat) : Prop := csum r.1 v ≤ (r.2 - 1) / 2 ∧ (r.2 - 1) / 2 < csum r.1 (v + 1)
theorem midP_one {r : (Nat → Nat) × Nat} {u v : Nat} (h1 : midP r u) (h2 : midP r v) : u = v := by
  rcases Nat.lt_trichotomy u v with c | c | c
  · have := csum_mono r.1 (a := u + 1) (b := v) c; have := h1.2; have := h2.1; omega
  · exact c
  · have := csum_mono r.1 (a := v + 1) (b := u) c; have := h2.2; have := h1.1; omega
noncomputable def midV (r : (Nat → Nat) × Nat) : Nat := Classical.epsilon fun v => midP r v
theorem midV_eq {r : (Nat → Nat) × Nat} {v : Nat} (h : midP r v) : midV r = v := midP_one (Classical.epsilon_spec (p := fun v => midP r v) ⟨v, h⟩) h
theorem max_pred (σ : SS) {y : Nat} (hy : y ≤ 1000) : fJ9_max_7cf53 σ (nI y - 1) (0 : Int32) = nI (y - 1) := by
  cases y with
  | zero => unfold fJ9_max_7cf53; decide +kernel
  | succ y =>
    rw [nI_pred, show (0 : Int32) = nI 0 from rfl, max_nI (by omega) (by omega)]
    congr 1; omega
def Tly (e : Nat → Int32) (r : (Nat → Nat) × Nat) : Prop := ∀ v, v < 10 → e v = nI (r.1 v)
theorem Tly.up {e : Nat → Int32} {r : (Nat → Nat) × Nat} {src : Nat → Int32} {k : Nat} (h : Tly e r) (hk : sN src k < 10) : Tly (upd e (sN src k) (e (sN src k) + 1)) (smS src k r) := fun v hv => by
  show (if v = sN src k then e (sN src k) + 1 else e v) = nI (if v = sN src k then r.1 v + 1 else r.1 v)
  by_cases c : v = sN src k
  · rw [if_pos c, if_pos c, h _ hk, nI_1, c]
  · rw [if_neg c, if_neg c]; exact h v hv
section SMOOTH7
variable {σ : SS} {s t w q x y : Nat}
end SMOOTH7

/-! from 34.smooth8 of the class-and-reference proof: what speaks of the class alone -/
/-! Smooth: the reference's half. -/
theorem vthen_q {α β : Type} (x : α) (f : α → β) : vthen x f = f x := (Eq.refl _).trans (Eq.refl _)
def MS (σ : SS) (d e : Nat → Int32) (s' : SS) : Prop := gR s' = gR σ ∧ gI s' 83 = d ∧ gI s' 91 = e ∧ (∀ k, k < 1600 → gI s' 84 k = gI σ 83 k) ∧ ∀ c k, c ≠ 83 → c ≠ 84 → c ≠ 91 → gI s' c k = gI σ c k
theorem gI_up (σ : SS) (c k : Nat) (v : Int32) : gI (sI σ c k v) c = upd (gI σ c) k v := gI_A _ _ _
theorem MS.near {σ s' : SS} {d e : Nat → Int32} (h : MS σ d e s') (k : Nat) (v : Int32) : MS σ d (upd e k v) (sI s' 91 k v) := by
  obtain ⟨h1, h2, h3, h4, h5⟩ := h
  refine ⟨h1, by rw [gI_ne (by omega)]; exact h2, by rw [gI_up, h3], fun j hj => by rw [gI_ne (by omega)]; exact h4 j hj, fun c j c1 c2 c3 => by rw [gI_ne c3]; exact h5 c j c1 c2 c3⟩
theorem MS.dot {σ s' : SS} {d e : Nat → Int32} (h : MS σ d e s') (k : Nat) (v : Int32) : MS σ (upd d k v) e (sI s' 83 k v) := by
  obtain ⟨h1, h2, h3, h4, h5⟩ := h
  refine ⟨h1, by rw [gI_up, h2], by rw [gI_ne (by omega)]; exact h3, fun j hj => by rw [gI_ne (by omega)]; exact h4 j hj, fun c j c1 c2 c3 => by rw [gI_ne c1]; exact h5 c j c1 c2 c3⟩
theorem ti_pm {x k : Nat} (hx : x ≤ 1000) (hk : k ≤ 1000) : (nI x - 1 + nI k).toInt = (x : Int) - 1 + k := by
  have h1 : (nI x - 1).toInt = (x : Int) - 1 := sub1z (by omega)
  rw [ti_add] <;> rw [h1, nI_toInt (by omega)] <;> omega
theorem ti_p2 {x : Nat} (hx : x ≤ 1000) : (nI x + 2).toInt = (x : Int) + 2 := by
  rw [show nI x + 2 = nI (x + 2) from nI_add x 2, nI_toInt (by omega)]; omega
theorem pm_nI {x k : Nat} (h : 1 ≤ x + k) : nI x - 1 + nI k = nI (x + k - 1) := by
  have e : nI x - 1 + nI k = nI (x + k) - 1 := by rw [← nI_add, Int32.sub_eq_add_neg, Int32.sub_eq_add_neg, Int32.add_assoc, Int32.add_comm (-1), ← Int32.add_assoc]
  rw [e]; exact nI_sub (a := x + k) (b := 1) h
section SMOOTH8
variable {σ : SS} {w q x y : Nat} {d : Nat → Int32}
def smG (src : Nat → Int32) (w q x : Nat) (v4 : Int32) (i : Nat) (r : (Nat → Nat) × Nat) : (Nat → Nat) × Nat := if 0 ≤ v4.toInt ∧ v4.toInt < q then smI src w x v4.toInt.toNat i r else r
end SMOOTH8
theorem mid_rng {src : Nat → Int32} {w q x y : Nat} (hd : ∀ k, k < w * q → inR (src k) 0 9) (hx : x < w) (hw : w ≤ 40) (hy : y < q) (hq : q ≤ 40) : inR (nI (midV (smR src w q x y))) 0 9 := by
  have hp := smR_pos (src := src) hx hy
  have hb := sm_b (x := x) (y := y) (j := y + 2) hd (by omega) (by omega)
  rw [show itr (smJ src w q x y) sm0 (y + 2) = smR src w q x y from rfl] at hb
  generalize smR src w q x y = r at *
  have ex : ∀ n, (r.2 - 1) / 2 < csum r.1 n → ∃ v, v < n ∧ midP r v := by
    intro n
    induction n with
    | zero => intro h; exact absurd h (Nat.not_lt_zero _)
    | succ n ih =>
      intro h
      by_cases c : (r.2 - 1) / 2 < csum r.1 n
      · obtain ⟨v, h1, h2⟩ := ih c; exact ⟨v, by omega, h2⟩
      · exact ⟨n, by omega, by omega, h⟩
  obtain ⟨v, h1, h2⟩ := ex 10 (by rw [hb.1]; omega)
  rw [midV_eq h2]
  unfold inR
  rw [nI_toInt (by omega)]; omega
/-! from 35.level of the class-and-reference proof: what speaks of the class alone -/
/-! The level that parts best. -/
section W2L5
variable {A B C D E A' B' C' D' E' R R' : Type} {P : R → R' → Prop}
theorem w2f_5 {bot : A → B → C → D → E → Option R} {body : (A → B → C → D → E → Option R) → A → B → C → D → E → Option R} {bot' : A' → B' → C' → D' → E' → Option R'} {body' : (A' → B' → C' → D' → E' → Option R') → A' → B' → C' → D' → E' → Option R'} (N : Nat) (I : Nat → A → B → C → D → E → A' → B' → C' → D' → E' → Prop) {a : A} {b : B} {c : C} {d : D} {e : E} {a' : A'} {b' : B'} {c' : C'} {d' : D'} {e' : E'} (h0 : I 0 a b c d e a' b' c' d' e') (hN : N < 1000000) (hs : ∀ i a b c d e a' b' c' d' e' (rec : A → B → C → D → E → Option R) (rec' : A' → B' → C' → D' → E' → Option R'), i < N → I i a b c d e a' b' c' d' e' → (∀ a b c d e a' b' c' d' e', I (i + 1) a b c d e a' b' c' d' e' → W2 (rec a b c d e) (rec' a' b' c' d' e') P) → W2 (body rec a b c d e) (body' rec' a' b' c' d' e') P) (he : ∀ a b c d e a' b' c' d' e' (rec : A → B → C → D → E → Option R) (rec' : A' → B' → C' → D' → E' → Option R'), I N a b c d e a' b' c' d' e' → W2 (body rec a b c d e) (body' rec' a' b' c' d' e') P) : W2 (lp bot body fuel a b c d e) (lp bot' body' fuel a' b' c' d' e') P := by
  have key : ∀ n m i a b c d e a' b' c' d' e', m < n → i + m = N → I i a b c d e a' b' c' d' e' → W2 (lp bot body n a b c d e) (lp bot' body' n a' b' c' d' e') P := by
    intro n
    induction n with
    | zero => intro m i a b c d e a' b' c' d' e' h; omega
    | succ n ih =>
      intro m i a b c d e a' b' c' d' e' h hi hI
      rcases Nat.eq_zero_or_pos m with q | q
      · have : i = N := by omega
        subst this; exact he _ _ _ _ _ _ _ _ _ _ _ _ hI
      · exact hs i a b c d e a' b' c' d' e' _ _ (by omega) hI fun a b c d e a' b' c' d' e' h' => ih (m - 1) (i + 1) a b c d e a' b' c' d' e' (by omega) (by omega) h'
  exact key fuel N 0 a b c d e a' b' c' d' e' hN (by omega) h0
end W2L5
def lc (src : Nat → Int32) (l N : Nat) : Nat := itr (fun i n => if sN src i < l then n + 1 else n) 0 N
def ld (src : Nat → Int32) (l N : Nat) : Nat := itr (fun i n => if sN src i < l then n + sN src i else n) 0 N
def uc (src : Nat → Int32) (l N : Nat) : Nat := itr (fun i n => if sN src i < l then n else n + 1) 0 N
def ud (src : Nat → Int32) (l N : Nat) : Nat := itr (fun i n => if sN src i < l then n else n + sN src i) 0 N
def ds (src : Nat → Int32) (N : Nat) : Nat := itr (fun i n => n + sN src i) 0 N
theorem lv_sum (src : Nat → Int32) (l : Nat) : ∀ N, lc src l N + uc src l N = N ∧ ld src l N + ud src l N = ds src N
  | 0 => ⟨rfl, rfl⟩
  | N + 1 => by
    obtain ⟨h1, h2⟩ := lv_sum src l N
    have e1 : lc src l (N + 1) = if sN src N < l then lc src l N + 1 else lc src l N := rfl
    have e2 : uc src l (N + 1) = if sN src N < l then uc src l N else uc src l N + 1 := rfl
    have e3 : ld src l (N + 1) = if sN src N < l then ld src l N + sN src N else ld src l N := rfl
    have e4 : ud src l (N + 1) = if sN src N < l then ud src l N else ud src l N + sN src N := rfl
    have e5 : ds src (N + 1) = ds src N + sN src N := rfl
    rw [e1, e2, e3, e4, e5]
    by_cases c : sN src N < l
    · simp only [if_pos c]; omega
    · simp only [if_neg c]; omega
theorem ds_le {src : Nat → Int32} : ∀ N, (∀ k, k < N → sN src k ≤ 9) → ds src N ≤ 9 * N
  | 0, _ => Nat.zero_le _
  | N + 1, h => by
    have := ds_le N fun k hk => h k (by omega)
    have := h N (by omega)
    have e5 : ds src (N + 1) = ds src N + sN src N := rfl
    omega
theorem itr_nI {f : Nat → Int32 → Int32} {g : Nat → Nat → Nat} {N : Nat} (h : ∀ i, i < N → ∀ n, f i (nI n) = nI (g i n)) (n0 : Nat) : itr f (nI n0) N = nI (itr g n0 N) := by
  induction N with
  | zero => rfl
  | succ N ih =>
    show f N (itr f (nI n0) N) = nI (g N (itr g n0 N))
    rw [ih fun i hi => h i (by omega), h N (by omega)]
section LEVEL
variable {σ : SS} {s w q l : Nat}
theorem level7_c (hw : w ≤ 40) (hq : q ≤ 40) (e1 : gI σ s 0 = nI w) (e2 : gI σ s 1 = nI q) (hd : ∀ k, k < w * q → inR (gI σ (s + 1) k) 0 9) (hl : l ≤ 9) : fX6_notBelow σ s (nI l) = some (nI (uc (gI σ (s + 1)) l (w * q))) := by
  rw [notBelow_eq hw hq e1 e2]
  refine congrArg some (itr_nI (fun i hi n => ?_) 0)
  have h := sN_of (hd i hi)
  by_cases c : sN (gI σ (s + 1)) i < l
  · rw [if_pos c, h.1, if_pos (nI_lt c (by omega))]
  · rw [if_neg c, h.1, if_neg (nI_nlt (by omega) (by omega)), nI_1]
theorem level7_d (hw : w ≤ 40) (hq : q ≤ 40) (e1 : gI σ s 0 = nI w) (e2 : gI σ s 1 = nI q) (hd : ∀ k, k < w * q → inR (gI σ (s + 1) k) 0 9) (hl : l ≤ 9) : fX6_sumNotBelow σ s (nI l) = some (nI (ud (gI σ (s + 1)) l (w * q))) := by
  rw [sumNotBelow_eq hw hq e1 e2]
  refine congrArg some (itr_nI (fun i hi n => ?_) 0)
  have h := sN_of (hd i hi)
  by_cases c : sN (gI σ (s + 1)) i < l
  · rw [if_pos c, h.1, if_pos (nI_lt c (by omega))]
  · rw [if_neg c, h.1, if_neg (nI_nlt (by omega) (by omega)), nI_add]
theorem ud_0 (src : Nat → Int32) (N : Nat) : ud src 0 N = ds src N := itr_congr fun i _ n => by rw [if_neg (by omega)]
end LEVEL
theorem lv_congr {src src' : Nat → Int32} {l N : Nat} (h : ∀ k, k < N → src k = src' k) : uc src l N = uc src' l N ∧ ud src l N = ud src' l N ∧ ds src N = ds src' N :=
  ⟨itr_congr fun i hi s => by unfold sN; rw [h i hi], itr_congr fun i hi s => by unfold sN; rw [h i hi], itr_congr fun i hi s => by unfold sN; rw [h i hi]⟩
