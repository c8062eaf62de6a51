/-! What a function that may fail comes to: a small logic of its own, with loops by what holds at each turn. -/
def WP {α : Type} (x : Option α) (P : α → Prop) : Prop := ∃ v, x = some v ∧ P v
section WPS
variable {α β γ : Type} {P : γ → Prop}
theorem wp_some {v : γ} (h : P v) : WP (some v) P := ⟨v, rfl, h⟩
theorem wp_bnd {x : Option (α × β)} {k : α → β → Option γ} {Q : α → β → Prop} (h : WP x fun r => Q r.1 r.2) (hk : ∀ a b, Q a b → WP (k a b) P) : WP (bnd x k) P := by
  obtain ⟨⟨a, b⟩, rfl, hq⟩ := h
  exact hk a b hq
theorem wp_bnd1 {x : Option α} {k : α → Option γ} {Q : α → Prop} (h : WP x Q) (hk : ∀ a, Q a → WP (k a) P) : WP (bnd1 x k) P := by
  obtain ⟨a, rfl, hq⟩ := h
  exact hk a hq
theorem wp_grd {b : Bool} {x : Option γ} (hb : b = true) (h : WP x P) : WP (grd b x) P := by rw [grd_eq _ hb]; exact h
theorem wp_imp {x : Option γ} {Q : γ → Prop} (h : WP x Q) (hk : ∀ a, Q a → P a) : WP x P := by
  obtain ⟨a, e, hq⟩ := h
  exact ⟨a, e, hk a hq⟩
theorem wp_if {c : Prop} [Decidable c] {x y : Option γ} (h1 : c → WP x P) (h2 : ¬ c → WP y P) : WP (if c then x else y) P := by
  by_cases h : c
  · rw [if_pos h]; exact h1 h
  · rw [if_neg h]; exact h2 h
end WPS
section WPL
variable {A B C D E R : Type} {P : R → Prop}
theorem wl_1 {bot : A → Option R} {body : (A → Option R) → A → Option R} (I : Nat → A → Prop) (hs : ∀ m a, I m a → ∀ rec : A → Option R, (∀ m' a', m' < m → I m' a' → WP (rec a') P) → WP (body rec a) P) : ∀ n m a, m < n → I m a → WP (lp bot body n a) P := by
  intro n
  induction n with
  | zero => intro m a h; omega
  | succ n ih => exact fun m a h hI => hs m a hI _ fun m' a' h' hI' => ih m' a' (by omega) hI'
theorem wl_2 {bot : A → B → Option R} {body : (A → B → Option R) → A → B → Option R} (I : Nat → A → B → Prop) (hs : ∀ m a b, I m a b → ∀ rec : A → B → Option R, (∀ m' a' b', m' < m → I m' a' b' → WP (rec a' b') P) → WP (body rec a b) P) : ∀ n m a b, m < n → I m a b → WP (lp bot body n a b) P := by
  intro n
  induction n with
  | zero => intro m a b h; omega
  | succ n ih => exact fun m a b h hI => hs m a b hI _ fun m' a' b' h' hI' => ih m' a' b' (by omega) hI'
theorem wl_3 {bot : A → B → C → Option R} {body : (A → B → C → Option R) → A → B → C → Option R} (I : Nat → A → B → C → Prop) (hs : ∀ m a b c, I m a b c → ∀ rec : A → B → C → Option R, (∀ m' a' b' c', m' < m → I m' a' b' c' → WP (rec a' b' c') P) → WP (body rec a b c) P) : ∀ n m a b c, m < n → I m a b c → WP (lp bot body n a b c) P := by
  intro n
  induction n with
  | zero => intro m a b c h; omega
  | succ n ih => exact fun m a b c h hI => hs m a b c hI _ fun m' a' b' c' h' hI' => ih m' a' b' c' (by omega) hI'
theorem wl_4 {bot : A → B → C → D → Option R} {body : (A → B → C → D → Option R) → A → B → C → D → Option R} (I : Nat → A → B → C → D → Prop) (hs : ∀ m a b c d, I m a b c d → ∀ rec : A → B → C → D → Option R, (∀ m' a' b' c' d', m' < m → I m' a' b' c' d' → WP (rec a' b' c' d') P) → WP (body rec a b c d) P) : ∀ n m a b c d, m < n → I m a b c d → WP (lp bot body n a b c d) P := by
  intro n
  induction n with
  | zero => intro m a b c d h; omega
  | succ n ih => exact fun m a b c d h hI => hs m a b c d hI _ fun m' a' b' c' d' h' hI' => ih m' a' b' c' d' (by omega) hI'
theorem wl_5 {bot : A → B → C → D → E → Option R} {body : (A → B → C → D → E → Option R) → A → B → C → D → E → Option R} (I : Nat → A → B → C → D → E → Prop) (hs : ∀ m a b c d e, I m a b c d e → ∀ rec : A → B → C → D → E → Option R, (∀ m' a' b' c' d' e', m' < m → I m' a' b' c' d' e' → WP (rec a' b' c' d' e') P) → WP (body rec a b c d e) P) : ∀ n m a b c d e, m < n → I m a b c d e → WP (lp bot body n a b c d e) P := by
  intro n
  induction n with
  | zero => intro m a b c d e h; omega
  | succ n ih => exact fun m a b c d e h hI => hs m a b c d e hI _ fun m' a' b' c' d' e' h' hI' => ih m' a' b' c' d' e' (by omega) hI'
/-! counted loops: i from 0 to N -/
theorem wf_1 {bot : A → Option R} {body : (A → Option R) → A → Option R} (N : Nat) (I : Nat → A → Prop) {a : A} (h0 : I 0 a) (hN : N < 1000000) (hs : ∀ i a (rec : A → Option R), i < N → I i a → (∀ a', I (i + 1) a' → WP (rec a') P) → WP (body rec a) P) (he : ∀ a (rec : A → Option R), I N a → WP (body rec a) P) : WP (lp bot body fuel a) P :=
  wl_1 (fun m a => ∃ i, i + m = N ∧ I i a) (fun m a hI rec hr => by
    obtain ⟨i, hi, hI⟩ := hI
    rcases Nat.eq_zero_or_pos m with h | h
    · have : i = N := by omega
      subst this; exact he a rec hI
    · exact hs i a rec (by omega) hI fun a' h' => hr (m - 1) a' (by omega) ⟨i + 1, by omega, h'⟩) fuel N a hN ⟨0, by omega, h0⟩
theorem wf_2 {bot : A → B → Option R} {body : (A → B → Option R) → A → B → Option R} (N : Nat) (I : Nat → A → B → Prop) {a : A} {b : B} (h0 : I 0 a b) (hN : N < 1000000) (hs : ∀ i a b (rec : A → B → Option R), i < N → I i a b → (∀ a' b', I (i + 1) a' b' → WP (rec a' b') P) → WP (body rec a b) P) (he : ∀ a b (rec : A → B → Option R), I N a b → WP (body rec a b) P) : WP (lp bot body fuel a b) P :=
  wl_2 (fun m a b => ∃ i, i + m = N ∧ I i a b) (fun m a b hI rec hr => by
    obtain ⟨i, hi, hI⟩ := hI
    rcases Nat.eq_zero_or_pos m with h | h
    · have : i = N := by omega
      subst this; exact he a b rec hI
    · exact hs i a b rec (by omega) hI fun a' b' h' => hr (m - 1) a' b' (by omega) ⟨i + 1, by omega, h'⟩) fuel N a b hN ⟨0, by omega, h0⟩
theorem wf_3 {bot : A → B → C → Option R} {body : (A → B → C → Option R) → A → B → C → Option R} (N : Nat) (I : Nat → A → B → C → Prop) {a : A} {b : B} {c : C} (h0 : I 0 a b c) (hN : N < 1000000) (hs : ∀ i a b c (rec : A → B → C → Option R), i < N → I i a b c → (∀ a' b' c', I (i + 1) a' b' c' → WP (rec a' b' c') P) → WP (body rec a b c) P) (he : ∀ a b c (rec : A → B → C → Option R), I N a b c → WP (body rec a b c) P) : WP (lp bot body fuel a b c) P :=
  wl_3 (fun m a b c => ∃ i, i + m = N ∧ I i a b c) (fun m a b c hI rec hr => by
    obtain ⟨i, hi, hI⟩ := hI
    rcases Nat.eq_zero_or_pos m with h | h
    · have : i = N := by omega
      subst this; exact he a b c rec hI
    · exact hs i a b c rec (by omega) hI fun a' b' c' h' => hr (m - 1) a' b' c' (by omega) ⟨i + 1, by omega, h'⟩) fuel N a b c hN ⟨0, by omega, h0⟩
theorem wf_4 {bot : A → B → C → D → Option R} {body : (A → B → C → D → Option R) → A → B → C → D → Option R} (N : Nat) (I : Nat → A → B → C → D → Prop) {a : A} {b : B} {c : C} {d : D} (h0 : I 0 a b c d) (hN : N < 1000000) (hs : ∀ i a b c d (rec : A → B → C → D → Option R), i < N → I i a b c d → (∀ a' b' c' d', I (i + 1) a' b' c' d' → WP (rec a' b' c' d') P) → WP (body rec a b c d) P) (he : ∀ a b c d (rec : A → B → C → D → Option R), I N a b c d → WP (body rec a b c d) P) : WP (lp bot body fuel a b c d) P :=
  wl_4 (fun m a b c d => ∃ i, i + m = N ∧ I i a b c d) (fun m a b c d hI rec hr => by
    obtain ⟨i, hi, hI⟩ := hI
    rcases Nat.eq_zero_or_pos m with h | h
    · have : i = N := by omega
      subst this; exact he a b c d rec hI
    · exact hs i a b c d rec (by omega) hI fun a' b' c' d' h' => hr (m - 1) a' b' c' d' (by omega) ⟨i + 1, by omega, h'⟩) fuel N a b c d hN ⟨0, by omega, h0⟩
end WPL
/-! Two at a time: what both come to. -/
def W2 {α β : Type} (x : Option α) (y : Option β) (P : α → β → Prop) : Prop := ∃ v w, x = some v ∧ y = some w ∧ P v w
section W2S
variable {α β γ δ : Type} {P : γ → δ → Prop}
theorem w2_some {v : γ} {w : δ} (h : P v w) : W2 (some v) (some w) P := ⟨v, w, rfl, rfl, h⟩
theorem w2_bnd1 {x : Option α} {y : Option β} {k : α → Option γ} {k' : β → Option δ} {Q : α → β → Prop} (h : W2 x y Q) (hk : ∀ a b, Q a b → W2 (k a) (k' b) P) : W2 (bnd1 x k) (bnd1 y k') P := by
  obtain ⟨a, b, rfl, rfl, hq⟩ := h
  exact hk a b hq
theorem w2_l {x : Option α} {y : Option δ} {k : α → Option γ} {a : α} (h : x = some a) (hk : W2 (k a) y P) : W2 (bnd1 x k) y P := by subst h; exact hk
theorem w2_r {x : Option γ} {y : Option β} {k : β → Option δ} {b : β} (h : y = some b) (hk : W2 x (k b) P) : W2 x (bnd1 y k) P := by subst h; exact hk
theorem w2_gl {b : Bool} {x : Option γ} {y : Option δ} (hb : b = true) (h : W2 x y P) : W2 (grd b x) y P := by rw [grd_eq _ hb]; exact h
theorem w2_gr {b : Bool} {x : Option γ} {y : Option δ} (hb : b = true) (h : W2 x y P) : W2 x (grd b y) P := by rw [grd_eq _ hb]; exact h
theorem w2_if {c c' : Prop} [Decidable c] [Decidable c'] {x x' : Option γ} {y y' : Option δ} (hc : c ↔ c') (h1 : c → c' → W2 x y P) (h2 : ¬ c → ¬ c' → W2 x' y' P) : W2 (if c then x else x') (if c' then y else y') P := by
  by_cases h : c
  · rw [if_pos h, if_pos (hc.mp h)]; exact h1 h (hc.mp h)
  · rw [if_neg h, if_neg fun q => h (hc.mpr q)]; exact h2 h fun q => h (hc.mpr q)
theorem w2_nif {c c' : Prop} [Decidable c] [Decidable c'] {x x' : Option γ} {y y' : Option δ} (hc : c ↔ ¬ c') (h1 : c → ¬ c' → W2 x y' P) (h2 : ¬ c → c' → W2 x' y P) : W2 (if c then x else x') (if c' then y else y') P := by
  by_cases h : c
  · rw [if_pos h, if_neg (hc.mp h)]; exact h1 h (hc.mp h)
  · have h' : c' := Classical.byContradiction fun q => h (hc.mpr q)
    rw [if_neg h, if_pos h']; exact h2 h h'
theorem w2_val {x y : Option γ} (h : W2 x y (fun v w => v = w)) : ∃ v, x = some v ∧ y = some v := by
  obtain ⟨v, w, h1, h2, rfl⟩ := h
  exact ⟨v, h1, h2⟩
theorem w2_imp {x : Option γ} {y : Option δ} {Q : γ → δ → Prop} (h : W2 x y Q) (hk : ∀ a b, Q a b → P a b) : W2 x y P := by
  obtain ⟨a, b, e1, e2, hq⟩ := h
  exact ⟨a, b, e1, e2, hk a b hq⟩
end W2S
section W2L
variable {A B C A' B' C' R R' : Type} {P : R → R' → Prop}
theorem w2f_1 {bot : A → Option R} {body : (A → Option R) → A → Option R} {bot' : A' → Option R'} {body' : (A' → Option R') → A' → Option R'} (N : Nat) (I : Nat → A → A' → Prop) {a : A} {a' : A'} (h0 : I 0 a a') (hN : N < 1000000) (hs : ∀ i a a' (rec : A → Option R) (rec' : A' → Option R'), i < N → I i a a' → (∀ c c', I (i + 1) c c' → W2 (rec c) (rec' c') P) → W2 (body rec a) (body' rec' a') P) (he : ∀ a a' (rec : A → Option R) (rec' : A' → Option R'), I N a a' → W2 (body rec a) (body' rec' a') P) : W2 (lp bot body fuel a) (lp bot' body' fuel a') P := by
  have key : ∀ n m i a a', m < n → i + m = N → I i a a' → W2 (lp bot body n a) (lp bot' body' n a') P := by
    intro n
    induction n with
    | zero => intro m i a a' h; omega
    | succ n ih =>
      intro m i a a' h hi hI
      rcases Nat.eq_zero_or_pos m with q | q
      · have : i = N := by omega
        subst this; exact he _ _ _ _ hI
      · exact hs i a a' _ _ (by omega) hI fun c c' h' => ih (m - 1) (i + 1) c c' (by omega) (by omega) h'
  exact key fuel N 0 a a' hN (by omega) h0
theorem w2f_2 {bot : A → B → Option R} {body : (A → B → Option R) → A → B → Option R} {bot' : A' → B' → Option R'} {body' : (A' → B' → Option R') → A' → B' → Option R'} (N : Nat) (I : Nat → A → B → A' → B' → Prop) {a : A} {b : B} {a' : A'} {b' : B'} (h0 : I 0 a b a' b') (hN : N < 1000000) (hs : ∀ i a b a' b' (rec : A → B → Option R) (rec' : A' → B' → Option R'), i < N → I i a b a' b' → (∀ c d c' d', I (i + 1) c d c' d' → W2 (rec c d) (rec' c' d') P) → W2 (body rec a b) (body' rec' a' b') P) (he : ∀ a b a' b' (rec : A → B → Option R) (rec' : A' → B' → Option R'), I N a b a' b' → W2 (body rec a b) (body' rec' a' b') P) : W2 (lp bot body fuel a b) (lp bot' body' fuel a' b') P := by
  have key : ∀ n m i a b a' b', m < n → i + m = N → I i a b a' b' → W2 (lp bot body n a b) (lp bot' body' n a' b') P := by
    intro n
    induction n with
    | zero => intro m i a b a' b' h; omega
    | succ n ih =>
      intro m i a b a' b' h hi hI
      rcases Nat.eq_zero_or_pos m with q | q
      · have : i = N := by omega
        subst this; exact he _ _ _ _ _ _ hI
      · exact hs i a b a' b' _ _ (by omega) hI fun c d c' d' h' => ih (m - 1) (i + 1) c d c' d' (by omega) (by omega) h'
  exact key fuel N 0 a b a' b' hN (by omega) h0
end W2L
