/-! Form kept: both at the same token; words. -/
def TT (T : Nat → Nat) (n : Nat) : Prop := n ≤ 400 ∧ ∀ j, T j < 256
def K2 (T : Nat → Nat) (n s : Nat) (a b : SS) : Prop := s ≤ n ∧ Cs T n s a ∧ Rs T n s b ∧ gI a 26 7 = 0
/-- what token cells don't touch -/
def Sb (F : SS → SS → Prop) : Prop := ∀ a b a' b', F a b → gR a' = gR a → (∀ c k, c ≠ 26 → gI a' c k = gI a c k) → gR b' = gR b → (∀ c k, ¬ (c = 73 ∧ 2 ≤ k ∧ k ≤ 9) → gI b' c k = gI b c k) → F a' b'
def FlO (O : SS → SS → Prop) (a b : SS) : Prop := gI a 26 7 = gI b 73 4 ∧ gI a 26 7 ≠ 0 ∧ O a b
def fv (y s : Nat) : Int32 := (-1000 : Int32) * nI y - nI s
theorem fv_ne : ∀ y, y < 6 → ∀ s, s < 401 → 1 ≤ y → fv y s ≠ 0 := by decide +kernel
section W2R
variable {α β γ δ : Type} {P : γ → δ → Prop}
theorem w2_of {x : Option γ} {y : Option δ} {Q : γ → Prop} {R : δ → Prop} (h : WP x Q) (h' : WP y R) (hk : ∀ a b, Q a → R b → P a b) : W2 x y P := by
  obtain ⟨a, e, q⟩ := h
  obtain ⟨b, e', r⟩ := h'
  exact ⟨a, b, e, e', hk a b q r⟩
theorem w2_lb {x : Option (α × β)} {y : Option δ} {k : α → β → Option γ} {a : α} {b : β} (h : x = some (a, b)) (hk : W2 (k a b) y P) : W2 (bnd x k) y P := by subst h; exact hk
theorem w2_rb {x : Option γ} {y : Option (α × β)} {k : α → β → Option δ} {a : α} {b : β} (h : y = some (a, b)) (hk : W2 x (k a b) P) : W2 x (bnd y k) P := by subst h; exact hk
theorem w2_vl {x : α} {f : α → Option γ} {y : Option δ} (h : W2 (f x) y P) : W2 (vthen x f) y P := h
theorem w2_vr {x : Option γ} {y : α} {f : α → Option δ} (h : W2 x (f y) P) : W2 x (vthen y f) P := h
theorem w2_lif {c : Prop} [Decidable c] {x x' : Option γ} {y : Option δ} (h1 : c → W2 x y P) (h2 : ¬ c → W2 x' y P) : W2 (if c then x else x') y P := by
  by_cases h : c
  · rw [if_pos h]; exact h1 h
  · rw [if_neg h]; exact h2 h
theorem w2_rif {c : Prop} [Decidable c] {x : Option γ} {y y' : Option δ} (h1 : c → W2 x y P) (h2 : ¬ c → W2 x y' P) : W2 x (if c then y else y') P := by
  by_cases h : c
  · rw [if_pos h]; exact h1 h
  · rw [if_neg h]; exact h2 h
/-- the right side goes on: what it comes to -/
theorem w2_rk {x : Option γ} {y : Option (α × β)} {k : α → β → Option δ} (h : W2 x y fun v w => ∃ u, k w.1 w.2 = some u ∧ P v u) : W2 x (bnd y k) P := by
  obtain ⟨v, ⟨wa, wb⟩, e, e', u, hu, hp⟩ := h
  exact ⟨v, u, e, by rw [e']; exact hu, hp⟩
theorem w2_rk_in {x : Option γ} {wa : α} {wb : β} {k : α → β → Option δ} (h : W2 x (k wa wb) P) : W2 x (some (wa, wb)) fun v w => ∃ u, k w.1 w.2 = some u ∧ P v u := by
  obtain ⟨v, u, e, e', hp⟩ := h
  exact ⟨v, (wa, wb), e, rfl, u, e', hp⟩
end W2R
section PRIM
variable {T : Nat → Nat} {n s : Nat} {a b : SS} {O F : SS → SS → Prop}
theorem K2.fr {a' b' : SS} (h : K2 T n s a b) (h1 : ∀ k, k ≠ 6 → gI a' 26 k = gI a 26 k) (h2 : ∀ k, gI a' 27 k = gI a 27 k) (h3 : ∀ k, 2 ≤ k → k ≤ 9 → gI b' 73 k = gI b 73 k) (h4 : ∀ k, gI b' 74 k = gI b 74 k) (h5 : gL b' 73 10 = gL b 73 10) : K2 T n s a' b' := by
  obtain ⟨k1, ⟨c1, c2, c3, c4, c5, c6⟩, ⟨r1, r2, r3, r4, r5, r6, r7, r8⟩, k4⟩ := h
  refine ⟨k1, ⟨by rw [h1 _ (by omega)]; exact c1, fun j hj => by rw [h2]; exact c2 j hj, by rw [h1 _ (by omega)]; exact c3, by rw [h1 _ (by omega)]; exact c4, by rw [h1 _ (by omega)]; exact c5, fun h => by rw [h1 _ (by omega)]; exact c6 h⟩, ⟨by rw [h3 _ (by omega) (by omega)]; exact r1, fun j hj => by rw [h4]; exact r2 j hj, by rw [h3 _ (by omega) (by omega)]; exact r3, by rw [h3 _ (by omega) (by omega)]; exact r4, by rw [h3 _ (by omega) (by omega)]; exact r5, fun h => by rw [h3 _ (by omega) (by omega)]; exact r6 h, fun h => by rw [h3 _ (by omega) (by omega)]; exact r7 h, fun h => by rw [h3 _ (by omega) (by omega), h5]; exact r8 h⟩, by rw [h1 _ (by omega)]; exact k4⟩
theorem K2.cl {c k : Nat} {v : Int32} (h : K2 T n s a b) (hc : (c = 26 ∧ k = 6) ∨ (c ≠ 26 ∧ c ≠ 27)) : K2 T n s (sI a c k v) b := h.fr (fun j hj => by rw [gI_nk (by omega)]) (fun j => by rw [gI_ne (by omega)]) (fun _ _ _ => rfl) (fun _ => rfl) rfl
theorem K2.rr {c k : Nat} {v : Int32} (h : K2 T n s a b) (hc : c ≠ 73 ∧ c ≠ 74) : K2 T n s a (sI b c k v) := h.fr (fun _ _ => rfl) (fun _ => rfl) (fun j _ _ => by rw [gI_ne (by omega)]) (fun j => by rw [gI_ne (by omega)]) rfl
theorem adv2 (hT : TT T n) (hF : Sb F) (h : K2 T n s a b) (hf : F a b) : W2 (fX2_advance a) (fX8_next b) (fun a' b' => K2 T n (sk T n (en T n s)) a' b' ∧ F a' b' ∧ gI a' 26 6 = gI a 26 6) := by
  obtain ⟨k1, ⟨c1, c2, c3, c4, c5, c6⟩, ⟨r1, r2, r3, r4, r5, r6, r7, r8⟩, k4⟩ := h
  have hen := en_le (T := T) k1
  refine w2_of (adv7 hT.1 hen.2.1 c1 c2 hT.2 c4) (next8 hT.1 hen.2.1 r1 r2 hT.2 r4) ?_
  rintro a' b' ⟨x1, x2, x3⟩ ⟨y1, y2, y3⟩
  exact ⟨⟨(sk_le hen.2.1).2, x3, y3, by rw [x2 _ _ (by omega)]; exact k4⟩, hF a b a' b' hf x1 (fun c k hc => x2 c k (by omega)) y1 (fun c k hc => y2 c k (by omega)), x2 _ _ (by omega)⟩
theorem ref7 (h : K2 T n s a b) (y : Nat) : fX2_refuse a (nI y) = some (false, sI a 26 7 (fv y s)) := by
  unfold fX2_refuse; rw [h.2.1.2.2.1]; rfl
theorem ref8 (h : K2 T n s a b) (y : Nat) : fX8_wrong b (nI y) = some (false, sI b 73 4 (fv y s)) := by
  unfold fX8_wrong; rw [h.2.2.1.2.2.1]; rfl
theorem fl2 (hT : TT T n) (hO : Sb O) (h : K2 T n s a b) (ho : O a b) {y : Nat} (hy : 1 ≤ y ∧ y ≤ 5) : FlO O (sI a 26 7 (fv y s)) (sI b 73 4 (fv y s)) := by
  have hs := h.1
  have hn := hT.1
  refine ⟨by rw [gI_eq, gI_eq], by rw [gI_eq]; exact fv_ne y (by omega) s (by omega) hy.1, hO a b _ _ ho rfl (fun c k hc => by rw [gI_ne hc]) rfl fun c k hc => by rw [gI_nk (by omega)]⟩
/-- the class's refuse, the reference's wrong -/
theorem wr2 {γ δ : Type} {P : γ → δ → Prop} {k : Bool → SS → Option γ} {k' : Bool → SS → Option δ} (hT : TT T n) (hO : Sb O) (h : K2 T n s a b) (ho : O a b) {y : Nat} (hy : 1 ≤ y ∧ y ≤ 5) (hf : ∀ a' b', FlO O a' b' → W2 (k false a') (k' false b') P) : W2 (bnd (fX2_refuse a (nI y)) k) (bnd (fX8_wrong b (nI y)) k') P := by
  rw [ref7 h y, ref8 h y]
  exact hf _ _ (fl2 hT hO h ho hy)
/-! words -/
def ww (o : Nat) : Nat := [632645, 2552, 427481, 15813, 11449, 24627848].getD o 0
def isW (T : Nat → Nat) (n s o : Nat) : Prop := kc T n s = 1 ∧ wl T s (en T n s - s) = lN (ww o)
theorem lit {x c : Nat} (h : nI x = nI c) (hx : x < 256) (hc : c < 256 := by decide) : x = c := nI_injN (by omega) (by omega) h
theorem wch {L : Nat} (hT : ∀ j, T j < 256) {o : Nat} (ho : o < 6) (h : ∀ j, j < L → kd (T (s + j)) = 1) : (L = stL.getD o 0 ∧ ∀ i, i < stL.getD o 0 → nI (T (s + i)) = stCh o i) ↔ (L ≤ 7 ∧ wd T s L = ww o) := by
  rcases (show o = 0 ∨ o = 1 ∨ o = 2 ∨ o = 3 ∨ o = 4 ∨ o = 5 by omega) with rfl | rfl | rfl | rfl | rfl | rfl
  · refine Iff.trans ?_ (w_size h).symm
    constructor
    · rintro ⟨h1, h2⟩
      exact ⟨h1, lit (show nI (T (s + 0)) = nI 115 from h2 0 (by decide)) (hT _), lit (show nI (T (s + 1)) = nI 105 from h2 1 (by decide)) (hT _), lit (show nI (T (s + 2)) = nI 122 from h2 2 (by decide)) (hT _), lit (show nI (T (s + 3)) = nI 101 from h2 3 (by decide)) (hT _)⟩
    · rintro ⟨h1, c0, c1, c2, c3⟩
      refine ⟨h1, fun i hi => ?_⟩
      have hi' : i < 4 := hi
      rcases (show i = 0 ∨ i = 1 ∨ i = 2 ∨ i = 3 by omega) with rfl | rfl | rfl | rfl
      · rw [c0]; rfl
      · rw [c1]; rfl
      · rw [c2]; rfl
      · rw [c3]; rfl
  · refine Iff.trans ?_ (w_box h).symm
    constructor
    · rintro ⟨h1, h2⟩
      exact ⟨h1, lit (show nI (T (s + 0)) = nI 98 from h2 0 (by decide)) (hT _), lit (show nI (T (s + 1)) = nI 111 from h2 1 (by decide)) (hT _), lit (show nI (T (s + 2)) = nI 120 from h2 2 (by decide)) (hT _)⟩
    · rintro ⟨h1, c0, c1, c2⟩
      refine ⟨h1, fun i hi => ?_⟩
      have hi' : i < 3 := hi
      rcases (show i = 0 ∨ i = 1 ∨ i = 2 by omega) with rfl | rfl | rfl
      · rw [c0]; rfl
      · rw [c1]; rfl
      · rw [c2]; rfl
  · refine Iff.trans ?_ (w_many h).symm
    constructor
    · rintro ⟨h1, h2⟩
      exact ⟨h1, lit (show nI (T (s + 0)) = nI 109 from h2 0 (by decide)) (hT _), lit (show nI (T (s + 1)) = nI 97 from h2 1 (by decide)) (hT _), lit (show nI (T (s + 2)) = nI 110 from h2 2 (by decide)) (hT _), lit (show nI (T (s + 3)) = nI 121 from h2 3 (by decide)) (hT _)⟩
    · rintro ⟨h1, c0, c1, c2, c3⟩
      refine ⟨h1, fun i hi => ?_⟩
      have hi' : i < 4 := hi
      rcases (show i = 0 ∨ i = 1 ∨ i = 2 ∨ i = 3 by omega) with rfl | rfl | rfl | rfl
      · rw [c0]; rfl
      · rw [c1]; rfl
      · rw [c2]; rfl
      · rw [c3]; rfl
  · refine Iff.trans ?_ (w_one h).symm
    constructor
    · rintro ⟨h1, h2⟩
      exact ⟨h1, lit (show nI (T (s + 0)) = nI 111 from h2 0 (by decide)) (hT _), lit (show nI (T (s + 1)) = nI 110 from h2 1 (by decide)) (hT _), lit (show nI (T (s + 2)) = nI 101 from h2 2 (by decide)) (hT _)⟩
    · rintro ⟨h1, c0, c1, c2⟩
      refine ⟨h1, fun i hi => ?_⟩
      have hi' : i < 3 := hi
      rcases (show i = 0 ∨ i = 1 ∨ i = 2 by omega) with rfl | rfl | rfl
      · rw [c0]; rfl
      · rw [c1]; rfl
      · rw [c2]; rfl
  · refine Iff.trans ?_ (w_key h).symm
    constructor
    · rintro ⟨h1, h2⟩
      exact ⟨h1, lit (show nI (T (s + 0)) = nI 107 from h2 0 (by decide)) (hT _), lit (show nI (T (s + 1)) = nI 101 from h2 1 (by decide)) (hT _), lit (show nI (T (s + 2)) = nI 121 from h2 2 (by decide)) (hT _)⟩
    · rintro ⟨h1, c0, c1, c2⟩
      refine ⟨h1, fun i hi => ?_⟩
      have hi' : i < 3 := hi
      rcases (show i = 0 ∨ i = 1 ∨ i = 2 by omega) with rfl | rfl | rfl
      · rw [c0]; rfl
      · rw [c1]; rfl
      · rw [c2]; rfl
  · refine Iff.trans ?_ (w_worth h).symm
    constructor
    · rintro ⟨h1, h2⟩
      exact ⟨h1, lit (show nI (T (s + 0)) = nI 119 from h2 0 (by decide)) (hT _), lit (show nI (T (s + 1)) = nI 111 from h2 1 (by decide)) (hT _), lit (show nI (T (s + 2)) = nI 114 from h2 2 (by decide)) (hT _), lit (show nI (T (s + 3)) = nI 116 from h2 3 (by decide)) (hT _), lit (show nI (T (s + 4)) = nI 104 from h2 4 (by decide)) (hT _)⟩
    · rintro ⟨h1, c0, c1, c2, c3, c4⟩
      refine ⟨h1, fun i hi => ?_⟩
      have hi' : i < 5 := hi
      rcases (show i = 0 ∨ i = 1 ∨ i = 2 ∨ i = 3 ∨ i = 4 by omega) with rfl | rfl | rfl | rfl | rfl
      · rw [c0]; rfl
      · rw [c1]; rfl
      · rw [c2]; rfl
      · rw [c3]; rfl
      · rw [c4]; rfl
theorem wloop {o : Nat} (hn : n ≤ 400) (h27 : ∀ j, j < n → gI a 27 j = nI (T j)) (h2 : gI a 26 2 = nI s) (hs : s + stL.getD o 0 ≤ n) : WP (X2_isWord_L28 a o fuel (0 : Int32)) (fun r => r = true ↔ ∀ i, i < stL.getD o 0 → nI (T (s + i)) = stCh o i) := by
  unfold X2_isWord_L28
  refine wf_1 (stL.getD o 0) (fun i v => v = nI i ∧ ∀ j, j < i → nI (T (s + j)) = stCh o j) ⟨rfl, fun j hj => absurd hj (by omega)⟩ (by omega) ?_ ?_
  · rintro i _ rec hi ⟨rfl, ho⟩ hr
    unfold stLen
    rw [if_neg (nI_ge hi (by omega)), h2, nI_add, nI_clamp (by omega), nI_clamp (by omega), h27 _ (by omega), nI_1]
    refine wp_grd (inb_nI (by omega) (by decide)) (wp_grd (inb_nI hi (by omega)) (wp_if (fun c => hr _ ⟨rfl, fun j hj => ?_⟩) fun c => wp_some ⟨fun h => absurd h (by decide), fun h => absurd (h i hi) c⟩))
    by_cases e : j = i
    · subst e; exact c
    · exact ho j (by omega)
  · rintro _ rec ⟨rfl, ho⟩
    unfold stLen
    rw [if_pos (nI_le (Nat.le_refl _) (by omega))]
    exact wp_some ⟨fun _ => ho, fun _ => rfl⟩
theorem stL_le {o : Nat} (ho : o < 6) : stL.getD o 0 ≤ 5 := by
  rcases (show o = 0 ∨ o = 1 ∨ o = 2 ∨ o = 3 ∨ o = 4 ∨ o = 5 by omega) with rfl | rfl | rfl | rfl | rfl | rfl <;> decide
theorem ww_lt {o : Nat} (ho : o < 6) : ww o < 34359738368 := by
  rcases (show o = 0 ∨ o = 1 ∨ o = 2 ∨ o = 3 ∨ o = 4 ∨ o = 5 by omega) with rfl | rfl | rfl | rfl | rfl | rfl <;> decide
theorem kc_le : kc T n s ≤ 5 := by
  unfold kc
  have := kd_le (T s)
  by_cases c : n ≤ s
  · rw [if_pos c]; omega
  · rw [if_neg c]; omega
theorem kcI {k : Nat} (hk : k ≤ 5) : (nI (kc T n s) = nI k) ↔ kc T n s = k := by
  have := kc_le (T := T) (n := n) (s := s)
  exact nI_eq (by omega) (by omega)
theorem word7 (hT : TT T n) (h : K2 T n s a b) {o : Nat} (ho : o < 6) : ∃ bb, fX2_isWord a o = some bb ∧ (bb = true ↔ isW T n s o) := by
  obtain ⟨k1, ⟨c1, c2, c3, c4, c5, c6⟩, -, k4⟩ := h
  have hn := hT.1
  have hen := en_le (T := T) k1
  have hl := stL_le ho
  unfold fX2_isWord isW
  rw [c5, c4, c3, nI_sub hen.1]
  by_cases e1 : kc T n s = 1
  · rw [if_pos (c := nI (kc T n s) = (1 : Int32)) (show nI (kc T n s) = nI 1 by rw [e1])]
    have hall := en_all (T := T) (n := n) (s := s) (Or.inl e1)
    have hd : ∀ j, j < en T n s - s → kd (T (s + j)) = 1 := fun j hj => by rw [hall.2 (s + j) (by omega) (by omega), e1]
    have hw := w_len (T := T) (s := s) (ww o) hd
    have hc := wch (T := T) (s := s) hT.2 ho hd
    have hw2 := ww_lt ho
    by_cases e2 : en T n s - s = stL.getD o 0
    · rw [if_pos (show nI (en T n s - s) = stLen o by unfold stLen; rw [e2])]
      obtain ⟨r, r1, r2⟩ := wloop (T := T) (a := a) (o := o) hn c2 c3 (by omega)
      refine ⟨r, r1, r2.trans ⟨fun h => ⟨e1, (hw.mpr ⟨(hc.mp ⟨e2, h⟩).1, (hc.mp ⟨e2, h⟩).2, hw2⟩).1⟩, fun h => ?_⟩⟩
      obtain ⟨q1, q2, -⟩ := hw.mp ⟨h.2, hw2⟩
      exact (hc.mpr ⟨q1, q2⟩).2
    · rw [if_neg (c := nI (en T n s - s) = stLen o) fun h => e2 (nI_injN (a := en T n s - s) (b := stL.getD o 0) (by omega) (by omega) h)]
      refine ⟨false, rfl, fun h => absurd h (by decide), fun h => ?_⟩
      obtain ⟨q1, q2, -⟩ := hw.mp ⟨h.2, hw2⟩
      exact absurd (hc.mpr ⟨q1, q2⟩).1 e2
  · rw [if_neg (c := nI (kc T n s) = (1 : Int32)) fun h => e1 ((kcI (k := 1) (by omega)).mp h)]
    exact ⟨false, rfl, fun h => absurd h (by decide), fun h => absurd h.1 e1⟩
theorem krI {k : Nat} (hk : k = 0 ∨ k = 1 ∨ k = 2) : (nI (kr (kc T n s)) = nI k) ↔ kc T n s = k := by
  have := kc_le (T := T) (n := n) (s := s)
  have e : kr (kc T n s) = k ↔ kc T n s = k := by
    unfold kr
    by_cases c : kc T n s < 4
    · rw [if_pos c]
    · rw [if_neg c]; omega
  have e2 : kr (kc T n s) ≤ 5 := by
    unfold kr
    by_cases c : kc T n s < 4
    · rw [if_pos c]; omega
    · rw [if_neg c]; omega
  rw [nI_eq (by omega) (by omega), e]
theorem kr3 : (nI (kr (kc T n s)) = nI 3) ↔ (kc T n s = 3 ∨ kc T n s = 4) := by
  have := kc_le (T := T) (n := n) (s := s)
  have e : kr (kc T n s) = 3 ↔ (kc T n s = 3 ∨ kc T n s = 4) := by
    unfold kr
    by_cases c : kc T n s < 4
    · rw [if_pos c]; omega
    · rw [if_neg c]; omega
  have e2 : kr (kc T n s) ≤ 5 := by
    unfold kr
    by_cases c : kc T n s < 4
    · rw [if_pos c]; omega
    · rw [if_neg c]; omega
  rw [nI_eq (by omega) (by omega), e]
theorem word8 (h : K2 T n s a b) {o : Nat} : (fX8_isWord b (lN (ww o)) = true) ↔ isW T n s o := by
  obtain ⟨-, -, ⟨r1, r2, r3, r4, r5, r6, r7, r8⟩, -⟩ := h
  unfold fX8_isWord isW
  simp only [vthen_q]
  rw [r5]
  by_cases e1 : kc T n s = 1
  · rw [if_pos (c := nI (kr (kc T n s)) = (1 : Int32)) ((krI (k := 1) (by omega)).mpr e1), (r8 e1).2]
    by_cases e2 : wl T s (en T n s - s) = lN (ww o)
    · rw [if_pos ((lg_cmp_eq _ _).mpr e2)]; exact ⟨fun _ => ⟨e1, e2⟩, fun _ => rfl⟩
    · rw [if_neg fun h => e2 ((lg_cmp_eq _ _).mp h)]; exact ⟨fun h => absurd h (by decide), fun h => absurd h.2 e2⟩
  · rw [if_neg (c := nI (kr (kc T n s)) = (1 : Int32)) fun h => e1 ((krI (k := 1) (by omega)).mp h)]
    exact ⟨fun h => absurd h (by decide), fun h => absurd h.1 e1⟩
end PRIM
