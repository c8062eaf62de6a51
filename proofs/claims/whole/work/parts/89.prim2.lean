/-! Form kept: words, numbers, signs on both sides. -/
section PRIM2
variable {T : Nat → Nat} {n s : Nat} {a b : SS} {O F : SS → SS → Prop}
/-- both go on, or both refuse -/
theorem tkw {γ δ : Type} {P : γ → δ → Prop} {k : Bool → SS → Option γ} {k' : Bool → SS → Option δ} (hT : TT T n) (hF : Sb F) (hO : Sb O) (hFO : ∀ a b, F a b → O a b) (h : K2 T n s a b) (hf : F a b) {o : Nat} {W : Int64} (hW : W = lN (ww o)) (ho : o < 6) (ht : ∀ a' b' s', K2 T n s' a' b' → F a' b' → W2 (k true a') (k' true b') P) (hn : ∀ a' b', FlO O a' b' → W2 (k false a') (k' false b') P) : W2 (bnd (fX2_takeWord a o) k) (bnd (fX8_takesWord b W) k') P := by
  subst hW
  obtain ⟨bb, e1, e2⟩ := word7 hT h ho
  have e3 := word8 h (o := o)
  unfold fX2_takeWord fX8_takesWord
  rw [bnd1_of _ e1]
  by_cases c : isW T n s o
  · rw [if_pos (e2.mpr c), if_pos (e3.mpr c)]
    obtain ⟨a', b', x1, x2, x3, x4, -⟩ := adv2 hT hF h hf
    rw [bnd1_of _ x1, bnd1_of _ x2]
    exact ht a' b' _ x3 x4
  · rw [if_neg fun h => c (e2.mp h), if_neg fun h => c (e3.mp h), show fX2_refuse a (1 : Int32) = some (false, sI a 26 7 (fv 1 s)) from ref7 h 1, show fX8_wrong b (1 : Int32) = some (false, sI b 73 4 (fv 1 s)) from ref8 h 1]
    exact hn _ _ (fl2 hT hO h (hFO a b hf) (by omega))
theorem tks {γ δ : Type} {P : γ → δ → Prop} {k : Bool → SS → Option γ} {k' : Bool → SS → Option δ} (hT : TT T n) (hF : Sb F) (hO : Sb O) (hFO : ∀ a b, F a b → O a b) (h : K2 T n s a b) (hf : F a b) (ht : ∀ a' b' s', K2 T n s' a' b' → F a' b' → W2 (k true a') (k' true b') P) (hn : ∀ a' b', FlO O a' b' → W2 (k false a') (k' false b') P) : W2 (bnd (fX2_takeSign a (4 : Int32)) k) (bnd (fX8_takesSign b (59 : Int32)) k') P := by
  have hh := h
  obtain ⟨k1, ⟨c1, c2, c3, c4, c5, c6⟩, ⟨r1, r2, r3, r4, r5, r6, r7, r8⟩, k4⟩ := hh
  have hTs := hT.2 s
  have hno : W2 (bnd (bnd (fX2_refuse a (1 : Int32)) fun b3 σ5 => some (b3, σ5)) k) (bnd (bnd (fX8_wrong b (1 : Int32)) fun b2 σ4 => some (b2, σ4)) k') P := by
    rw [show fX2_refuse a (1 : Int32) = some (false, sI a 26 7 (fv 1 s)) from ref7 h 1, show fX8_wrong b (1 : Int32) = some (false, sI b 73 4 (fv 1 s)) from ref8 h 1]
    exact hn _ _ (fl2 hT hO h (hFO a b hf) (by omega))
  unfold fX2_takeSign fX8_takesSign
  rw [c5, r5]
  by_cases c : kc T n s = 4
  · have e59 : T s = 59 := by
      unfold kc at c
      by_cases c0 : n ≤ s
      · rw [if_pos c0] at c; omega
      · rw [if_neg c0] at c
        have := kd_cases (T s); omega
    rw [if_pos (c := nI (kc T n s) = (4 : Int32)) ((kcI (k := 4) (by omega)).mpr c), vthen_q, if_pos (c := nI (kr (kc T n s)) = (3 : Int32)) (kr3.mpr (Or.inr c)), r7 (by omega), e59, if_pos (c := nI 59 = (59 : Int32)) rfl]
    obtain ⟨a', b', x1, x2, x3, x4, -⟩ := adv2 hT hF h hf
    rw [bnd1_of _ x1, bnd1_of _ x2]
    exact ht a' b' _ x3 x4
  · rw [if_neg (c := nI (kc T n s) = (4 : Int32)) fun h => c ((kcI (k := 4) (by omega)).mp h), vthen_q]
    by_cases c3 : kc T n s = 3
    · have e44 : T s = 44 := by
        unfold kc at c3
        by_cases c0 : n ≤ s
        · rw [if_pos c0] at c3; omega
        · rw [if_neg c0] at c3
          have := kd_cases (T s); omega
      rw [if_pos (c := nI (kr (kc T n s)) = (3 : Int32)) (kr3.mpr (Or.inl c3)), r7 (by omega), e44, if_neg (c := nI 44 = (59 : Int32)) (by decide)]
      exact hno
    · rw [if_neg (c := nI (kr (kc T n s)) = (3 : Int32)) fun h => by have := kr3.mp h; omega]
      exact hno
/-- a number within bounds on both sides, or both refuse -/
theorem isn2 {lo hi : Int32} (h : K2 T n s a b) : (∃ v, v ≤ 999 ∧ lo ≤ nI v ∧ nI v ≤ hi ∧ gI a 26 5 = nI v ∧ gI b 73 7 = nI v ∧ fX2_isNumber a lo hi = some (true, a) ∧ fX8_isNumber b lo hi = some (true, b)) ∨ ∃ y, 1 ≤ y ∧ y ≤ 5 ∧ fX2_isNumber a lo hi = some (false, sI a 26 7 (fv y s)) ∧ fX8_isNumber b lo hi = some (false, sI b 73 4 (fv y s)) := by
  have hh := h
  obtain ⟨k1, ⟨c1, c2, c3, c4, c5, c6⟩, ⟨r1, r2, r3, r4, r5, r6, r7, r8⟩, k4⟩ := hh
  by_cases c : kc T n s = 2
  · have hall := en_all (T := T) (n := n) (s := s) (Or.inr c)
    have hen := en_le (T := T) k1
    have hv := nv_le (T := T) (s := s) (en T n s - s) fun j hj => by rw [hall.2 (s + j) (by omega) (by omega), c]
    have i7 : nI (kc T n s) = (2 : Int32) := (kcI (k := 2) (by omega)).mpr c
    have i8 : nI (kr (kc T n s)) = (2 : Int32) := (krI (k := 2) (by omega)).mpr c
    generalize nv T s (en T n s - s) = v at *
    have e7 := c6 c
    have e8 := r6 c
    by_cases d : lo ≤ nI v ∧ nI v ≤ hi
    · refine Or.inl ⟨v, hv, d.1, d.2, e7, e8, ?_, ?_⟩
      · unfold fX2_isNumber
        rw [c5, if_pos i7, e7, vthen_q, vthen_q, if_neg (Int32.not_lt.mpr d.1), if_pos d.2]
      · unfold fX8_isNumber
        rw [r5, if_pos i8, vthen_q, e8, if_pos (by rw [in_eq]; exact d)]
    · refine Or.inr ⟨2, by omega, by omega, ?_, ?_⟩
      · have e2 : fX2_refuse a (2 : Int32) = some (false, sI a 26 7 (fv 2 s)) := ref7 h 2
        unfold fX2_isNumber
        rw [c5, if_pos i7, e7, vthen_q, vthen_q, e2, bnd_some]
        by_cases d1 : nI v < lo
        · rw [if_pos d1]; exact if_neg (c := false = true) (by decide)
        · rw [if_neg d1, if_neg fun q => d ⟨Int32.not_lt.mp d1, q⟩]; exact if_neg (c := false = true) (by decide)
      · have e2 : fX8_wrong b (2 : Int32) = some (false, sI b 73 4 (fv 2 s)) := ref8 h 2
        unfold fX8_isNumber
        rw [r5, if_pos i8, vthen_q, e8, if_neg (by rw [in_eq]; exact d), e2, bnd_some, if_neg (by decide)]
  · refine Or.inr ⟨1, by omega, by omega, ?_, ?_⟩
    · unfold fX2_isNumber
      rw [c5, if_neg (c := nI (kc T n s) = (2 : Int32)) fun h => c ((kcI (k := 2) (by omega)).mp h), show fX2_refuse a (1 : Int32) = some (false, sI a 26 7 (fv 1 s)) from ref7 h 1, bnd_some]
    · unfold fX8_isNumber
      rw [r5, if_neg (c := nI (kr (kc T n s)) = (2 : Int32)) fun h => c ((krI (k := 2) (by omega)).mp h), show fX8_wrong b (1 : Int32) = some (false, sI b 73 4 (fv 1 s)) from ref8 h 1, bnd_some]
theorem num2 {γ δ : Type} {P : γ → δ → Prop} {k : Bool → SS → Option γ} {k' : Bool → SS → Option δ} {lo hi : Int32} (hT : TT T n) (hO : Sb O) (h : K2 T n s a b) (ho : O a b) (ht : ∀ v, v ≤ 999 → lo ≤ nI v → nI v ≤ hi → gI b 73 7 = nI v → W2 (bnd1 (fX2_advance (sI a 26 6 (nI v))) fun σ6 => k true σ6) (k' true b) P) (hn : ∀ a' b', FlO O a' b' → W2 (k false a') (k' false b') P) : W2 (bnd (fX2_takeNumber a lo hi) k) (bnd (fX8_isNumber b lo hi) k') P := by
  unfold fX2_takeNumber
  rcases isn2 (lo := lo) (hi := hi) h with ⟨v, v1, v2, v3, v4, v5, v6, v7⟩ | ⟨y, y1, y2, y3, y4⟩
  · rw [v6, v7, bnd_some, bnd_some, if_pos rfl, v4, vthen_q]
    have := ht v v1 v2 v3 v5
    cases hx : fX2_advance (sI a 26 6 (nI v)) with
    | none => rw [hx] at this; exact this
    | some t => rw [hx] at this; exact this
  · rw [y3, y4, bnd_some, bnd_some, if_neg (by decide), bnd_some]
    exact hn _ _ (fl2 hT hO h ho ⟨y1, y2⟩)
end PRIM2
