/-! Sorting by insertion, as a function of its own; the pile sorted: points, telling; take. -/
def ins (key : Nat → Int32) (i : Nat) : Nat → (Nat → Nat) → Nat → Nat
  | 0, o => fun k => if k = 0 then i else o k
  | a + 1, o => if key (o a) < key i then ins key i a (fun k => if k = a + 1 then o a else o k) else fun k => if k = a + 1 then i else o k
def srt (key : Nat → Int32) : Nat → Nat → Nat
  | 0 => fun _ => 0
  | n + 1 => ins key n n (srt key n)
theorem ins_s (key : Nat → Int32) (i a : Nat) (o : Nat → Nat) : ins key i (a + 1) o = if key (o a) < key i then ins key i a (fun k => if k = a + 1 then o a else o k) else fun k => if k = a + 1 then i else o k := rfl
theorem ins_lt {key : Nat → Int32} {i : Nat} : ∀ a o, a ≤ i → (∀ k, k ≤ i → k ≠ a → o k < i + 1) → ∀ k, k ≤ i → ins key i a o k < i + 1
  | 0, o, _, h, k, hk => by
    show (if k = 0 then i else o k) < i + 1
    by_cases c : k = 0
    · rw [if_pos c]; omega
    · rw [if_neg c]; exact h k hk c
  | a + 1, o, ha, h, k, hk => by
    show (if key (o a) < key i then ins key i a (fun k => if k = a + 1 then o a else o k) else fun k => if k = a + 1 then i else o k) k < i + 1
    by_cases c : key (o a) < key i
    · rw [if_pos c]
      refine ins_lt a _ (by omega) (fun j hj hja => ?_) k hk
      show (if j = a + 1 then o a else o j) < i + 1
      by_cases c2 : j = a + 1
      · rw [if_pos c2]; exact h a (by omega) (by omega)
      · rw [if_neg c2]; exact h j hj c2
    · rw [if_neg c]
      show (if k = a + 1 then i else o k) < i + 1
      by_cases c2 : k = a + 1
      · rw [if_pos c2]; omega
      · rw [if_neg c2]; exact h k hk c2
theorem srt_lt {key : Nat → Int32} : ∀ n k, k < n → srt key n k < n
  | 0, k, h => absurd h (by omega)
  | n + 1, k, h => ins_lt (key := key) (i := n) n (srt key n) (Nat.le_refl _) (fun j hj hjn => by have := srt_lt (key := key) n j (by omega); omega) k (by omega)
theorem ins_congr {key key' : Nat → Int32} {i : Nat} (hk : ∀ k, k ≤ i → key k = key' k) : ∀ a o o', a ≤ i → (∀ k, k ≤ i → k ≠ a → o k = o' k ∧ o k ≤ i) → ∀ k, k ≤ i → ins key i a o k = ins key' i a o' k
  | 0, o, o', _, h, k, hk' => by
    show (if k = 0 then i else o k) = if k = 0 then i else o' k
    by_cases c : k = 0
    · rw [if_pos c, if_pos c]
    · rw [if_neg c, if_neg c]; exact (h k hk' c).1
  | a + 1, o, o', ha, h, k, hk' => by
    show (if key (o a) < key i then ins key i a (fun k => if k = a + 1 then o a else o k) else fun k => if k = a + 1 then i else o k) k = (if key' (o' a) < key' i then ins key' i a (fun k => if k = a + 1 then o' a else o' k) else fun k => if k = a + 1 then i else o' k) k
    obtain ⟨h1, h2⟩ := h a (by omega) (by omega)
    rw [← h1, ← hk _ h2, ← hk i (Nat.le_refl _)]
    by_cases c : key (o a) < key i
    · rw [if_pos c, if_pos c]
      refine ins_congr hk a _ _ (by omega) (fun j hj hja => ?_) k hk'
      show (if j = a + 1 then o a else o j) = (if j = a + 1 then o a else o' j) ∧ (if j = a + 1 then o a else o j) ≤ i
      by_cases c2 : j = a + 1
      · rw [if_pos c2, if_pos c2]; exact ⟨rfl, h2⟩
      · rw [if_neg c2, if_neg c2]; exact h j hj c2
    · rw [if_neg c, if_neg c]
      show (if k = a + 1 then i else o k) = if k = a + 1 then i else o' k
      by_cases c2 : k = a + 1
      · rw [if_pos c2, if_pos c2]
      · rw [if_neg c2, if_neg c2]; exact (h k hk' c2).1
theorem srt_congr {key key' : Nat → Int32} : ∀ n, (∀ k, k < n → key k = key' k) → ∀ k, k < n → srt key n k = srt key' n k
  | 0, _, k, hk => absurd hk (by omega)
  | n + 1, h, k, hk => ins_congr (i := n) (fun j hj => h j (by omega)) n _ _ (Nat.le_refl _) (fun j hj hjn => ⟨srt_congr n (fun l hl => h l (by omega)) j (by omega), by have := srt_lt (key := key) n j (by omega); omega⟩) k (by omega)
/-- the row of an order: up to i, but for the place a -/
def ordd (d : Nat → Int32) (o : Nat → Nat) (i a : Nat) : Prop := ∀ k, k ≤ i → k ≠ a → d k = nI (o k)
section SORT
variable {σ : SS} {i : Nat}
theorem sort7_i (hi : i < 16) {k58 : Int32 → SS → Option SS} : ∀ a o d n, a < n → a ≤ i → ordd d o i a → (∀ k, k ≤ i → k ≠ a → o k < 16) → ∃ a' d', X4_sort_L12 (nI i) k58 n (nI a) (sA σ 63 d) = k58 (nI a') (sA σ 63 d') ∧ a' ≤ i ∧ ∀ k, k ≤ i → upd d' a' (nI i) k = nI (ins (gI σ 59) i a o k) := by
  intro a
  induction a with
  | zero =>
    intro o d n hn ha h ho
    obtain ⟨n, rfl⟩ : ∃ m, n = m + 1 := ⟨n - 1, by omega⟩
    refine ⟨0, d, ?_, by omega, fun k hk => ?_⟩
    · unfold X4_sort_L12
      rw [lp_succ, if_pos (by decide)]
    · show (if k = 0 then nI i else d k) = nI (if k = 0 then i else o k)
      by_cases c : k = 0
      · rw [if_pos c, if_pos c]
      · rw [if_neg c, if_neg c]; exact h k hk c
  | succ a ih =>
    intro o d n hn ha h ho
    obtain ⟨n, rfl⟩ : ∃ m, n = m + 1 := ⟨n - 1, by omega⟩
    have oa := ho a (by omega) (by omega)
    have da := h a (by omega) (by omega)
    have e1 : nI (a + 1) - 1 = nI a := nI_pred a
    have e2 : nI (a + 1) + -1 = nI a := by rw [← e1]; exact (Int32.sub_eq_add_neg _ _).symm
    by_cases c : gI σ 59 (o a) < gI σ 59 i
    · obtain ⟨a', d', q1, q2, q3⟩ := ih (fun k => if k = a + 1 then o a else o k) (upd d (a + 1) (d a)) n (by omega) (by omega) (fun k hk hka => by
        show (if k = a + 1 then d a else d k) = nI (if k = a + 1 then o a else o k)
        by_cases c2 : k = a + 1
        · rw [if_pos c2, if_pos c2]; exact da
        · rw [if_neg c2, if_neg c2]; exact h k hk c2) (fun k hk hka => by
        show (if k = a + 1 then o a else o k) < 16
        by_cases c2 : k = a + 1
        · rw [if_pos c2]; exact oa
        · rw [if_neg c2]; exact ho k hk c2)
      refine ⟨a', d', ?_, q2, fun k hk => ?_⟩
      · rw [← q1]
        unfold X4_sort_L12
        rw [lp_succ, if_neg (nI_nle (by omega) (by omega)), e1, e2, grd_eq _ (inb_nI (by omega) (by decide)), nI_clamp (by omega), gI_A, da, grd_eq _ (inb_nI oa (by decide)), grd_eq _ (inb_nI hi (by decide)), nI_clamp (by omega), nI_clamp (by omega), gI_A_ne (by omega), if_neg (Int32.not_le.mpr c), grd_eq _ (inb_nI (by omega) (by decide)), vthen_eq, nI_clamp (by omega), sI_A]
      · rw [q3 k hk]
        rw [ins_s, if_pos c]
    · refine ⟨a + 1, d, ?_, ha, fun k hk => ?_⟩
      · unfold X4_sort_L12
        rw [lp_succ, if_neg (nI_nle (by omega) (by omega)), e1, grd_eq _ (inb_nI (by omega) (by decide)), nI_clamp (by omega), gI_A, da, grd_eq _ (inb_nI oa (by decide)), grd_eq _ (inb_nI hi (by decide)), nI_clamp (by omega), nI_clamp (by omega), gI_A_ne (by omega), if_pos (Int32.not_lt.mp c)]
      · rw [ins_s, if_neg c]
        show (if k = a + 1 then nI i else d k) = nI (if k = a + 1 then i else o k)
        by_cases c : k = a + 1
        · rw [if_pos c, if_pos c]
        · rw [if_neg c, if_neg c]; exact h k hk c
theorem sort8_i (hi : i < 16) {k58 : Int32 → SS → Option SS} : ∀ a o d n, a < n → a ≤ i → ordd d o i a → (∀ k, k ≤ i → k ≠ a → o k < 16) → ∃ a' d', X8_laysSorted_L12 (nI i) k58 n (nI a) (sA σ 113 d) = k58 (nI a') (sA σ 113 d') ∧ a' ≤ i ∧ ∀ k, k ≤ i → upd d' a' (nI i) k = nI (ins (gI σ 109) i a o k) := by
  intro a
  induction a with
  | zero =>
    intro o d n hn ha h ho
    obtain ⟨n, rfl⟩ : ∃ m, n = m + 1 := ⟨n - 1, by omega⟩
    refine ⟨0, d, ?_, by omega, fun k hk => ?_⟩
    · unfold X8_laysSorted_L12
      rw [lp_succ, if_pos (by decide)]
    · show (if k = 0 then nI i else d k) = nI (if k = 0 then i else o k)
      by_cases c : k = 0
      · rw [if_pos c, if_pos c]
      · rw [if_neg c, if_neg c]; exact h k hk c
  | succ a ih =>
    intro o d n hn ha h ho
    obtain ⟨n, rfl⟩ : ∃ m, n = m + 1 := ⟨n - 1, by omega⟩
    have oa := ho a (by omega) (by omega)
    have da := h a (by omega) (by omega)
    have e1 : nI (a + 1) - 1 = nI a := nI_pred a
    by_cases c : gI σ 109 (o a) < gI σ 109 i
    · obtain ⟨a', d', q1, q2, q3⟩ := ih (fun k => if k = a + 1 then o a else o k) (upd d (a + 1) (d a)) n (by omega) (by omega) (fun k hk hka => by
        show (if k = a + 1 then d a else d k) = nI (if k = a + 1 then o a else o k)
        by_cases c2 : k = a + 1
        · rw [if_pos c2, if_pos c2]; exact da
        · rw [if_neg c2, if_neg c2]; exact h k hk c2) (fun k hk hka => by
        show (if k = a + 1 then o a else o k) < 16
        by_cases c2 : k = a + 1
        · rw [if_pos c2]; exact oa
        · rw [if_neg c2]; exact ho k hk c2)
      refine ⟨a', d', ?_, q2, fun k hk => ?_⟩
      · rw [← q1]
        unfold X8_laysSorted_L12
        rw [lp_succ, if_neg (nI_nle (by omega) (by omega)), e1, grd_eq _ (inb_nI (by omega) (by decide)), nI_clamp (by omega), gI_A, da, grd_eq _ (inb_nI oa (by decide)), grd_eq _ (inb_nI hi (by decide)), nI_clamp (by omega), nI_clamp (by omega), gI_A_ne (by omega), if_neg (Int32.not_le.mpr c), grd_eq _ (inb_nI (by omega) (by decide)), vthen_eq, nI_clamp (by omega), sI_A, vthen_eq]
      · rw [q3 k hk]
        rw [ins_s, if_pos c]
    · refine ⟨a + 1, d, ?_, ha, fun k hk => ?_⟩
      · unfold X8_laysSorted_L12
        rw [lp_succ, if_neg (nI_nle (by omega) (by omega)), e1, grd_eq _ (inb_nI (by omega) (by decide)), nI_clamp (by omega), gI_A, da, grd_eq _ (inb_nI oa (by decide)), grd_eq _ (inb_nI hi (by decide)), nI_clamp (by omega), nI_clamp (by omega), gI_A_ne (by omega), if_pos (Int32.not_lt.mp c)]
      · rw [ins_s, if_neg c]
        show (if k = a + 1 then nI i else d k) = nI (if k = a + 1 then i else o k)
        by_cases c : k = a + 1
        · rw [if_pos c, if_pos c]
        · rw [if_neg c, if_neg c]; exact h k hk c
end SORT
theorem sort7 {σ : SS} {S : Nat} (hS : S ≤ 16) (e : gI σ 58 0 = nI S) : ∃ d, fX4_sort σ = some (sA σ 63 d) ∧ ∀ k, k < S → d k = nI (srt (gI σ 59) S k) := by
  suffices hh : WP (fX4_sort (sA σ 63 (gI σ 63))) (fun r => ∃ d, r = sA σ 63 d ∧ ∀ k, k < S → d k = nI (srt (gI σ 59) S k)) by
    rw [sA_self] at hh
    obtain ⟨r, h1, d, rfl, h2⟩ := hh
    exact ⟨d, h1, h2⟩
  unfold fX4_sort X4_sort_L2
  refine wf_2 S (fun i v s => v = nI i ∧ ∃ d, s = sA σ 63 d ∧ ∀ k, k < i → d k = nI (srt (gI σ 59) i k)) ⟨rfl, _, rfl, fun k hk => absurd hk (by omega)⟩ (by omega) ?_ ?_
  · rintro i _ _ rec hi ⟨rfl, d, rfl, hd⟩ hr
    rw [gI_A_ne (by omega), e, if_neg (nI_ge hi (by omega))]
    obtain ⟨a', d', q1, q2, q3⟩ := sort7_i (σ := σ) (i := i) (by omega) (k58 := fun v6 σ7 =>
        grd (inb v6 16) <|
        vthen (sI σ7 63 (Int32.toNatClampNeg v6) (nI i)) fun σ9 =>
        rec (nI i + (1 : Int32)) σ9) i (srt (gI σ 59) i) d fuel (fuel_gt (by omega)) (Nat.le_refl _) (fun k hk hka => hd k (by omega)) (fun k hk hka => by have := srt_lt (key := gI σ 59) i k (by omega); omega)
    rw [q1, grd_eq _ (inb_nI (by omega) (by decide)), vthen_eq, nI_clamp (by omega), sI_A, nI_1]
    exact hr _ _ ⟨rfl, _, rfl, fun k hk => q3 k (by omega)⟩
  · rintro _ _ rec ⟨rfl, d, rfl, hd⟩
    rw [gI_A_ne (by omega), e, if_pos (nI_le (Nat.le_refl _) (by omega))]
    exact wp_some ⟨d, rfl, hd⟩
theorem sort8 {σ : SS} {S : Nat} (hS : S ≤ 16) (e : gI σ 73 65 = nI S) : ∃ d, fX8_laysSorted σ = some (sA σ 113 d) ∧ ∀ k, k < S → d k = nI (srt (gI σ 109) S k) := by
  suffices hh : WP (fX8_laysSorted (sA σ 113 (gI σ 113))) (fun r => ∃ d, r = sA σ 113 d ∧ ∀ k, k < S → d k = nI (srt (gI σ 109) S k)) by
    rw [sA_self] at hh
    obtain ⟨r, h1, d, rfl, h2⟩ := hh
    exact ⟨d, h1, h2⟩
  unfold fX8_laysSorted X8_laysSorted_L2
  refine wf_2 S (fun i v s => v = nI i ∧ ∃ d, s = sA σ 113 d ∧ ∀ k, k < i → d k = nI (srt (gI σ 109) i k)) ⟨rfl, _, rfl, fun k hk => absurd hk (by omega)⟩ (by omega) ?_ ?_
  · rintro i _ _ rec hi ⟨rfl, d, rfl, hd⟩ hr
    rw [gI_A_ne (by omega), e, if_neg (nI_ge hi (by omega))]
    obtain ⟨a', d', q1, q2, q3⟩ := sort8_i (σ := σ) (i := i) (by omega) (k58 := fun v6 σ7 =>
        grd (inb v6 16) <|
        vthen (sI σ7 113 (Int32.toNatClampNeg v6) (nI i)) fun σ9 =>
        rec (nI i + (1 : Int32)) σ9) i (srt (gI σ 109) i) d fuel (fuel_gt (by omega)) (Nat.le_refl _) (fun k hk hka => hd k (by omega)) (fun k hk hka => by have := srt_lt (key := gI σ 109) i k (by omega); omega)
    rw [q1, grd_eq _ (inb_nI (by omega) (by decide)), vthen_eq, nI_clamp (by omega), sI_A, nI_1]
    exact hr _ _ ⟨rfl, _, rfl, fun k hk => q3 k (by omega)⟩
  · rintro _ _ rec ⟨rfl, d, rfl, hd⟩
    rw [gI_A_ne (by omega), e, if_pos (nI_le (Nat.le_refl _) (by omega))]
    exact wp_some ⟨d, rfl, hd⟩
theorem scr_A {s f c : Nat} {σ : SS} {d : Nat → Int32} (h : ∀ k, scr s f c k = true) : Scr s f σ (sA σ c d) := ⟨fun c' k hk => by
  rw [gI_A_ne]
  intro e
  subst e
  rw [h] at hk
  exact absurd hk (by decide), rfl⟩
theorem Rel.scr2 {s f : Nat} {σ : SS} (h : RAll s f σ) (d d' : Nat → Int32) : Rel (sA (sA σ 63 d) 113 d') := ⟨s, f, h.scr ((scr_A fun _ => rfl).tr (scr_A fun _ => rfl))⟩
theorem op40 : ∀ a σ, Rel σ → st40 Rel a σ := by
  intro a σ ⟨s, f, h⟩
  obtain ⟨hs, hf, -, -, hR5, -⟩ := id h.1
  obtain ⟨S, hS, p1, p2, hp⟩ := h.2.2.2.2.2.2.2.2.2
  unfold st40
  by_cases hc : ¬ S = 0 ∧ 0 ≤ (a 1).toInt ∧ (a 1).toInt ≤ 3
  · obtain ⟨d, x1, x2⟩ := sort7 hS p1
    obtain ⟨d', y1, y2⟩ := sort8 (σ := sA σ 63 d) hS (by rw [gI_A_ne (by omega)]; exact p2)
    have z : ∀ k, k < S → d' k = nI (srt (gI σ 59) S k) := fun k hk => by
      rw [y2 k hk, gI_A_ne (by omega)]
      exact congrArg nI (srt_congr S (fun j hj => ((hp j hj).1).symm) k hk)
    have zl : ∀ k, k < S → srt (gI σ 59) S k < S := fun k hk => srt_lt S k hk
    have hd2 : nI S / 2 = nI (S / 2) := pk_div (d := 2) (by omega) (by omega) (by omega)
    have hs1 : nI S - 1 = nI (S - 1) := nI_sub (a := S) (b := 1) (by omega)
    have hne : ¬ nI S = 0 := nI_ne0 (by omega) (by omega)
    have at7 : ∀ k, k < S → gI (sA σ 63 d) 63 k = nI (srt (gI σ 59) S k) := fun k hk => by rw [gI_A]; exact x2 k hk
    have at8 : ∀ k, k < S → gI (sA (sA σ 63 d) 113 d') 113 k = nI (srt (gI σ 59) S k) := fun k hk => by rw [gI_A]; exact z k hk
    have pick : ∀ k, k < S → gI (sA σ 63 d) 59 (srt (gI σ 59) S k) = gI (sA (sA σ 63 d) 113 d') 109 (srt (gI σ 59) S k) := fun k hk => by
      rw [gI_A_ne (by omega), gI_A_ne (by omega), gI_A_ne (by omega)]; exact (hp _ (zl k hk)).1
    suffices hh : ∃ v, fX7_points σ (a 1) = some (v, sA σ 63 d) ∧ fX8_points (sA σ 63 d) (a 1) = some (v, sA (sA σ 63 d) 113 d') by
      obtain ⟨v, w1, w2⟩ := hh
      exact ⟨v, _, _, w1, w2, Rel.scr2 h d d'⟩
    unfold fX7_points fX8_points
    simp only [in_eq, lt_i, le_i, Int32.reduceToInt, vthen_eq]
    rw [p1, gI_A_ne (c' := 73) (by omega), p2, if_neg hne, if_neg hne, if_neg (by omega), if_pos (by omega), if_pos (by omega), bnd1_of _ x1, bnd1_of _ y1, gI_A_ne (c' := 58) (by omega), gI_A_ne (c' := 73) (by omega), gI_A_ne (c' := 73) (by omega), p1, p2]
    have ne : ∀ c : Int32, ¬ (a 1).toInt = c.toInt → ¬ a 1 = c := fun c q1 q2 => q1 (congrArg Int32.toInt q2)
    have ie : ∀ c : Int32, (a 1).toInt = c.toInt → a 1 = c := fun c q => Int32.toInt_inj.mp q
    by_cases k0 : (a 1).toInt = 0
    · rw [if_pos (ie 0 k0), if_pos (c := (a 1).toInt ≤ 0) (by omega)]
      obtain ⟨v, g1, g2⟩ : ∃ v, fX4_allGains (sA σ 63 d) = some v ∧ X8_points_L72 (sA (sA σ 63 d) 113 d') fuel (0 : Int32) (0 : Int32) = some (v, sA (sA σ 63 d) 113 d') := by
        suffices hh : W2 (fX4_allGains (sA σ 63 d)) (X8_points_L72 (sA (sA σ 63 d) 113 d') fuel (0 : Int32) (0 : Int32)) (fun v w => w = (v, sA (sA σ 63 d) 113 d')) by
          obtain ⟨v, w, q1, q2, rfl⟩ := hh
          exact ⟨v, q1, q2⟩
        unfold fX4_allGains X4_allGains_L4 X8_points_L72
        refine w2f_2 S (fun i x y x' y' => x' = x ∧ y = nI i ∧ y' = nI i) ⟨rfl, rfl, rfl⟩ (by omega) ?_ ?_
        · rintro i x _ _ _ rec rec' hi ⟨rfl, rfl, rfl⟩ hr
          rw [gI_A_ne (c' := 58) (by omega), gI_A_ne (c' := 73) (by omega), gI_A_ne (c' := 73) (by omega), p1, p2, if_neg (nI_ge hi (by omega)), if_neg (nI_ge hi (by omega))]
          refine w2_gl (inb_nI (by omega) (by decide)) (w2_gr (inb_nI (by omega) (by decide)) ?_)
          simp only [vthen_eq]
          rw [nI_clamp (by omega), gI_A_ne (c' := 59) (by omega), gI_A_ne (c' := 109) (by omega), gI_A_ne (c' := 109) (by omega), (hp i hi).1, nI_1]
          exact hr _ _ _ _ ⟨rfl, rfl, rfl⟩
        · rintro x _ _ _ rec rec' ⟨rfl, rfl, rfl⟩
          rw [gI_A_ne (c' := 58) (by omega), gI_A_ne (c' := 73) (by omega), gI_A_ne (c' := 73) (by omega), p1, p2, if_pos (nI_le (Nat.le_refl _) (by omega)), if_pos (nI_le (Nat.le_refl _) (by omega))]
          exact w2_some rfl
      rw [bnd1_of _ g1, g2]
      exact ⟨_, rfl, rfl⟩
    rw [if_neg (ne 0 k0), if_neg (c := (a 1).toInt ≤ 0) (by omega)]
    by_cases k1 : (a 1).toInt = 1
    · rw [if_pos (ie 1 k1), if_pos (ie 1 k1)]
      have t0 : (0 : Int32).toNatClampNeg = 0 := rfl
      have l0 := zl 0 (by omega)
      rw [t0, at7 0 (by omega), at8 0 (by omega), grd_eq _ (inb_nI (by omega) (by decide)), grd_eq _ (by decide), grd_eq _ (inb_nI (by omega) (by decide)), nI_clamp (by omega), pick 0 (by omega)]
      exact ⟨_, rfl, rfl⟩
    rw [if_neg (ne 1 k1), if_neg (ne 1 k1)]
    by_cases k2 : (a 1).toInt = 2
    · have l0 := zl (S - 1) (by omega)
      rw [if_pos (ie 2 k2), if_pos (ie 2 k2), hs1, grd_eq _ (inb_nI (by omega) (by decide)), nI_clamp (by omega), at7 (S - 1) (by omega), at8 (S - 1) (by omega), grd_eq _ (inb_nI (by omega) (by decide)), grd_eq _ (inb_nI (by omega) (by decide)), grd_eq _ (inb_nI (by omega) (by decide)), nI_clamp (by omega), pick (S - 1) (by omega)]
      exact ⟨_, rfl, rfl⟩
    have l0 := zl (S / 2) (by omega)
    rw [if_neg (ne 2 k2), if_neg (ne 2 k2), hd2, grd_eq _ (inb_nI (by omega) (by decide)), nI_clamp (by omega), at7 (S / 2) (by omega), at8 (S / 2) (by omega), grd_eq _ (inb_nI (by omega) (by decide)), grd_eq _ (inb_nI (by omega) (by decide)), grd_eq _ (inb_nI (by omega) (by decide)), nI_clamp (by omega), pick (S / 2) (by omega)]
    exact ⟨_, rfl, rfl⟩
  · refine ⟨-2147483648, σ, σ, ?_, ?_, s, f, h⟩
    · unfold fX7_points
      rw [p1]
      by_cases k0 : nI S = 0
      · rw [if_pos k0]
      · rw [if_neg k0]
        have : ¬ S = 0 := fun q => k0 (by rw [q]; rfl)
        simp only [lt_i, le_i, Int32.reduceToInt]
        by_cases k1 : (a 1).toInt < 0
        · rw [if_pos k1]
        · rw [if_neg k1, if_neg (by omega)]
    · unfold fX8_points
      rw [p2]
      by_cases k0 : nI S = 0
      · rw [if_pos k0]
      · rw [if_neg k0]
        have : ¬ S = 0 := fun q => k0 (by rw [q]; rfl)
        simp only [in_eq, lt_i, le_i, Int32.reduceToInt]
        rw [if_neg (by omega)]
