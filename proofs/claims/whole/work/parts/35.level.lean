/-! The level that parts best. -/
section W2L5
variable {A B C D E A' B' C' D' E' R R' : Type} {P : R → R' → Prop}
theorem w2f_5 {bot : A → B → C → D → E → Option R} {body : (A → B → C → D → E → Option R) → A → B → C → D → E → Option R} {bot' : A' → B' → C' → D' → E' → Option R'} {body' : (A' → B' → C' → D' → E' → Option R') → A' → B' → C' → D' → E' → Option R'} (N : Nat) (I : Nat → A → B → C → D → E → A' → B' → C' → D' → E' → Prop) {a : A} {b : B} {c : C} {d : D} {e : E} {a' : A'} {b' : B'} {c' : C'} {d' : D'} {e' : E'} (h0 : I 0 a b c d e a' b' c' d' e') (hN : N < 1000000) (hs : ∀ i a b c d e a' b' c' d' e' (rec : A → B → C → D → E → Option R) (rec' : A' → B' → C' → D' → E' → Option R'), i < N → I i a b c d e a' b' c' d' e' → (∀ a b c d e a' b' c' d' e', I (i + 1) a b c d e a' b' c' d' e' → W2 (rec a b c d e) (rec' a' b' c' d' e') P) → W2 (body rec a b c d e) (body' rec' a' b' c' d' e') P) (he : ∀ a b c d e a' b' c' d' e' (rec : A → B → C → D → E → Option R) (rec' : A' → B' → C' → D' → E' → Option R'), I N a b c d e a' b' c' d' e' → W2 (body rec a b c d e) (body' rec' a' b' c' d' e') P) : W2 (lp bot body fuel a b c d e) (lp bot' body' fuel a' b' c' d' e') P := by
  have key : ∀ n m i a b c d e a' b' c' d' e', m < n → i + m = N → I i a b c d e a' b' c' d' e' → W2 (lp bot body n a b c d e) (lp bot' body' n a' b' c' d' e') P := by
    intro n
    induction n with
    | zero => intro m i a b c d e a' b' c' d' e' h; omega
    | succ n ih =>
      intro m i a b c d e a' b' c' d' e' h hi hI
      rcases Nat.eq_zero_or_pos m with q | q
      · have : i = N := by omega
        subst this; exact he _ _ _ _ _ _ _ _ _ _ _ _ hI
      · exact hs i a b c d e a' b' c' d' e' _ _ (by omega) hI fun a b c d e a' b' c' d' e' h' => ih (m - 1) (i + 1) a b c d e a' b' c' d' e' (by omega) (by omega) h'
  exact key fuel N 0 a b c d e a' b' c' d' e' hN (by omega) h0
end W2L5
def lc (src : Nat → Int32) (l N : Nat) : Nat := itr (fun i n => if sN src i < l then n + 1 else n) 0 N
def ld (src : Nat → Int32) (l N : Nat) : Nat := itr (fun i n => if sN src i < l then n + sN src i else n) 0 N
def uc (src : Nat → Int32) (l N : Nat) : Nat := itr (fun i n => if sN src i < l then n else n + 1) 0 N
def ud (src : Nat → Int32) (l N : Nat) : Nat := itr (fun i n => if sN src i < l then n else n + sN src i) 0 N
def ds (src : Nat → Int32) (N : Nat) : Nat := itr (fun i n => n + sN src i) 0 N
theorem lv_sum (src : Nat → Int32) (l : Nat) : ∀ N, lc src l N + uc src l N = N ∧ ld src l N + ud src l N = ds src N
  | 0 => ⟨rfl, rfl⟩
  | N + 1 => by
    obtain ⟨h1, h2⟩ := lv_sum src l N
    have e1 : lc src l (N + 1) = if sN src N < l then lc src l N + 1 else lc src l N := rfl
    have e2 : uc src l (N + 1) = if sN src N < l then uc src l N else uc src l N + 1 := rfl
    have e3 : ld src l (N + 1) = if sN src N < l then ld src l N + sN src N else ld src l N := rfl
    have e4 : ud src l (N + 1) = if sN src N < l then ud src l N else ud src l N + sN src N := rfl
    have e5 : ds src (N + 1) = ds src N + sN src N := rfl
    rw [e1, e2, e3, e4, e5]
    by_cases c : sN src N < l
    · simp only [if_pos c]; omega
    · simp only [if_neg c]; omega
theorem ds_le {src : Nat → Int32} : ∀ N, (∀ k, k < N → sN src k ≤ 9) → ds src N ≤ 9 * N
  | 0, _ => Nat.zero_le _
  | N + 1, h => by
    have := ds_le N fun k hk => h k (by omega)
    have := h N (by omega)
    have e5 : ds src (N + 1) = ds src N + sN src N := rfl
    omega
theorem itr_nI {f : Nat → Int32 → Int32} {g : Nat → Nat → Nat} {N : Nat} (h : ∀ i, i < N → ∀ n, f i (nI n) = nI (g i n)) (n0 : Nat) : itr f (nI n0) N = nI (itr g n0 N) := by
  induction N with
  | zero => rfl
  | succ N ih =>
    show f N (itr f (nI n0) N) = nI (g N (itr g n0 N))
    rw [ih fun i hi => h i (by omega), h N (by omega)]
section LEVEL
variable {σ : SS} {s w q l : Nat}
theorem level7_c (hw : w ≤ 40) (hq : q ≤ 40) (e1 : gI σ s 0 = nI w) (e2 : gI σ s 1 = nI q) (hd : ∀ k, k < w * q → inR (gI σ (s + 1) k) 0 9) (hl : l ≤ 9) : fX6_notBelow σ s (nI l) = some (nI (uc (gI σ (s + 1)) l (w * q))) := by
  rw [notBelow_eq hw hq e1 e2]
  refine congrArg some (itr_nI (fun i hi n => ?_) 0)
  have h := sN_of (hd i hi)
  by_cases c : sN (gI σ (s + 1)) i < l
  · rw [if_pos c, h.1, if_pos (nI_lt c (by omega))]
  · rw [if_neg c, h.1, if_neg (nI_nlt (by omega) (by omega)), nI_1]
theorem level7_d (hw : w ≤ 40) (hq : q ≤ 40) (e1 : gI σ s 0 = nI w) (e2 : gI σ s 1 = nI q) (hd : ∀ k, k < w * q → inR (gI σ (s + 1) k) 0 9) (hl : l ≤ 9) : fX6_sumNotBelow σ s (nI l) = some (nI (ud (gI σ (s + 1)) l (w * q))) := by
  rw [sumNotBelow_eq hw hq e1 e2]
  refine congrArg some (itr_nI (fun i hi n => ?_) 0)
  have h := sN_of (hd i hi)
  by_cases c : sN (gI σ (s + 1)) i < l
  · rw [if_pos c, h.1, if_pos (nI_lt c (by omega))]
  · rw [if_neg c, h.1, if_neg (nI_nlt (by omega) (by omega)), nI_add]
theorem ud_0 (src : Nat → Int32) (N : Nat) : ud src 0 N = ds src N := itr_congr fun i _ n => by rw [if_neg (by omega)]
theorem level8_l (hw : w ≤ 40) (hq : q ≤ 40) (e3 : gI σ 73 29 = nI w) (e4 : gI σ 73 30 = nI q) (hd : ∀ k, k < w * q → inR (gI σ 83 k) 0 9) (hl : l ≤ 9) {k94 : Int64 → Int64 → Int64 → Option Int32} : X8_level_L32 σ (nI l) k94 fuel (0 : Int64) (0 : Int64) (0 : Int64) (0 : Int32) = k94 (lN (lc (gI σ 83) l (w * q))) (lN (ld (gI σ 83) l (w * q))) (lN (ds (gI σ 83) (w * q))) := by
  have ha := area_le hw hq
  unfold X8_level_L32
  refine lp_4 (fun i => lN (lc (gI σ 83) l i)) (fun i => lN (ld (gI σ 83) l i)) (fun i => lN (ds (gI σ 83) i)) (fun i => nI i) (w * q) _ (fun i hi rec => ?_) (fun rec => ?_) fuel (fuel_gt (by omega))
  · have h := sN_of (hd i hi)
    simp only [vthen_q]
    rw [all_eq e3 e4, if_neg (nI_ge hi (by omega)), grd_eq _ (inb_nI (by omega) (by omega)), nI_clamp (by omega), h.1, nI_l (by omega), lN_add, lN_1, lN_add, nI_1]
    rw [show ds (gI σ 83) (i + 1) = ds (gI σ 83) i + sN (gI σ 83) i from rfl, show lc (gI σ 83) l (i + 1) = if sN (gI σ 83) i < l then lc (gI σ 83) l i + 1 else lc (gI σ 83) l i from rfl, show ld (gI σ 83) l (i + 1) = if sN (gI σ 83) i < l then ld (gI σ 83) l i + sN (gI σ 83) i else ld (gI σ 83) l i from rfl]
    by_cases c : sN (gI σ 83) i < l
    · rw [if_pos (nI_lt c (by omega)), if_pos c, if_pos c]
    · rw [if_neg (nI_nlt (by omega) (by omega)), if_neg c, if_neg c]
  · rw [all_eq e3 e4, if_pos (nI_le (Nat.le_refl _) (by omega))]
end LEVEL
theorem lv_congr {src src' : Nat → Int32} {l N : Nat} (h : ∀ k, k < N → src k = src' k) : uc src l N = uc src' l N ∧ ud src l N = ud src' l N ∧ ds src N = ds src' N :=
  ⟨itr_congr fun i hi s => by unfold sN; rw [h i hi], itr_congr fun i hi s => by unfold sN; rw [h i hi], itr_congr fun i hi s => by unfold sN; rw [h i hi]⟩
theorem op42 : ∀ a σ, Rel σ → st42 Rel a σ := by
  intro a σ ⟨s, f, h⟩
  obtain ⟨hs, hf, hR1, -⟩ := id h.1
  obtain ⟨w, q, hw, hq, e1, e2, e3, e4, hd⟩ := h.2.2.1
  have ha := area_le hw.2 hq.2
  have hd7 : ∀ k, k < w * q → inR (gI σ (s + 1) k) 0 9 := fun k hk => by rw [(hd k hk).1]; exact (hd k hk).2
  have hd8 : ∀ k, k < w * q → inR (gI σ 83 k) 0 9 := fun k hk => (hd k hk).2
  suffices hh : ∃ v, fX7_level σ = some v ∧ fX8_level σ = some v by
    obtain ⟨v, x1, x2⟩ := hh
    exact ⟨v, x1, x2, s, f, h⟩
  apply w2_val
  unfold fX7_level fX8_level X7_level_L13 X8_level_L13
  refine w2f_5 9 (fun i a b c d e a' b' c' d' e' => a' = a ∧ b' = b ∧ c' = c ∧ d' = d ∧ e = nI (i + 1) ∧ e' = nI (i + 1)) ⟨rfl, rfl, rfl, rfl, rfl, rfl⟩ (by omega) ?_ ?_
  · rintro i _ _ _ _ _ v1 w2 w4 w6 _ rec rec' hi ⟨rfl, rfl, rfl, rfl, rfl, rfl⟩ hr
    obtain ⟨q1, q2, q3⟩ := lv_congr (l := i + 1) (N := w * q) (src := gI σ (s + 1)) (src' := gI σ 83) fun k hk => (hd k hk).1
    obtain ⟨s1, s2⟩ := lv_sum (gI σ 83) (i + 1) (w * q)
    have hds := ds_le (src := gI σ 83) (w * q) fun k hk => (sN_of (hd8 k hk)).2
    simp only [vthen_q]
    rw [if_neg (by show ¬ nI 9 < nI (i + 1); exact nI_nlt (by omega) (by omega)), if_neg (by show ¬ nI 10 ≤ nI (i + 1); exact nI_ge (by omega) (by omega)), hR1, level7_c hw.2 hq.2 e1 e2 hd7 (by omega), level7_d hw.2 hq.2 e1 e2 hd7 (by omega), show (0 : Int32) = nI 0 from rfl, level7_d (l := 0) hw.2 hq.2 e1 e2 hd7 (by omega), bnd1_some, bnd1_some, bnd1_some, ud_0, q1, q2, q3]
    rw [show nI 0 = (0 : Int32) from rfl, level8_l hw.2 hq.2 e3 e4 hd8 (by omega)]
    unfold fX6_size
    rw [e1, e2, all_eq e3 e4, nI_mul, nI_l (by omega), nI_l (by omega), nI_l (by omega), nI_l (by omega), nI_1]
    rw [show lN (w * q) - lN (uc (gI σ 83) (i + 1) (w * q)) = lN (lc (gI σ 83) (i + 1) (w * q)) by rw [lN_sub (by omega)]; congr 1; omega, show lN (w * q) - lN (lc (gI σ 83) (i + 1) (w * q)) = lN (uc (gI σ 83) (i + 1) (w * q)) by rw [lN_sub (by omega)]; congr 1; omega, show lN (ds (gI σ 83) (w * q)) - lN (ud (gI σ 83) (i + 1) (w * q)) = lN (ld (gI σ 83) (i + 1) (w * q)) by rw [lN_sub (by omega)]; congr 1; omega, show lN (ds (gI σ 83) (w * q)) - lN (ld (gI σ 83) (i + 1) (w * q)) = lN (ud (gI σ 83) (i + 1) (w * q)) by rw [lN_sub (by omega)]; congr 1; omega]
    generalize lc (gI σ 83) (i + 1) (w * q) = n0 at *
    generalize uc (gI σ 83) (i + 1) (w * q) = n1 at *
    have hb : n0 * n1 ≤ 1600 * 1600 := Nat.mul_le_mul (by omega) (by omega)
    have skip : W2 (rec v1 w2 w4 w6 (nI (i + 1 + 1))) (rec' v1 w2 w4 w6 (nI (i + 1 + 1))) (fun v w => v = w) := hr _ _ _ _ _ _ _ _ _ _ ⟨rfl, rfl, rfl, rfl, rfl, rfl⟩
    have z : (0 : Int64) = lN 0 := rfl
    have m8 : ∀ n : Nat, n < 2 ^ 31 → (lg_cmp (lN n) (0 : Int64) = 0 ↔ n = 0) := fun n hn => by rw [lg_cmp_eq, z, lN_eq hn (by omega)]
    rw [lN_mul n0 n1]
    by_cases c0 : n0 = 0
    · rw [if_pos (by rw [lg_cmp_le, z, lN_le (by omega) (by omega), c0, Nat.zero_mul]; omega), if_pos ((m8 n0 (by omega)).mpr c0)]
      exact skip
    by_cases c1 : n1 = 0
    · rw [if_pos (by rw [lg_cmp_le, z, lN_le (by omega) (by omega), c1, Nat.mul_zero]; omega), if_neg fun e => c0 ((m8 n0 (by omega)).mp e), if_pos ((m8 n1 (by omega)).mpr c1)]
      exact skip
    have hpos : 0 < n0 * n1 := Nat.mul_pos (by omega) (by omega)
    have hnz : nzl (lN (n0 * n1)) = true := decide_eq_true fun e => by rw [z, lN_eq (by omega) (by omega)] at e; omega
    rw [if_neg (by rw [lg_cmp_le, z, lN_le (by omega) (by omega)]; omega), if_neg fun e => c0 ((m8 n0 (by omega)).mp e), if_neg fun e => c1 ((m8 n1 (by omega)).mp e), grd_eq _ hnz, grd_eq _ hnz]
    generalize lN (ud (gI σ 83) (i + 1) (w * q)) * lN n0 - lN (ld (gI σ 83) (i + 1) (w * q)) * lN n1 = gap
    generalize lN (n0 * n1) = by1
    have upd : W2 (rec (nI (i + 1)) (gap * gap / by1) (lrm (gap * gap) by1) by1 (nI (i + 1 + 1))) (rec' (nI (i + 1)) (gap * gap / by1) (lrm (gap * gap) by1) by1 (nI (i + 1 + 1))) (fun v w => v = w) := hr _ _ _ _ _ _ _ _ _ _ ⟨rfl, rfl, rfl, rfl, rfl, rfl⟩
    rcases lg_tri (gap * gap / by1) w2 with t | t | t
    · rw [if_neg (fun e => by rw [lg_cmp_gt] at e; exact lg_lt_not t e), if_neg (c := lg_cmp (gap * gap / by1) w2 = 0) (fun e => by rw [lg_cmp_eq] at e; exact lg_lt_ne t e), if_pos ((lg_cmp_lt _ _).mpr t)]
      exact skip
    · rw [if_neg (fun e => by rw [lg_cmp_gt] at e; exact lg_lt_ne e t.symm), if_pos (c := lg_cmp (gap * gap / by1) w2 = 0) ((lg_cmp_eq _ _).mpr t), if_neg (c := lg_cmp (gap * gap / by1) w2 < 0) (fun e => by rw [lg_cmp_lt] at e; exact lg_lt_ne e t), if_pos (c := lg_cmp (gap * gap / by1) w2 = 0) ((lg_cmp_eq _ _).mpr t)]
      exact w2_nif Int32.not_lt.symm (fun _ _ => skip) fun _ _ => upd
    · rw [if_pos ((lg_cmp_gt _ _).mpr t), if_neg (c := lg_cmp (gap * gap / by1) w2 < 0) (fun e => by rw [lg_cmp_lt] at e; exact lg_lt_not t e), if_neg (c := lg_cmp (gap * gap / by1) w2 = 0) (fun e => by rw [lg_cmp_eq] at e; exact lg_lt_ne t e.symm)]
      exact upd
  · rintro _ _ _ _ _ v1 w2 w4 w6 _ rec rec' ⟨rfl, rfl, rfl, rfl, rfl, rfl⟩
    rw [if_pos (by show nI 9 < nI 10; exact nI_lt (by omega) (by omega)), if_pos (by show nI 10 ≤ nI 10; exact nI_le (by omega) (by omega))]
    exact w2_some rfl
