/-! Form kept: the class goes on to the next token. -/
/-- the class stands at the token that begins at s -/
def Cs (T : Nat → Nat) (n s : Nat) (σ : SS) : Prop := gI σ 26 1 = nI n ∧ (∀ j, j < n → gI σ 27 j = nI (T j)) ∧ gI σ 26 2 = nI s ∧ gI σ 26 3 = nI (en T n s) ∧ gI σ 26 4 = nI (kc T n s) ∧ (kc T n s = 2 → gI σ 26 5 = nI (nv T s (en T n s - s)))
theorem kind_all : ∀ c, c < 256 → fX2_kindOf s0 (nI c) = nI (kd c) := by decide +kernel
theorem kind_n (σ : SS) {c : Nat} (h : c < 256) : fX2_kindOf σ (nI c) = nI (kd c) := kind_all c h
section ADV
variable {T : Nat → Nat} {n i s : Nat} {σ : SS}
theorem kd_le (c : Nat) : 1 ≤ kd c ∧ kd c ≤ 5 := by have := kd_cases c; omega
theorem adv7_a {k60 : SS → Option SS} {P : SS → Prop} (hn : n ≤ 400) (hi : i ≤ n) (h1 : gI σ 26 1 = nI n) (h27 : ∀ j, j < n → gI σ 27 j = nI (T j)) (hT : ∀ j, T j < 256) (h2 : gI σ 26 2 = nI i) (hk : ∀ t, gR t = gR σ → (∀ c k, ¬ (c = 26 ∧ k = 2) → gI t c k = gI σ c k) → gI t 26 2 = nI (sk T n i) → WP (k60 t) P) : WP (X2_advance_L8 k60 fuel σ) P := by
  unfold X2_advance_L8
  refine wl_1 (fun m t => ∃ j, j + m = n ∧ fs (bl T) (n - j) j = sk T n i ∧ gR t = gR σ ∧ (∀ c k, ¬ (c = 26 ∧ k = 2) → gI t c k = gI σ c k) ∧ gI t 26 2 = nI j) ?_ fuel (n - i) σ (fuel_gt (by omega)) ⟨i, by omega, rfl, rfl, fun _ _ _ => rfl, h2⟩
  rintro m t ⟨j, j1, j2, j3, j4, j5⟩ rec hr
  rw [j5, j4 26 1 (by omega), h1]
  by_cases c : n ≤ j
  · rw [if_pos (nI_le c (by omega))]
    refine hk t j3 j4 ?_
    have e : n - j = 0 := by omega
    rw [e] at j2
    rw [j5, ← j2]; rfl
  · have hTj := hT j
    rw [if_neg (nI_ge (by omega) (by omega)), nI_clamp (by omega), j4 27 j (by omega), h27 j (by omega), nI_1]
    have q1 : (nI (T j) = (32 : Int32)) ↔ T j = 32 := show (nI (T j) = nI 32) ↔ _ from nI_eq (by omega) (by omega)
    have q2 : (nI (T j) = (10 : Int32)) ↔ T j = 10 := show (nI (T j) = nI 10) ↔ _ from nI_eq (by omega) (by omega)
    refine wp_grd (inb_nI (by omega) (by decide)) ?_
    by_cases b : T j = 32 ∨ T j = 10
    · have go : WP (vthen (sI t 26 2 (nI (j + 1))) fun σ3 => rec σ3) P := wp_v (hr (m - 1) _ (by omega) ⟨j + 1, by omega, by rw [← fs_t (by omega) (show bl T j = true from decide_eq_true b)]; exact j2, j3, fun c k hc => by rw [gI_nk hc]; exact j4 c k hc, gI_eq _ _ _ _⟩)
      refine wp_vk1 (fun _ => True) (fun _ _ => go) fun j' hj' => ?_
      by_cases b2 : T j = 32
      · rw [if_pos (q1.mpr b2)]; exact hj' _ trivial
      · rw [if_neg fun h => b2 (q1.mp h), if_pos (q2.mpr (b.resolve_left b2))]; exact hj' _ trivial
    · refine wp_v ?_
      rw [if_neg fun h => b (Or.inl (q1.mp h)), if_neg fun h => b (Or.inr (q2.mp h))]
      refine hk t j3 j4 ?_
      rw [j5, ← j2, fs_f fun h => b (of_decide_eq_true h)]
theorem adv7_b {K : Nat} {k170 : SS → Option SS} {P : SS → Prop} (hn : n ≤ 400) (hi : i ≤ n) (hK : K ≤ 5) (h1 : gI σ 26 1 = nI n) (h27 : ∀ j, j < n → gI σ 27 j = nI (T j)) (hT : ∀ j, T j < 256) (h3 : gI σ 26 3 = nI i) (h4 : gI σ 26 4 = nI K) (hk : ∀ t, gR t = gR σ → (∀ c k, ¬ (c = 26 ∧ k = 3) → gI t c k = gI σ c k) → gI t 26 3 = nI (fs (sm T K) (n - i) i) → WP (k170 t) P) : WP (X2_advance_L127 k170 fuel σ) P := by
  unfold X2_advance_L127
  refine wl_1 (fun m t => ∃ j, j + m = n ∧ fs (sm T K) (n - j) j = fs (sm T K) (n - i) i ∧ gR t = gR σ ∧ (∀ c k, ¬ (c = 26 ∧ k = 3) → gI t c k = gI σ c k) ∧ gI t 26 3 = nI j) ?_ fuel (n - i) σ (fuel_gt (by omega)) ⟨i, by omega, rfl, rfl, fun _ _ _ => rfl, h3⟩
  rintro m t ⟨j, j1, j2, j3, j4, j5⟩ rec hr
  rw [j5, j4 26 1 (by omega), j4 26 4 (by omega), h1, h4]
  by_cases c : n ≤ j
  · rw [if_pos (nI_le c (by omega))]
    refine hk t j3 j4 ?_
    have e : n - j = 0 := by omega
    rw [e] at j2
    rw [j5, ← j2]; rfl
  · have hTj := hT j
    have hd := kd_le (T j)
    rw [if_neg (nI_ge (by omega) (by omega)), nI_clamp (by omega), j4 27 j (by omega), h27 j (by omega), kind_n _ hTj, nI_1]
    refine wp_grd (inb_nI (by omega) (by decide)) ?_
    by_cases b : kd (T j) = K
    · rw [if_pos (by rw [b])]
      exact wp_v (hr (m - 1) _ (by omega) ⟨j + 1, by omega, by rw [← fs_t (by omega) (show sm T K j = true from decide_eq_true b)]; exact j2, j3, fun c k hc => by rw [gI_nk hc]; exact j4 c k hc, gI_eq _ _ _ _⟩)
    · rw [if_neg fun h => b ((nI_eq (by omega) (by omega)).mp h)]
      refine hk t j3 j4 ?_
      rw [j5, ← j2, fs_f fun h => b (of_decide_eq_true h)]
theorem num7 {e : Nat} (he : s ≤ e ∧ e ≤ 400) (h27 : ∀ j, j < e → gI σ 27 j = nI (T j)) (h2 : gI σ 26 2 = nI s) (h3 : gI σ 26 3 = nI e) (hD : ∀ j, s ≤ j → j < e → kd (T j) = 2) : fX2_numberRead σ = some (nI (nv T s (e - s))) := by
  unfold fX2_numberRead
  rw [h2, vthen_q]
  unfold X2_numberRead_L7
  refine lp_2 (fun k => nI (nv T s k)) (fun k => nI (s + k)) (e - s) _ (fun k hk rec => ?_) (fun rec => ?_) fuel (fuel_gt (by omega))
  · have hv := nv_le (T := T) (s := s) k fun j hj => hD (s + j) (by omega) (by omega)
    have hd := kd_cases (T (s + k))
    have hd2 := hD (s + k) (by omega) (by omega)
    have ev : nI (nv T s k) * 10 + nI (T (s + k)) - 48 = nI (10 * nv T s k + (T (s + k) - 48)) := by
      rw [show (10 : Int32) = nI 10 from rfl, nI_mul, nI_add, show (48 : Int32) = nI 48 from rfl, nI_sub (by omega)]
      exact congrArg nI (by omega)
    have en' : nv T s (k + 1) = if 99 < nv T s k then 999 else 10 * nv T s k + (T (s + k) - 48) := rfl
    rw [h3, if_neg (nI_ge (by omega) (by omega)), grd_eq _ (inb_nI (by omega) (by decide)), nI_clamp (by omega), h27 _ (by omega), ev, vthen_q, nI_1, en']
    by_cases c : 99 < nv T s k
    · rw [if_neg (by show ¬ nI _ ≤ nI 999; exact nI_ge (by omega) (by omega)), if_pos c]; rfl
    · rw [if_pos (by show nI _ ≤ nI 999; exact nI_le (by omega) (by omega)), if_neg c]; rfl
  · rw [h3, if_pos (nI_le (by omega) (by omega))]
theorem adv7 (hn : n ≤ 400) (hi : i ≤ n) (h1 : gI σ 26 1 = nI n) (h27 : ∀ j, j < n → gI σ 27 j = nI (T j)) (hT : ∀ j, T j < 256) (h3 : gI σ 26 3 = nI i) : WP (fX2_advance σ) (fun r => gR r = gR σ ∧ (∀ c k, ¬ (c = 26 ∧ 2 ≤ k ∧ k ≤ 5) → gI r c k = gI σ c k) ∧ Cs T n (sk T n i) r) := by
  unfold fX2_advance
  refine wp_vv ?_; intro t1 g1
  have r1 : ∀ c k, ¬ (c = 26 ∧ k = 2) → gI t1 c k = gI σ c k := fun c k hc => by rw [g1, gI_nk hc]
  refine adv7_a (T := T) (n := n) (i := i) hn hi (by rw [r1 _ _ (by omega)]; exact h1) (fun j hj => by rw [r1 _ _ (by omega)]; exact h27 j hj) hT (by rw [g1, gI_eq]; exact h3) (fun t2 x1 x2 x3 => ?_)
  try dsimp only
  have r2 : ∀ c k, ¬ (c = 26 ∧ k = 2) → gI t2 c k = gI σ c k := fun c k hc => (x2 c k hc).trans (r1 c k hc)
  have hs := sk_le (T := T) (n := n) hi
  generalize hE : sk T n i = s at *
  have hen := en_le (T := T) hs.2
  refine wp_vv ?_; intro t3 g3
  have a2 : gI t3 26 2 = nI s := by rw [g3, gI_nk (by omega)]; exact x3
  have a3 : gI t3 26 3 = nI s := by rw [g3, gI_eq]; exact x3
  have r3 : ∀ c k, ¬ (c = 26 ∧ 2 ≤ k ∧ k ≤ 5) → gI t3 c k = gI σ c k := fun c k hc => by rw [g3, gI_nk (by omega)]; exact r2 c k (by omega)
  have q3 : gR t3 = gR σ := by rw [g3]; show gR t2 = _; rw [x1, g1]; rfl
  rw [a2, r3 26 1 (by omega), h1]
  by_cases c : s < n
  · have hk0 : kc T n s = kd (T s) := if_neg (by omega)
    have hd := kd_le (T s)
    rw [if_pos (nI_lt c (by omega)), nI_clamp (by omega), r3 27 s (by omega), h27 s c, kind_n _ (hT s)]
    refine wp_grd (inb_nI (by omega) (by decide)) ?_
    refine wp_vv ?_; intro t4 g4
    refine wp_vv ?_; intro t5 g5
    have b2 : gI t5 26 2 = nI s := by rw [g5, gI_nk (by omega), g4, gI_nk (by omega)]; exact a2
    have b3 : gI t5 26 3 = nI (s + 1) := by rw [g5, gI_eq, g4, gI_nk (by omega), a3, nI_1]
    have b4 : gI t5 26 4 = nI (kd (T s)) := by rw [g5, gI_nk (by omega), g4, gI_eq]
    have r5 : ∀ c k, ¬ (c = 26 ∧ 2 ≤ k ∧ k ≤ 5) → gI t5 c k = gI σ c k := fun c k hc => by rw [g5, gI_nk (by omega), g4, gI_nk (by omega)]; exact r3 c k hc
    have q5 : gR t5 = gR σ := by rw [g5, g4]; exact q3
    have K1 : (nI (kd (T s)) = (1 : Int32)) ↔ kd (T s) = 1 := show (nI (kd (T s)) = nI 1) ↔ _ from nI_eq (by omega) (by omega)
    have K2 : (nI (kd (T s)) = (2 : Int32)) ↔ kd (T s) = 2 := show (nI (kd (T s)) = nI 2) ↔ _ from nI_eq (by omega) (by omega)
    refine wp_vk1 (fun t => gR t = gR σ ∧ (∀ c k, ¬ (c = 26 ∧ 2 ≤ k ∧ k ≤ 5) → gI t c k = gI σ c k) ∧ gI t 26 2 = nI s ∧ gI t 26 3 = nI (en T n s) ∧ gI t 26 4 = nI (kd (T s))) ?_ fun j hj => ?_
    · rintro t ⟨y1, y2, y3, y4, y5⟩
      rw [y5]
      by_cases cn : kd (T s) = 2
      · have hall := en_all (T := T) (n := n) (s := s) (Or.inr (hk0.trans cn))
        rw [if_pos (K2.mpr cn), bnd1_of _ (num7 (T := T) (s := s) (e := en T n s) ⟨hen.1, by omega⟩ (fun j hj => by rw [y2 27 j (by omega)]; exact h27 j (by omega)) y3 y4 fun j j1 j2 => by rw [hall.2 j j1 j2, hk0, cn])]
        refine wp_vv ?_; intro t6 g6
        refine wp_some ⟨by rw [g6]; exact y1, fun c k hc => by rw [g6, gI_nk (by omega)]; exact y2 c k hc, ?_, fun j hj => ?_, ?_, ?_, ?_, fun _ => ?_⟩
        · rw [g6, gI_nk (by omega), y2 _ _ (by omega)]; exact h1
        · rw [g6, gI_ne (by omega), y2 _ _ (by omega)]; exact h27 j hj
        · rw [g6, gI_nk (by omega)]; exact y3
        · rw [g6, gI_nk (by omega)]; exact y4
        · rw [g6, gI_nk (by omega), hk0]; exact y5
        · rw [g6, gI_eq]
      · rw [if_neg fun h => cn (K2.mp h)]
        exact wp_some ⟨y1, y2, by rw [y2 _ _ (by omega)]; exact h1, fun j hj => by rw [y2 _ _ (by omega)]; exact h27 j hj, y3, y4, by rw [hk0]; exact y5, fun h => absurd (hk0.symm.trans h) cn⟩
    · refine wp_v ?_
      rw [b4]
      have go : (kd (T s) = 1 ∨ kd (T s) = 2) → WP (X2_advance_L127 (fun σ16 => j σ16) fuel t5) (fun r => gR r = gR σ ∧ (∀ c k, ¬ (c = 26 ∧ 2 ≤ k ∧ k ≤ 5) → gI r c k = gI σ c k) ∧ Cs T n s r) := fun hc => adv7_b (T := T) (n := n) (i := s + 1) (K := kd (T s)) hn (by omega) hd.2 (by rw [r5 _ _ (by omega)]; exact h1) (fun j hj => by rw [r5 _ _ (by omega)]; exact h27 j hj) hT b3 b4 fun t u1 u2 u3 => hj _ ⟨u1.trans q5, fun c k hc => by rw [u2 c k (by omega)]; exact r5 c k hc, by rw [u2 _ _ (by omega)]; exact b2, by
          rw [u3, ← fs_t c (show sm T (kd (T s)) s = true from decide_eq_true rfl)]
          refine congrArg nI ?_
          unfold en
          rw [if_neg (by omega), if_pos hc], by rw [u2 _ _ (by omega)]; exact b4⟩
      by_cases c1 : kd (T s) = 1
      · rw [if_pos (K1.mpr c1)]; exact go (Or.inl c1)
      · rw [if_neg fun h => c1 (K1.mp h)]
        by_cases c2 : kd (T s) = 2
        · rw [if_pos (K2.mpr c2)]; exact go (Or.inr c2)
        · rw [if_neg fun h => c2 (K2.mp h)]
          refine hj _ ⟨q5, r5, b2, ?_, b4⟩
          rw [b3]
          refine congrArg nI ?_
          unfold en
          rw [if_neg (by omega), if_neg (by omega)]
  · have es : s = n := by omega
    have hk0 : kc T n s = 0 := if_pos (by omega)
    have he0 : en T n s = s := if_pos (by omega)
    rw [if_neg fun k => by have := nI_ltN k (by omega) (by omega); omega]
    refine wp_vv ?_; intro t4 g4
    refine wp_some ⟨by rw [g4]; exact q3, fun c k hc => by rw [g4, gI_nk (by omega)]; exact r3 c k hc, ?_, fun j hj => ?_, ?_, ?_, ?_, fun h => ?_⟩
    · rw [g4, gI_nk (by omega), r3 _ _ (by omega)]; exact h1
    · rw [g4, gI_ne (by omega), r3 _ _ (by omega)]; exact h27 j hj
    · rw [g4, gI_nk (by omega)]; exact a2
    · rw [g4, gI_nk (by omega), he0]; exact a3
    · rw [g4, gI_eq, hk0]; rfl
    · rw [hk0] at h; omega
end ADV
