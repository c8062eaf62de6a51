/-! Form kept: the reference goes on to the next token. -/
def kr (k : Nat) : Nat := if k < 4 then k else k - 1
/-- the reference stands at the token that begins at s -/
def Rs (T : Nat → Nat) (n s : Nat) (σ : SS) : Prop := gI σ 73 3 = nI n ∧ (∀ j, j < n → gI σ 74 j &&& 255 = nI (T j)) ∧ gI σ 73 6 = nI s ∧ gI σ 73 2 = nI (en T n s) ∧ gI σ 73 5 = nI (kr (kc T n s)) ∧ (kc T n s = 2 → gI σ 73 7 = nI (nv T s (en T n s - s))) ∧ (3 ≤ kc T n s → gI σ 73 8 = nI (T s)) ∧ (kc T n s = 1 → gI σ 73 9 = nI (en T n s - s) ∧ gL σ 73 10 = wl T s (en T n s - s))
section NEXT
variable {T : Nat → Nat} {n i s : Nat} {σ : SS}
theorem here8 {p : Nat} (hn : n ≤ 400) (h3 : gI σ 73 3 = nI n) (h74 : ∀ j, j < n → gI σ 74 j &&& 255 = nI (T j)) (h2 : gI σ 73 2 = nI p) (hp : p ≤ n) : fX8_here σ = some (if p < n then nI (T p) else -1) := by
  unfold fX8_here
  rw [h3, h2]
  by_cases c : p < n
  · rw [if_neg (nI_ge c (by omega)), grd_eq _ (inb_nI (by omega) (by decide)), nI_clamp (by omega), if_pos c]
    exact congrArg some (h74 p c)
  · rw [if_pos (nI_le (by omega) (by omega)), if_neg c]
theorem in8k {p a b : Nat} (hT : ∀ j, T j < 256) (ha : a < 1000) (hb : b < 1000) (t : SS) : (fX8_in t (if p < n then nI (T p) else -1) (nI a) (nI b) = true) ↔ (p < n ∧ a ≤ T p ∧ T p ≤ b) := by
  have := hT p
  rw [in_eq]
  by_cases c : p < n
  · rw [if_pos c, le_i, le_i, nI_toInt (by omega), nI_toInt (by omega), nI_toInt (by omega)]
    omega
  · have z : (-1 : Int32).toInt = -1 := rfl
    rw [if_neg c, le_i, le_i, nI_toInt (by omega), nI_toInt (by omega), z]
    omega
theorem is8k {p a : Nat} (hT : ∀ j, T j < 256) (ha : a < 1000) : ((if p < n then nI (T p) else (-1 : Int32)) = nI a) ↔ (p < n ∧ T p = a) := by
  have := hT p
  by_cases c : p < n
  · rw [if_pos c, nI_eq (by omega) (by omega)]
    exact ⟨fun h => ⟨c, h⟩, fun h => h.2⟩
  · rw [if_neg c]
    exact ⟨fun h => absurd h.symm (nI_m1 (by omega)), fun h => absurd h.1 c⟩
theorem next8_a {k31 : SS → Option SS} {P : SS → Prop} (hn : n ≤ 400) (hi : i ≤ n) (h3 : gI σ 73 3 = nI n) (h74 : ∀ j, j < n → gI σ 74 j &&& 255 = nI (T j)) (hT : ∀ j, T j < 256) (h2 : gI σ 73 2 = nI i) (hk : ∀ t, gR t = gR σ → (∀ c k, ¬ (c = 73 ∧ k = 2) → gI t c k = gI σ c k) → gI t 73 2 = nI (sk T n i) → WP (k31 t) P) : WP (X8_next_L0 k31 fuel σ) P := by
  unfold X8_next_L0
  refine wl_1 (fun m t => ∃ j, j + m = n ∧ fs (bl T) (n - j) j = sk T n i ∧ gR t = gR σ ∧ (∀ c k, ¬ (c = 73 ∧ k = 2) → gI t c k = gI σ c k) ∧ gI t 73 2 = nI j) ?_ fuel (n - i) σ (fuel_gt (by omega)) ⟨i, by omega, rfl, rfl, fun _ _ _ => rfl, h2⟩
  rintro m t ⟨j, j1, j2, j3, j4, j5⟩ rec hr
  have hh := here8 (σ := t) (T := T) (n := n) (p := j) hn (by rw [j4 _ _ (by omega)]; exact h3) (fun j hj => by rw [j4 _ _ (by omega)]; exact h74 j hj) j5 (by omega)
  have q1 := is8k (T := T) (n := n) (p := j) (a := 32) hT (by omega)
  have q2 := is8k (T := T) (n := n) (p := j) (a := 10) hT (by omega)
  rw [bnd1_of _ hh, hh, j5, nI_1]
  by_cases b : j < n ∧ (T j = 32 ∨ T j = 10)
  · have go : WP (vthen (sI t 73 2 (nI (j + 1))) fun σ4 => rec σ4) P := wp_v (hr (m - 1) _ (by omega) ⟨j + 1, by omega, by rw [← fs_t b.1 (show bl T j = true from decide_eq_true b.2)]; exact j2, j3, fun c k hc => by rw [gI_nk hc]; exact j4 c k hc, gI_eq _ _ _ _⟩)
    refine wp_vk1 (fun _ => True) (fun _ _ => go) fun j' hj' => ?_
    by_cases b2 : T j = 32
    · rw [if_pos (c := (if j < n then nI (T j) else (-1 : Int32)) = (32 : Int32)) (q1.mpr ⟨b.1, b2⟩)]; exact hj' _ trivial
    · rw [if_neg (c := (if j < n then nI (T j) else (-1 : Int32)) = (32 : Int32)) fun h => b2 (q1.mp h).2, bnd1_some, if_pos (c := (if j < n then nI (T j) else (-1 : Int32)) = (10 : Int32)) (q2.mpr ⟨b.1, b.2.resolve_left b2⟩)]; exact hj' _ trivial
  · refine wp_v ?_
    rw [if_neg (c := (if j < n then nI (T j) else (-1 : Int32)) = (32 : Int32)) fun h => b ⟨(q1.mp h).1, Or.inl (q1.mp h).2⟩, bnd1_some, if_neg (c := (if j < n then nI (T j) else (-1 : Int32)) = (10 : Int32)) fun h => b ⟨(q2.mp h).1, Or.inr (q2.mp h).2⟩]
    refine hk t j3 j4 ?_
    rw [j5, ← j2]
    by_cases c : j < n
    · rw [fs_f fun h => b ⟨c, of_decide_eq_true h⟩]
    · rw [show n - j = 0 by omega]; rfl
theorem wl_s {k : Nat} (hT : 97 ≤ T (s + k) ∧ T (s + k) ≤ 122) : (k < 7 → ((32 : Int64) * wl T s k + Int32.toInt64 (nI (T (s + k))) - 97 + 1) = wl T s (k + 1)) ∧ (7 ≤ k → wl T s (k + 1) = -1) := by
  unfold wl
  refine ⟨fun hk => ?_, fun hk => ?_⟩
  · rw [if_pos (by omega), if_pos (by omega), nI_l (by omega), show (32 : Int64) = lN 32 from rfl, show (97 : Int64) = lN 97 from rfl, lN_mul, lN_add, lN_sub (by omega), lN_1]
    refine congrArg lN ?_
    show _ = 32 * wd T s k + (T (s + k) - 96)
    omega
  · rw [if_neg (by omega)]
theorem next8_w (hn : n ≤ 400) (hs : s < n) (hk1 : kd (T s) = 1) (h3 : gI σ 73 3 = nI n) (h74 : ∀ j, j < n → gI σ 74 j &&& 255 = nI (T j)) (hT : ∀ j, T j < 256) (h2 : gI σ 73 2 = nI s) (h6 : gI σ 73 6 = nI s) (hL : gL σ 73 10 = lN 0) : WP (X8_next_L78 fuel σ) (fun r => gR r = gR σ ∧ (∀ c k, ¬ (c = 73 ∧ (k = 2 ∨ k = 9)) → gI r c k = gI σ c k) ∧ gI r 73 2 = nI (en T n s) ∧ gI r 73 9 = nI (en T n s - s) ∧ gL r 73 10 = wl T s (en T n s - s)) := by
  have hen : en T n s = fs (sm T 1) (n - s) s := by
    unfold en; rw [if_neg (by omega), if_pos (Or.inl hk1), hk1]
  unfold X8_next_L78
  refine wl_1 (fun m t => ∃ k, s + k + m = n ∧ fs (sm T 1) (n - (s + k)) (s + k) = en T n s ∧ gR t = gR σ ∧ (∀ c k, ¬ (c = 73 ∧ k = 2) → gI t c k = gI σ c k) ∧ gI t 73 2 = nI (s + k) ∧ gL t 73 10 = wl T s k) ?_ fuel (n - s) σ (fuel_gt (by omega)) ⟨0, by omega, hen.symm, rfl, fun _ _ _ => rfl, h2, hL⟩
  rintro m t ⟨k, j1, j2, j3, j4, j5, j6⟩ rec hr
  have hh := here8 (σ := t) (T := T) (n := n) (p := s + k) hn (by rw [j4 _ _ (by omega)]; exact h3) (fun j hj => by rw [j4 _ _ (by omega)]; exact h74 j hj) j5 (by omega)
  have q := in8k (T := T) (n := n) (p := s + k) (a := 97) (b := 122) hT (by omega) (by omega) t
  have hd := kd_cases (T (s + k))
  rw [bnd1_of _ hh, hh, j5, j4 73 6 (by omega), h6, nI_sub (by omega), show s + k - s = k by omega]
  by_cases b : s + k < n ∧ kd (T (s + k)) = 1
  · have hl : 97 ≤ T (s + k) ∧ T (s + k) ≤ 122 := by omega
    obtain ⟨w1, w2⟩ := wl_s (T := T) (s := s) (k := k) hl
    rw [if_pos (c := fX8_in t (if s + k < n then nI (T (s + k)) else -1) (97 : Int32) (122 : Int32) = true) (q.mpr ⟨b.1, hl⟩), if_pos b.1]
    refine wp_vk1 (fun v => v = wl T s (k + 1)) ?_ fun j' hj' => ?_
    · rintro _ rfl
      refine wp_vv ?_; intro t2 g2
      have e2 : gI t2 73 2 = nI (s + k) := by rw [g2]; exact j5
      rw [e2, nI_1]
      refine wp_v (hr (m - 1) _ (by omega) ⟨k + 1, by omega, ?_, by rw [g2]; exact j3, fun c k hc => by rw [gI_nk hc, g2]; exact j4 c k hc, by rw [gI_eq]; rfl, ?_⟩)
      · rw [← j2, fs_t b.1 (show sm T 1 (s + k) = true from decide_eq_true b.2)]; rfl
      · show gL t2 73 10 = _
        rw [g2, gL_sL, if_pos ⟨rfl, rfl⟩]
    · by_cases c : 7 ≤ k
      · rw [if_pos (by show nI 7 ≤ nI k; exact nI_le c (by omega))]
        exact hj' _ (w2 c).symm
      · rw [if_neg (by show ¬ nI 7 ≤ nI k; exact nI_ge (by omega) (by omega)), bnd1_some, j6, w1 (by omega)]
        exact hj' _ rfl
  · rw [if_neg (c := fX8_in t (if s + k < n then nI (T (s + k)) else -1) (97 : Int32) (122 : Int32) = true) fun h => by have := q.mp h; omega]
    have ee : en T n s = s + k := by
      rw [← j2]
      by_cases c : s + k < n
      · exact fs_f fun h => b ⟨c, of_decide_eq_true h⟩
      · rw [show n - (s + k) = 0 by omega]; rfl
    refine wp_vv ?_; intro t2 g2
    rw [ee, show s + k - s = k by omega]
    refine wp_some ⟨by rw [g2]; exact j3, fun c k hc => by rw [g2, gI_nk (by omega)]; exact j4 c k (by omega), by rw [g2, gI_nk (by omega)]; exact j5, by rw [g2, gI_eq], by rw [g2]; exact j6⟩
theorem next8_n (hn : n ≤ 400) (hs : s < n) (hk2 : kd (T s) = 2) (h3 : gI σ 73 3 = nI n) (h74 : ∀ j, j < n → gI σ 74 j &&& 255 = nI (T j)) (hT : ∀ j, T j < 256) (h2 : gI σ 73 2 = nI s) (h7 : gI σ 73 7 = nI 0) : WP (X8_next_L186 fuel σ) (fun r => gR r = gR σ ∧ (∀ c k, ¬ (c = 73 ∧ (k = 2 ∨ k = 7)) → gI r c k = gI σ c k) ∧ gI r 73 2 = nI (en T n s) ∧ gI r 73 7 = nI (nv T s (en T n s - s))) := by
  have hen : en T n s = fs (sm T 2) (n - s) s := by
    unfold en; rw [if_neg (by omega), if_pos (Or.inr hk2), hk2]
  have hall := en_all (T := T) (n := n) (s := s) (Or.inr (by unfold kc; rw [if_neg (by omega)]; exact hk2))
  unfold X8_next_L186
  refine wl_1 (fun m t => ∃ k, s + k + m = n ∧ s + k ≤ en T n s ∧ fs (sm T 2) (n - (s + k)) (s + k) = en T n s ∧ gR t = gR σ ∧ (∀ c k, ¬ (c = 73 ∧ (k = 2 ∨ k = 7)) → gI t c k = gI σ c k) ∧ gI t 73 2 = nI (s + k) ∧ gI t 73 7 = nI (nv T s k)) ?_ fuel (n - s) σ (fuel_gt (by omega)) ⟨0, by omega, (en_le (T := T) (n := n) (s := s) (by omega)).1, hen.symm, rfl, fun _ _ _ => rfl, h2, h7⟩
  rintro m t ⟨k, j1, j7, j2, j3, j4, j5, j6⟩ rec hr
  have hh := here8 (σ := t) (T := T) (n := n) (p := s + k) hn (by rw [j4 _ _ (by omega)]; exact h3) (fun j hj => by rw [j4 _ _ (by omega)]; exact h74 j hj) j5 (by omega)
  have q := in8k (T := T) (n := n) (p := s + k) (a := 48) (b := 57) hT (by omega) (by omega) t
  have hd := kd_cases (T (s + k))
  have hkc : kc T n s = 2 := by unfold kc; rw [if_neg (by omega)]; exact hk2
  have hv := nv_le (T := T) (s := s) k fun j hj => by rw [hall.2 (s + j) (by omega) (by omega), hkc]
  rw [bnd1_of _ hh, hh, j6]
  by_cases b : s + k < n ∧ kd (T (s + k)) = 2
  · have hl : 48 ≤ T (s + k) ∧ T (s + k) ≤ 57 := by omega
    have hE := fs_t (P := sm T 2) b.1 (show sm T 2 (s + k) = true from decide_eq_true b.2)
    have hle := fs_le (P := sm T 2) (n - (s + k + 1)) (s + k + 1)
    rw [if_pos (c := fX8_in t (if s + k < n then nI (T (s + k)) else -1) (48 : Int32) (57 : Int32) = true) (q.mpr ⟨b.1, hl⟩), if_pos b.1]
    have en' : nv T s (k + 1) = if 99 < nv T s k then 999 else 10 * nv T s k + (T (s + k) - 48) := rfl
    refine wp_vk1 (fun v => v = nI (nv T s (k + 1))) ?_ fun j' hj' => ?_
    · rintro _ rfl
      refine wp_vv ?_; intro t2 g2
      have e2 : gI t2 73 2 = nI (s + k) := by rw [g2, gI_nk (by omega)]; exact j5
      rw [e2, nI_1]
      refine wp_v (hr (m - 1) _ (by omega) ⟨k + 1, by omega, by omega, ?_, by rw [g2]; exact j3, fun c k hc => by rw [gI_nk (by omega), g2, gI_nk (by omega)]; exact j4 c k hc, by rw [gI_eq]; rfl, by rw [gI_nk (by omega), g2, gI_eq]⟩)
      rw [← j2, hE]; rfl
    · by_cases c : nv T s k ≤ 99
      · rw [if_pos (by show nI _ ≤ nI 99; exact nI_le c (by omega)), bnd1_some]
        refine hj' _ ?_
        rw [en', if_neg (by omega), show (10 : Int32) = nI 10 from rfl, nI_mul, nI_add, show (48 : Int32) = nI 48 from rfl, nI_sub (by omega)]
        exact congrArg nI (by omega)
      · rw [if_neg (by show ¬ nI _ ≤ nI 99; exact nI_ge (by omega) (by omega))]
        refine hj' _ ?_
        rw [en', if_pos (by omega)]; rfl
  · rw [if_neg (c := fX8_in t (if s + k < n then nI (T (s + k)) else -1) (48 : Int32) (57 : Int32) = true) fun h => by have := q.mp h; omega]
    have ee : en T n s = s + k := by
      rw [← j2]
      by_cases c : s + k < n
      · exact fs_f fun h => b ⟨c, of_decide_eq_true h⟩
      · rw [show n - (s + k) = 0 by omega]; rfl
    rw [ee, show s + k - s = k by omega]
    exact wp_some ⟨j3, j4, j5, j6⟩
theorem next8 (hn : n ≤ 400) (hi : i ≤ n) (h3 : gI σ 73 3 = nI n) (h74 : ∀ j, j < n → gI σ 74 j &&& 255 = nI (T j)) (hT : ∀ j, T j < 256) (h2 : gI σ 73 2 = nI i) : WP (fX8_next σ) (fun r => gR r = gR σ ∧ (∀ c k, ¬ (c = 73 ∧ (k = 2 ∨ (5 ≤ k ∧ k ≤ 9))) → gI r c k = gI σ c k) ∧ Rs T n (sk T n i) r) := by
  unfold fX8_next
  refine next8_a (T := T) (n := n) (i := i) hn hi h3 h74 hT h2 (fun t2 x1 x2 x3 => ?_)
  try dsimp only
  have hs := sk_le (T := T) (n := n) hi
  generalize hE : sk T n i = s at *
  have hen := en_le (T := T) hs.2
  refine wp_vv ?_; intro t3 g3
  have a2 : gI t3 73 2 = nI s := by rw [g3, gI_nk (by omega)]; exact x3
  have a6 : gI t3 73 6 = nI s := by rw [g3, gI_eq]; exact x3
  have r3 : ∀ c k, ¬ (c = 73 ∧ (k = 2 ∨ (5 ≤ k ∧ k ≤ 9))) → gI t3 c k = gI σ c k := fun c k hc => by rw [g3, gI_nk (by omega)]; exact x2 c k (by omega)
  have q3 : gR t3 = gR σ := by rw [g3]; exact x1
  have b3 : gI t3 73 3 = nI n := by rw [r3 _ _ (by omega)]; exact h3
  have b74 : ∀ j, j < n → gI t3 74 j &&& 255 = nI (T j) := fun j hj => by rw [r3 _ _ (by omega)]; exact h74 j hj
  have hh := here8 (σ := t3) (T := T) (n := n) (p := s) hn b3 b74 a2 hs.2
  have k1 := in8k (T := T) (n := n) (p := s) (a := 97) (b := 122) hT (by omega) (by omega) t3
  have k2 := in8k (T := T) (n := n) (p := s) (a := 48) (b := 57) hT (by omega) (by omega) t3
  have k3 := is8k (T := T) (n := n) (p := s) (a := 44) hT (by omega)
  have k4 := is8k (T := T) (n := n) (p := s) (a := 59) hT (by omega)
  have hTs := hT s
  rw [bnd1_of _ hh]
  by_cases c : s < n
  case neg =>
    have hk0 : kc T n s = 0 := if_pos (by omega)
    have he0 : en T n s = s := if_pos (by omega)
    rw [if_neg c, if_pos rfl]
    refine wp_vv ?_; intro t4 g4
    refine wp_some ⟨by rw [g4]; exact q3, fun c k hc => by rw [g4, gI_nk (by omega)]; exact r3 c k hc, by rw [g4, gI_nk (by omega)]; exact b3, fun j hj => by rw [g4, gI_ne (by omega)]; exact b74 j hj, by rw [g4, gI_nk (by omega)]; exact a6, by rw [g4, gI_nk (by omega), he0]; exact a2, by rw [g4, gI_eq, hk0]; rfl, fun h => by rw [hk0] at h; omega, fun h => by rw [hk0] at h; omega, fun h => by rw [hk0] at h; omega⟩
  have hk0 : kc T n s = kd (T s) := if_neg (by omega)
  have hd := kd_cases (T s)
  rw [if_pos c] at *
  rw [if_neg (nI_m1 (by omega))]
  by_cases c1 : kd (T s) = 1
  · rw [if_pos (c := fX8_in t3 (nI (T s)) (97 : Int32) (122 : Int32) = true) (k1.mpr (by omega))]
    refine wp_vv ?_; intro t4 g4
    refine wp_vv ?_; intro t5 g5
    have f5 : ∀ c k, ¬ (c = 73 ∧ k = 5) → gI t5 c k = gI t3 c k := fun c k hc => by rw [g5, gI_sL, g4, gI_nk hc]
    refine wp_imp (next8_w (T := T) (n := n) (s := s) hn c c1 (by rw [f5 _ _ (by omega)]; exact b3) (fun j hj => by rw [f5 _ _ (by omega)]; exact b74 j hj) hT (by rw [f5 _ _ (by omega)]; exact a2) (by rw [f5 _ _ (by omega)]; exact a6) (by rw [g5, gL_sL, if_pos ⟨rfl, rfl⟩]; rfl)) ?_
    rintro r ⟨u1, u2, u3, u4, u5⟩
    refine ⟨by rw [u1, g5, g4]; exact q3, fun c k hc => by rw [u2 c k (by omega), f5 c k (by omega)]; exact r3 c k hc, by rw [u2 _ _ (by omega), f5 _ _ (by omega)]; exact b3, fun j hj => by rw [u2 _ _ (by omega), f5 _ _ (by omega)]; exact b74 j hj, by rw [u2 _ _ (by omega), f5 _ _ (by omega)]; exact a6, u3, ?_, fun h => by omega, fun h => by omega, fun _ => ⟨u4, u5⟩⟩
    rw [u2 _ _ (by omega), g5, gI_sL, g4, gI_eq, hk0, c1]; rfl
  rw [if_neg (c := fX8_in t3 (nI (T s)) (97 : Int32) (122 : Int32) = true) fun h => by have := k1.mp h; omega]
  by_cases c2 : kd (T s) = 2
  · rw [if_pos (c := fX8_in t3 (nI (T s)) (48 : Int32) (57 : Int32) = true) (k2.mpr (by omega))]
    refine wp_vv ?_; intro t4 g4
    refine wp_vv ?_; intro t5 g5
    have f5 : ∀ c k, ¬ (c = 73 ∧ (k = 5 ∨ k = 7)) → gI t5 c k = gI t3 c k := fun c k hc => by rw [g5, gI_nk (by omega), g4, gI_nk (by omega)]
    refine wp_imp (next8_n (T := T) (n := n) (s := s) hn c c2 (by rw [f5 _ _ (by omega)]; exact b3) (fun j hj => by rw [f5 _ _ (by omega)]; exact b74 j hj) hT (by rw [f5 _ _ (by omega)]; exact a2) (by rw [g5, gI_eq]; rfl)) ?_
    rintro r ⟨u1, u2, u3, u4⟩
    refine ⟨by rw [u1, g5, g4]; exact q3, fun c k hc => by rw [u2 c k (by omega), f5 c k (by omega)]; exact r3 c k hc, by rw [u2 _ _ (by omega), f5 _ _ (by omega)]; exact b3, fun j hj => by rw [u2 _ _ (by omega), f5 _ _ (by omega)]; exact b74 j hj, by rw [u2 _ _ (by omega), f5 _ _ (by omega)]; exact a6, u3, ?_, fun _ => u4, fun h => by omega, fun h => by omega⟩
    rw [u2 _ _ (by omega), g5, gI_nk (by omega), g4, gI_eq, hk0, c2]; rfl
  rw [if_neg (c := fX8_in t3 (nI (T s)) (48 : Int32) (57 : Int32) = true) fun h => by have := k2.mp h; omega]
  have hes : en T n s = s + 1 := by unfold en; rw [if_neg (by omega), if_neg (by omega)]
  refine wp_vk1 (fun v => v = nI (kr (kd (T s)))) ?_ fun j hj => ?_
  · rintro _ rfl
    refine wp_vv ?_; intro t4 g4
    refine wp_vv ?_; intro t5 g5
    have e2 : gI t5 73 2 = nI s := by rw [g5, gI_nk (by omega), g4, gI_nk (by omega)]; exact a2
    rw [e2, nI_1]
    refine wp_vv ?_; intro t6 g6
    have f6 : ∀ c k, ¬ (c = 73 ∧ (k = 2 ∨ k = 5 ∨ k = 8)) → gI t6 c k = gI t3 c k := fun c k hc => by rw [g6, gI_nk (by omega), g5, gI_nk (by omega), g4, gI_nk (by omega)]
    refine wp_some ⟨by rw [g6, g5, g4]; exact q3, fun c k hc => by rw [f6 c k (by omega)]; exact r3 c k hc, by rw [f6 _ _ (by omega)]; exact b3, fun j hj => by rw [f6 _ _ (by omega)]; exact b74 j hj, by rw [f6 _ _ (by omega)]; exact a6, by rw [g6, gI_eq, hes], ?_, fun h => by omega, fun _ => ?_, fun h => by omega⟩
    · rw [g6, gI_nk (by omega), g5, gI_nk (by omega), g4, gI_eq, hk0]
    · rw [g6, gI_nk (by omega), g5, gI_eq]
  · refine wp_vk1 (fun _ => kr (kd (T s)) = 3) (fun _ h => hj _ (by rw [h]; rfl)) fun j2 hj2 => ?_
    by_cases c3 : kd (T s) = 3
    · rw [if_pos (c := nI (T s) = (44 : Int32)) (k3.mpr (by omega))]
      exact hj2 _ (by rw [c3]; rfl)
    rw [if_neg (c := nI (T s) = (44 : Int32)) fun h => by have := k3.mp h; omega]
    by_cases c4 : kd (T s) = 4
    · rw [if_pos (c := nI (T s) = (59 : Int32)) (k4.mpr (by omega))]
      exact hj2 _ (by rw [c4]; rfl)
    rw [if_neg (c := nI (T s) = (59 : Int32)) fun h => by have := k4.mp h; omega]
    exact hj _ (by rw [show kd (T s) = 5 by omega]; rfl)
end NEXT
