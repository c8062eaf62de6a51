/-! Print kept: the four corners put. -/
def prF (cx cy : Nat → Nat) : Nat → Nat → Nat → Int32
  | 0 => fun _ _ => 0
  | k + 1 => rnF 9 (prF cx cy k) (cx k) (cy k) 0 (cy k + 2)
section PUT
variable {τ : SS} {s w q : Nat} {cx cy : Nat → Nat}
theorem puts7 (hw : w ≤ 40) (hq : q ≤ 40) (hs : s = 3 ∨ s = 6) (e1 : gI τ s 0 = nI w) (e2 : gI τ s 1 = nI q) (hR : gR τ 1 2 = s) (hC : ∀ k, k < 4 → gI τ 28 k = nI (cx k) ∧ gI τ 29 k = nI (cy k) ∧ (1 ≤ cx k ∧ cx k + 2 ≤ w) ∧ 1 ≤ cy k ∧ cy k + 2 ≤ q) (h0 : Vis (gI τ (s + 1)) w q (prF cx cy 0) fun _ _ => True) {k144 : SS → Option (Int32 × SS)} {P : Int32 × SS → Prop} (hk : ∀ t, gR t = gR τ → (∀ c, c ≠ s + 1 → gI t c = gI τ c) → Vis (gI t (s + 1)) w q (prF cx cy 4) (fun _ _ => True) → (∀ k, k < 4 → gL t 46 k = lN (cx k) ∧ gL t 47 k = lN (cy k) ∧ gL t 48 k = lN 1) → WP (k144 t) P) : WP (X7_print_L92 k144 fuel (0 : Int32) τ) P := by
  unfold X7_print_L92
  refine wf_2 4 (fun i v t => v = nI i ∧ gR t = gR τ ∧ (∀ c, c ≠ s + 1 → gI t c = gI τ c) ∧ Vis (gI t (s + 1)) w q (prF cx cy i) (fun _ _ => True) ∧ ∀ k, k < i → gL t 46 k = lN (cx k) ∧ gL t 47 k = lN (cy k) ∧ gL t 48 k = lN 1) ⟨rfl, rfl, fun c hc => rfl, h0, fun k hk => absurd hk (by omega)⟩ (by omega) ?_ ?_
  · rintro i _ t rec hi ⟨rfl, i1, i2, i3, i4⟩ hr
    obtain ⟨c1, c2, c3, c4⟩ := hC i hi
    rw [if_neg (by show ¬ nI 4 ≤ nI i; exact nI_ge hi (by omega)), nI_clamp (by omega), i1, hR, i2 28 (by omega), i2 29 (by omega), c1, c2, nI_1]
    refine wp_grd (inb_nI hi (by decide)) (wp_bnd1 (round7 (σ := t) (v := 9) hw hq (by rw [i2 s (by omega)]; exact e1) (by rw [i2 s (by omega)]; exact e2) c3 c4 i3) ?_)
    rintro _ ⟨d, rfl, hd⟩
    rw [gI_A_ne (by omega), gI_A_ne (by omega), i2 28 (by omega), i2 29 (by omega), c1, c2, nI_l (by omega), nI_l (by omega)]
    unfold fX5_put
    rw [nI_clamp (by omega), grd_eq _ (inb_nI hi (by decide)), vthen_q, vthen_q, vthen_q, bnd1_some]
    refine hr _ _ ⟨rfl, i1, fun c hc => ?_, ?_, fun k hk => ?_⟩
    · show gI (sA t (s + 1) d) c = _
      funext j
      rw [gI_A_ne hc]; exact congrFun (i2 c hc) j
    · show Vis (gI (sA t (s + 1) d) (s + 1)) w q (prF cx cy (i + 1)) fun _ _ => True
      rw [show gI (sA t (s + 1) d) (s + 1) = d from funext fun j => by rw [gI_A]]
      exact hd
    · by_cases ck : k = i
      · subst ck
        refine ⟨?_, ?_, ?_⟩
        · rw [gL_sL, if_neg (by omega), gL_sL, if_neg (by omega), gL_sL, if_pos ⟨rfl, rfl⟩]
        · rw [gL_sL, if_neg (by omega), gL_sL, if_pos ⟨rfl, rfl⟩]
        · rw [gL_sL, if_pos ⟨rfl, rfl⟩]; rfl
      · obtain ⟨o1, o2, o3⟩ := i4 k (by omega)
        refine ⟨?_, ?_, ?_⟩
        · rw [gL_sL, if_neg (by omega), gL_sL, if_neg (by omega), gL_sL, if_neg (by omega)]; exact o1
        · rw [gL_sL, if_neg (by omega), gL_sL, if_neg (by omega), gL_sL, if_neg (by omega)]; exact o2
        · rw [gL_sL, if_neg (by omega), gL_sL, if_neg (by omega), gL_sL, if_neg (by omega)]; exact o3
  · rintro _ t rec ⟨rfl, i1, i2, i3, i4⟩
    rw [if_pos (by decide)]
    exact hk t i1 i2 i3 i4
theorem puts8' (hw : w ≤ 40) (hq : q ≤ 40) (e3 : gI τ 73 29 = nI w) (hC : ∀ k, k < 4 → gI τ 89 k = nI (cx k) ∧ gI τ 90 k = nI (cy k) ∧ (1 ≤ cx k ∧ cx k + 2 ≤ w) ∧ 1 ≤ cy k ∧ cy k + 2 ≤ q) (h0 : Vis (gI τ 83) w q (prF cx cy 0) fun _ _ => True) {k174 : SS → Option (Int32 × SS)} {P : Int32 × SS → Prop} (hk : ∀ t, gR t = gR τ → (∀ c, c ≠ 83 → gI t c = gI τ c) → Vis (gI t 83) w q (prF cx cy 4) (fun _ _ => True) → (∀ k, k < 4 → gL t 103 k = lN (cx k) ∧ gL t 104 k = lN (cy k) ∧ gL t 105 k = lN 1) → WP (k174 t) P) : WP (X8_print_L79 k174 fuel (0 : Int32) τ) P := by
  unfold X8_print_L79
  refine wf_2 4 (fun i v t => v = nI i ∧ gR t = gR τ ∧ (∀ c, c ≠ 83 → gI t c = gI τ c) ∧ Vis (gI t 83) w q (prF cx cy i) (fun _ _ => True) ∧ ∀ k, k < i → gL t 103 k = lN (cx k) ∧ gL t 104 k = lN (cy k) ∧ gL t 105 k = lN 1) ⟨rfl, rfl, fun c hc => rfl, h0, fun k hk => absurd hk (by omega)⟩ (by omega) ?_ ?_
  · rintro i _ t rec hi ⟨rfl, i1, i2, i3, i4⟩ hr
    obtain ⟨c1, c2, c3, c4⟩ := hC i hi
    rw [if_neg (by show ¬ nI 4 ≤ nI i; exact nI_ge hi (by omega))]
    refine round8 (τ := t) hw hq hi (by rw [i2 73 (by omega)]; exact e3) (by rw [i2 89 (by omega)]; exact c1) (by rw [i2 90 (by omega)]; exact c2) c3 c4 i3 fun d hd => ?_
    rw [nI_clamp (by omega), nI_1, gI_A_ne (by omega), i2 89 (by omega), c1, nI_l (by omega)]
    refine wp_grd (inb_nI hi (by decide)) (wp_v ?_)
    rw [show gI (sL (sA t 83 d) 103 i (lN (cx i))) 90 i = nI (cy i) by rw [gI_sL, gI_A_ne (by omega), i2 90 (by omega)]; exact c2, nI_l (by omega)]
    refine wp_v (wp_v (hr _ _ ⟨rfl, i1, fun c hc => ?_, ?_, fun k hk => ?_⟩))
    · show gI (sA t 83 d) c = _
      funext j
      rw [gI_A_ne hc]; exact congrFun (i2 c hc) j
    · show Vis (gI (sA t 83 d) 83) w q (prF cx cy (i + 1)) fun _ _ => True
      rw [show gI (sA t 83 d) 83 = d from funext fun j => by rw [gI_A]]
      exact hd
    · by_cases ck : k = i
      · subst ck
        refine ⟨?_, ?_, ?_⟩
        · rw [gL_sL, if_neg (by omega), gL_sL, if_neg (by omega), gL_sL, if_pos ⟨rfl, rfl⟩]
        · rw [gL_sL, if_neg (by omega), gL_sL, if_pos ⟨rfl, rfl⟩]
        · rw [gL_sL, if_pos ⟨rfl, rfl⟩]; rfl
      · obtain ⟨o1, o2, o3⟩ := i4 k (by omega)
        refine ⟨?_, ?_, ?_⟩
        · rw [gL_sL, if_neg (by omega), gL_sL, if_neg (by omega), gL_sL, if_neg (by omega)]; exact o1
        · rw [gL_sL, if_neg (by omega), gL_sL, if_neg (by omega), gL_sL, if_neg (by omega)]; exact o2
        · rw [gL_sL, if_neg (by omega), gL_sL, if_neg (by omega), gL_sL, if_neg (by omega)]; exact o3
  · rintro _ t rec ⟨rfl, i1, i2, i3, i4⟩
    rw [if_pos (by decide)]
    exact hk t i1 i2 i3 i4
end PUT
