/-! Print kept: the corners, the reference's half; its dots cleared. -/
section CORNER8
variable {σ τ : SS} {w q : Nat}
theorem in8c (hw : 8 ≤ w ∧ w ≤ 40) (hq : 8 ≤ q ∧ q ≤ 40) (e3 : gI τ 73 29 = nI w) (e4 : gI τ 73 30 = nI q) (h89 : gI τ 89 = gI σ 89) (h90 : gI τ 90 = gI σ 90) {k : Nat} : ((fX8_in τ (gI τ 89 k) (1 : Int32) ((gI τ 73 29) - (2 : Int32)) = true) ∧ (fX8_in τ (gI τ 90 k) (1 : Int32) ((gI τ 73 30) - (2 : Int32)) = true)) ↔ okC σ w q k := by
  have z : (1 : Int32).toInt = 1 := rfl
  have s1 : nI w - (2 : Int32) = nI (w - 2) := nI_sub (a := w) (b := 2) (by omega)
  have s2 : nI q - (2 : Int32) = nI (q - 2) := nI_sub (a := q) (b := 2) (by omega)
  rw [in_eq, in_eq, e3, e4, s1, s2, h89, h90, le_i, le_i, le_i, le_i, z, nI_toInt (by omega), nI_toInt (by omega)]
  unfold okC
  omega
theorem chk8 (hw : 8 ≤ w ∧ w ≤ 40) (hq : 8 ≤ q ∧ q ≤ 40) (e3 : gI τ 73 29 = nI w) (e4 : gI τ 73 30 = nI q) (h89 : gI τ 89 = gI σ 89) (h90 : gI τ 90 = gI σ 90) {k73 : Unit → Option (Int32 × SS)} : ((∀ k, k < 4 → okC σ w q k) → X8_print_L21 τ k73 fuel (0 : Int32) = k73 ()) ∧ (¬ (∀ k, k < 4 → okC σ w q k) → X8_print_L21 τ k73 fuel (0 : Int32) = some (-2, τ)) := by
  constructor
  · intro h
    unfold X8_print_L21
    refine lp_1 (fun i => nI i) 4 _ (fun k hk rec => ?_) (fun rec => ?_) fuel (fuel_gt (by omega))
    · obtain ⟨i1, i2⟩ := (in8c (σ := σ) hw hq e3 e4 h89 h90).mpr (h k hk)
      rw [if_neg (by show ¬ nI 4 ≤ nI k; exact nI_ge hk (by omega)), grd_eq _ (inb_nI hk (by decide)), nI_clamp (by omega), if_pos i1, if_pos i2, nI_1]
    · rw [if_pos (by decide)]
  · intro h
    have hh : WP (X8_print_L21 τ k73 fuel (0 : Int32)) (fun r => r = (-2, τ)) := by
      unfold X8_print_L21
      refine wf_1 4 (fun i v => v = nI i ∧ ∀ k, k < i → okC σ w q k) ⟨rfl, fun k hk => absurd hk (by omega)⟩ (by omega) ?_ ?_
      · rintro i _ rec hi ⟨rfl, ho⟩ hr
        rw [if_neg (by show ¬ nI 4 ≤ nI i; exact nI_ge hi (by omega)), nI_clamp (by omega), nI_1]
        refine wp_grd (inb_nI hi (by decide)) (wp_if (fun c => wp_if (fun c2 => hr _ ⟨rfl, fun k hk => ?_⟩) fun c2 => wp_some rfl) fun c => wp_some rfl)
        by_cases ck : k = i
        · subst ck; exact (in8c (σ := σ) hw hq e3 e4 h89 h90).mp ⟨c, c2⟩
        · exact ho k (by omega)
      · rintro _ rec ⟨rfl, ho⟩
        exact absurd ho h
    obtain ⟨v, v1, rfl⟩ := hh
    exact v1
end CORNER8
