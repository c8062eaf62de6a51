/-! Print kept: the corners are held. -/
/-- the k-th corner has a dot on each side of it -/
def okC (σ : SS) (w q k : Nat) : Prop := (1 ≤ (gI σ 89 k).toInt ∧ (gI σ 89 k).toInt + 2 ≤ w) ∧ 1 ≤ (gI σ 90 k).toInt ∧ (gI σ 90 k).toInt + 2 ≤ q
section CORNER
variable {σ : SS} {s w q : Nat}
theorem addI {x : Int32} (h : 0 ≤ x.toInt ∧ x.toInt ≤ 39) : (x + 1).toInt = x.toInt + 1 ∧ (x - 1).toInt = x.toInt - 1 := by
  have z : (1 : Int32).toInt = 1 := rfl
  rw [Int32.toInt_add, Int32.toInt_sub, z]
  simp only [Int.bmod]
  constructor <;> split <;> omega
theorem holds7 (hw : 8 ≤ w ∧ w ≤ 40) (hq : 8 ≤ q ∧ q ≤ 40) (e1 : gI σ s 0 = nI w) (e2 : gI σ s 1 = nI q) (hC : RCor σ) {k : Nat} (hk : k < 4) : (fX6_holdsRound σ s (gI σ 28 k) (gI σ 29 k) = true) ↔ okC σ w q k := by
  obtain ⟨c1, c2, c3, c4⟩ := hC k hk
  have c3' : 0 ≤ (gI σ 89 k).toInt ∧ (gI σ 89 k).toInt ≤ 39 := c3
  have c4' : 0 ≤ (gI σ 90 k).toInt ∧ (gI σ 90 k).toInt ≤ 39 := c4
  obtain ⟨a1, a2⟩ := addI c3'
  obtain ⟨b1, b2⟩ := addI c4'
  have h1 := has_eq (σ := σ) (s := s) e1 e2 hw.2 hq.2 (gI σ 89 k - 1) (gI σ 90 k - 1)
  have h2 := has_eq (σ := σ) (s := s) e1 e2 hw.2 hq.2 (gI σ 89 k + 1) (gI σ 90 k + 1)
  rw [a2, b2] at h1
  rw [a1, b1] at h2
  unfold fX6_holdsRound okC
  rw [c1, c2]
  simp only [vthen_q]
  by_cases d1 : fX6_has σ s (gI σ 89 k - 1) (gI σ 90 k - 1) = true
  · rw [if_pos d1]
    rw [h1] at d1
    by_cases d2 : fX6_has σ s (gI σ 89 k + 1) (gI σ 90 k + 1) = true
    · rw [if_pos d2]
      rw [h2] at d2
      exact ⟨fun _ => by omega, fun _ => rfl⟩
    · rw [if_neg d2]
      rw [h2] at d2
      exact ⟨fun q => absurd q (by decide), fun q => absurd q (by omega)⟩
  · rw [if_neg d1]
    rw [h1] at d1
    exact ⟨fun q => absurd q (by decide), fun q => absurd q (by omega)⟩
theorem chk7 (hw : 8 ≤ w ∧ w ≤ 40) (hq : 8 ≤ q ∧ q ≤ 40) (e1 : gI σ s 0 = nI w) (e2 : gI σ s 1 = nI q) (hC : RCor σ) (hR : gR σ 1 2 = s) {k61 : Unit → Option (Int32 × SS)} : ((∀ k, k < 4 → okC σ w q k) → X7_print_L25 σ k61 fuel (0 : Int32) = k61 ()) ∧ (¬ (∀ k, k < 4 → okC σ w q k) → X7_print_L25 σ k61 fuel (0 : Int32) = some (-2, σ)) := by
  constructor
  · intro h
    unfold X7_print_L25
    refine lp_1 (fun i => nI i) 4 _ (fun k hk rec => ?_) (fun rec => ?_) fuel (fuel_gt (by omega))
    · rw [if_neg (by show ¬ nI 4 ≤ nI k; exact nI_ge hk (by omega)), grd_eq _ (inb_nI hk (by decide)), nI_clamp (by omega), hR, if_pos ((holds7 hw hq e1 e2 hC hk).mpr (h k hk)), nI_1]
    · rw [if_pos (by decide)]
  · intro h
    have hh : WP (X7_print_L25 σ k61 fuel (0 : Int32)) (fun r => r = (-2, σ)) := by
      unfold X7_print_L25
      refine wf_1 4 (fun i v => v = nI i ∧ ∀ k, k < i → okC σ w q k) ⟨rfl, fun k hk => absurd hk (by omega)⟩ (by omega) ?_ ?_
      · rintro i _ rec hi ⟨rfl, ho⟩ hr
        rw [if_neg (by show ¬ nI 4 ≤ nI i; exact nI_ge hi (by omega)), nI_clamp (by omega), hR, nI_1]
        refine wp_grd (inb_nI hi (by decide)) (wp_if (fun c => hr _ ⟨rfl, fun k hk => ?_⟩) fun c => wp_some rfl)
        by_cases ck : k = i
        · subst ck; exact (holds7 hw hq e1 e2 hC hi).mp c
        · exact ho k (by omega)
      · rintro _ rec ⟨rfl, ho⟩
        exact absurd ho h
    obtain ⟨v, v1, rfl⟩ := hh
    exact v1
end CORNER
