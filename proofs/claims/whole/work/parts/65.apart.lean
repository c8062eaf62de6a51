/-! Apart kept: the orders, and the widest gap. -/
/-- the reference's place of the form's k-th box -/
def Ef (N : Nat → Nat) : Nat → Nat → Nat
  | 0, _ => 0
  | Q + 1, k => if k < psum N Q then Ef N Q k else 6 * Q + (k - psum N Q)
theorem Ef_at {N : Nat → Nat} : ∀ Q p i, p < Q → i < N p → Ef N Q (psum N p + i) = 6 * p + i
  | 0, _, _, h, _ => absurd h (by omega)
  | Q + 1, p, i, h, hi => by
    show (if psum N p + i < psum N Q then Ef N Q (psum N p + i) else 6 * Q + (psum N p + i - psum N Q)) = _
    by_cases c : p = Q
    · subst c; rw [if_neg (by omega)]; omega
    · rw [if_pos (psum_lt (by omega) hi)]; exact Ef_at Q p i (by omega) hi
def gpW (D O : Nat → Nat) : Nat → Nat × Int32
  | 0 => (0, 0)
  | k + 1 => if nI (D (O k)) - nI (D (O (k + 1))) ≤ (gpW D O k).2 then gpW D O k else (k + 1, nI (D (O k)) - nI (D (O (k + 1))))
theorem gpW_p {D O : Nat → Nat} (hD : ∀ k, D k ≤ 324) : ∀ k, (gpW D O k).1 ≤ k ∧ 0 ≤ (gpW D O k).2.toInt ∧ ((gpW D O k).1 = 0 ∨ D (O (gpW D O k).1) < D (O ((gpW D O k).1 - 1)))
  | 0 => ⟨Nat.le_refl _, by show 0 ≤ (0 : Int32).toInt; decide, Or.inl rfl⟩
  | k + 1 => by
    have ih := gpW_p (O := O) hD k
    have es : gpW D O (k + 1) = if nI (D (O k)) - nI (D (O (k + 1))) ≤ (gpW D O k).2 then gpW D O k else (k + 1, nI (D (O k)) - nI (D (O (k + 1)))) := rfl
    rw [es]
    by_cases c : nI (D (O k)) - nI (D (O (k + 1))) ≤ (gpW D O k).2
    · rw [if_pos c]; exact ⟨by omega, ih.2⟩
    · rw [if_neg c]
      rw [le_i, sub_i (hD _) (hD _)] at c
      refine ⟨Nat.le_refl _, ?_, Or.inr ?_⟩
      · show 0 ≤ (nI (D (O k)) - nI (D (O (k + 1)))).toInt
        rw [sub_i (hD _) (hD _)]; omega
      · show D (O (k + 1)) < D (O (k + 1 - 1))
        rw [Nat.add_sub_cancel]; omega
section GAP
variable {s : SS} {T : Nat} {D O : Nat → Nat}
theorem gap7 {f : Nat} {k100 : Int32 → Int32 → Option (Int32 × SS)} (hT : T ≤ 72) (e6 : gI s f 6 = nI T) (h52 : ∀ k, k < T → gI s 52 k = nI (O k)) (hO : ∀ k, k < T → O k < T) (h51 : ∀ k, k < T → gI s 51 k = nI (D k)) : X3_partedBy_L17 s f k100 fuel (0 : Int32) (0 : Int32) (0 : Int32) = k100 (nI (gpW D O (T - 1)).1) (gpW D O (T - 1)).2 := by
  unfold X3_partedBy_L17
  refine lp_3 (fun k => nI (gpW D O k).1) (fun k => (gpW D O k).2) (fun k => nI k) (T - 1) _ (fun k hk rec => ?_) (fun rec => ?_) fuel (fuel_gt (by omega))
  · have o1 := hO k (by omega)
    have o2 := hO (k + 1) (by omega)
    simp only [nI_1]
    rw [e6, if_neg (nI_ge (by omega) (by omega)), grd_eq _ (inb_nI (by omega) (by decide)), nI_clamp (by omega), h52 k (by omega), grd_eq _ (inb_nI (by omega) (by decide)), grd_eq _ (inb_nI (by omega) (by decide)), nI_clamp (by omega), h52 (k + 1) (by omega), grd_eq _ (inb_nI (by omega) (by decide)), nI_clamp (by omega), nI_clamp (by omega), h51 _ o1, h51 _ o2]
    have es : gpW D O (k + 1) = if nI (D (O k)) - nI (D (O (k + 1))) ≤ (gpW D O k).2 then gpW D O k else (k + 1, nI (D (O k)) - nI (D (O (k + 1)))) := rfl
    rw [es]
    by_cases c : nI (D (O k)) - nI (D (O (k + 1))) ≤ (gpW D O k).2
    · rw [if_pos c, if_pos c]
    · rw [if_neg c, if_neg c, vthen_q, vthen_q]
  · rw [e6, nI_1, if_pos (nI_le (by omega) (by omega))]
theorem gap8 {E : Nat → Nat} {k214 : Int32 → Int32 → Option (Int32 × SS)} (hT : T ≤ 72) (h108 : ∀ k, k < T → gI s 108 k = nI (E (O k))) (hO : ∀ k, k < T → O k < T) (hE : ∀ k, k < T → E k < 72) (h106 : ∀ k, k < T → gI s 106 (E k) = nI (D k)) : X8_apart_L153 s (nI T) k214 fuel (0 : Int32) (0 : Int32) (0 : Int32) = k214 (gpW D O (T - 1)).2 (nI (gpW D O (T - 1)).1) := by
  unfold X8_apart_L153
  refine lp_3 (fun k => (gpW D O k).2) (fun k => nI (gpW D O k).1) (fun k => nI k) (T - 1) _ (fun k hk rec => ?_) (fun rec => ?_) fuel (fuel_gt (by omega))
  · have o1 := hO k (by omega)
    have o2 := hO (k + 1) (by omega)
    have p1 := hE _ o1
    have p2 := hE _ o2
    simp only [nI_1]
    rw [if_neg (nI_ge (by omega) (by omega)), grd_eq _ (inb_nI (by omega) (by decide)), nI_clamp (by omega), h108 k (by omega), grd_eq _ (inb_nI (by omega) (by decide)), grd_eq _ (inb_nI (by omega) (by decide)), nI_clamp (by omega), h108 (k + 1) (by omega), grd_eq _ (inb_nI (by omega) (by decide)), nI_clamp (by omega), nI_clamp (by omega), h106 _ o1, h106 _ o2, vthen_q]
    have es : gpW D O (k + 1) = if nI (D (O k)) - nI (D (O (k + 1))) ≤ (gpW D O k).2 then gpW D O k else (k + 1, nI (D (O k)) - nI (D (O (k + 1)))) := rfl
    rw [es]
    by_cases c : nI (D (O k)) - nI (D (O (k + 1))) ≤ (gpW D O k).2
    · rw [if_pos c, if_neg (Int32.not_lt.mpr c)]
    · rw [if_neg c, if_pos (Int32.not_le.mp c), vthen_q]
  · rw [nI_1, if_pos (nI_le (by omega) (by omega))]
end GAP
section SORT8
variable {σ : SS} {p i j : Nat} {E : Nat → Nat}
theorem apart_i (hp : 6 * p + i < 72) (hj : j < 72) (hE : E j = 6 * p + i) {k58 : Int32 → SS → Option (Int32 × SS)} : ∀ a o d n, a < n → a ≤ j → (∀ k, k ≤ j → k ≠ a → d k = nI (E (o k))) → (∀ k, k ≤ j → k ≠ a → E (o k) < 72) → ∃ a' d', X8_apart_L56 (nI p) (nI i) k58 n (nI a) (sA σ 108 d) = k58 (nI a') (sA σ 108 d') ∧ a' ≤ j ∧ ∀ k, k ≤ j → upd d' a' (nI (E j)) k = nI (E (ins (fun l => gI σ 106 (E l)) j a o k)) := by
  intro a
  induction a with
  | zero =>
    intro o d n hn ha h ho
    obtain ⟨n, rfl⟩ : ∃ m, n = m + 1 := ⟨n - 1, by omega⟩
    refine ⟨0, d, ?_, by omega, fun k hk => ?_⟩
    · unfold X8_apart_L56
      rw [lp_succ, if_pos (by decide)]
    · show (if k = 0 then nI (E j) else d k) = nI (E (if k = 0 then j else o k))
      by_cases c : k = 0
      · rw [if_pos c, if_pos c]
      · rw [if_neg c, if_neg c]; exact h k hk c
  | succ a ih =>
    intro o d n hn ha h ho
    obtain ⟨n, rfl⟩ : ∃ m, n = m + 1 := ⟨n - 1, by omega⟩
    have oa := ho a (by omega) (by omega)
    have da := h a (by omega) (by omega)
    have e1 : nI (a + 1) - 1 = nI a := nI_pred a
    by_cases c : gI σ 106 (E (o a)) < gI σ 106 (E j)
    · obtain ⟨a', d', q1, q2, q3⟩ := ih (fun k => if k = a + 1 then o a else o k) (upd d (a + 1) (d a)) n (by omega) (by omega) (fun k hk hka => by
        show (if k = a + 1 then d a else d k) = nI (E (if k = a + 1 then o a else o k))
        by_cases c2 : k = a + 1
        · rw [if_pos c2, if_pos c2]; exact da
        · rw [if_neg c2, if_neg c2]; exact h k hk c2) (fun k hk hka => by
        show E (if k = a + 1 then o a else o k) < 72
        by_cases c2 : k = a + 1
        · rw [if_pos c2]; exact oa
        · rw [if_neg c2]; exact ho k hk c2)
      refine ⟨a', d', ?_, q2, fun k hk => ?_⟩
      · rw [← q1]
        unfold X8_apart_L56
        rw [lp_succ, if_neg (nI_nle (by omega) (by omega)), e1, e6p, grd_eq _ (inb_nI (by omega) (by decide)), nI_clamp (by omega), gI_A, da, grd_eq _ (inb_nI oa (by decide)), grd_eq _ (inb_nI hp (by decide)), nI_clamp (by omega), nI_clamp (by omega), gI_A_ne (by omega), ← hE, if_neg (Int32.not_le.mpr c), grd_eq _ (inb_nI (by omega) (by decide)), vthen_q, nI_clamp (by omega), sI_A, vthen_q]
      · rw [q3 k hk, ins_s, if_pos c]
    · refine ⟨a + 1, d, ?_, ha, fun k hk => ?_⟩
      · unfold X8_apart_L56
        rw [lp_succ, if_neg (nI_nle (by omega) (by omega)), e1, e6p, grd_eq _ (inb_nI (by omega) (by decide)), nI_clamp (by omega), gI_A, da, grd_eq _ (inb_nI oa (by decide)), grd_eq _ (inb_nI hp (by decide)), nI_clamp (by omega), nI_clamp (by omega), gI_A_ne (by omega), ← hE, if_pos (Int32.not_lt.mp c)]
      · rw [ins_s, if_neg c]
        show (if k = a + 1 then nI (E j) else d k) = nI (E (if k = a + 1 then j else o k))
        by_cases c : k = a + 1
        · rw [if_pos c, if_pos c]
        · rw [if_neg c, if_neg c]; exact h k hk c
theorem sortE8 {b U V A B Q : Nat} {N : Nat → Nat} (hH : Hd b U V A B Q σ) (hQ : Q ≤ 12) (hT : psum N Q ≤ 72) (hN : ∀ p, p < Q → N p ≤ 6 ∧ gI σ 77 (12 * b + p) = nI (N p)) {k145 : Int32 → SS → Option (Int32 × SS)} {P : Int32 × SS → Prop} (hk : ∀ d, (∀ k, k < psum N Q → d k = nI (Ef N Q (srt (fun l => gI σ 106 (Ef N Q l)) (psum N Q) k))) → WP (k145 (nI (psum N Q)) (sA σ 108 d)) P) : WP (X8_apart_L32 k145 fuel (0 : Int32) (0 : Int32) σ) P := by
  have eq : ∀ d, fX8_questions (sA σ 108 d) = some (nI Q) := fun d => quest8 (hH.fr (fun k hk => by rw [gI_A_ne (by omega)]) fun k => by rw [gI_A_ne (by omega)])
  have eb : ∀ d p, p < Q → fX8_boxesOf (sA σ 108 d) (nI p) = some (nI (N p)) := fun d p hp => boxesOf_eq hH.1 (by rw [gI_A_ne (by omega)]; exact hH.2.2.1) (by omega) (by rw [gI_A_ne (by omega)]; exact (hN p hp).2)
  have hE : ∀ k, k < psum N Q → Ef N Q k < 72 := fun k hk => by
    obtain ⟨p, i, h1, h2, rfl⟩ := psum_at Q k hk
    rw [Ef_at Q p i h1 h2]
    have := (hN p h1).1
    omega
  rw [← sA_self (σ := σ) (c := 108)]
  unfold X8_apart_L32
  refine wf_3 Q (fun q v2 v3 s => v2 = nI (psum N q) ∧ v3 = nI q ∧ ∃ d, s = sA σ 108 d ∧ ∀ k, k < psum N q → d k = nI (Ef N Q (srt (fun l => gI σ 106 (Ef N Q l)) (psum N q) k))) ⟨rfl, rfl, _, rfl, fun k hk => absurd hk (by show ¬ k < 0; omega)⟩ (by omega) ?_ ?_
  · rintro q _ _ _ rec hq ⟨rfl, rfl, d, rfl, hd⟩ hr
    rw [eq, bnd1_some, if_neg (nI_ge hq (by omega))]
    have n6 := (hN q hq).1
    unfold X8_apart_L43
    refine wf_3 (N q) (fun i v2 v4 s => v2 = nI (psum N q + i) ∧ v4 = nI i ∧ ∃ d, s = sA σ 108 d ∧ ∀ k, k < psum N q + i → d k = nI (Ef N Q (srt (fun l => gI σ 106 (Ef N Q l)) (psum N q + i) k))) ⟨rfl, rfl, d, rfl, hd⟩ (by omega) ?_ ?_
    · rintro i _ _ _ rec2 hi ⟨rfl, rfl, d2, rfl, hd2⟩ hr2
      have hlt := psum_lt hq hi
      have hEj := Ef_at Q q i hq hi
      rw [eb _ q hq, bnd1_some, if_neg (nI_ge hi (by omega))]
      obtain ⟨a', d', q1, q2, q3⟩ := apart_i (σ := σ) (p := q) (i := i) (j := psum N q + i) (E := Ef N Q) (by omega) (by omega) hEj (k58 := fun v17 σ18 =>
        grd (inb v17 72) <|
        vthen (sI σ18 108 (Int32.toNatClampNeg v17) (((6 : Int32) * nI q) + nI i)) fun σ20 =>
        vthen (nI (psum N q + i) + (1 : Int32)) fun v21 =>
        rec2 v21 (nI i + (1 : Int32)) σ20) (psum N q + i) (srt (fun l => gI σ 106 (Ef N Q l)) (psum N q + i)) d2 fuel (fuel_gt (by omega)) (Nat.le_refl _) (fun k hk hka => hd2 k (by omega)) (fun k hk hka => hE _ (by have := srt_lt (key := fun l => gI σ 106 (Ef N Q l)) (psum N q + i) k (by omega); omega))
      rw [q1, nI_clamp (by omega), nI_1, nI_1, e6p, ← hEj]
      refine wp_grd (inb_nI (by omega) (by decide)) (wp_v (wp_v ?_))
      rw [sI_A]
      exact hr2 _ _ _ ⟨rfl, rfl, _, rfl, fun k hk => q3 k (by omega)⟩
    · rintro _ _ _ rec2 ⟨rfl, rfl, d2, rfl, hd2⟩
      rw [eb _ q hq, bnd1_some, if_pos (nI_le (Nat.le_refl _) (by omega)), nI_1]
      exact hr _ _ _ ⟨rfl, rfl, d2, rfl, hd2⟩
  · rintro _ _ _ rec ⟨rfl, rfl, d, rfl, hd⟩
    rw [eq, bnd1_some, if_pos (nI_le (Nat.le_refl _) (by omega))]
    exact hk d hd
end SORT8
