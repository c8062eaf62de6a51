/-! 35: the law's reads: all questions asked. -/
/-- the law's arrays tell the form and the ticks -/
def Lw (ii ct : Nat) (Tn : Nat → Nat) (β : SS) : Prop := lav β ii = true ∧ gR β ii 0 = 300 ∧ lav β ct = true ∧ gR β ct 0 = 12 ∧ gI β ii 0 = nI (qO β) ∧ ∀ p, p < qO β → (gI β ii (16 + 16 * p) = 1 ↔ gI β (fO β + 1) p = 0) ∧ gI β ii (17 + 16 * p) = nI (nO β p) ∧ gI β ii (18 + 16 * p) = gI β (fO β + 4) p ∧ gI β ii (19 + 16 * p) = gI β (fO β + 5) p ∧ gI β ct p = nI (Tn p)
section ASKALL
variable {β τ : SS} {Tn : Nat → Nat} {l v m cl rb pe p ii ct : Nat} {P : Bool × SS → Prop}
theorem Lw.i (h : Lw ii ct Tn β) (ha : Ag β τ) {k : Nat} (hk : k < 300) : lin τ ii (nI k) = true := lin_of (by have := h.1; unfold lav at *; rw [ha.1]; exact this) (by rw [ha.1]; exact h.2.1) hk (by decide)
theorem Lw.c (h : Lw ii ct Tn β) (ha : Ag β τ) {k : Nat} (hk : k < 12) : lin τ ct (nI k) = true := lin_of (by have := h.2.2.1; unfold lav at *; rw [ha.1]; exact this) (by rw [ha.1]; exact h.2.2.2.1) hk (by decide)
theorem Lw.vi (h : Lw ii ct Tn β) (ha : Ag β τ) (k : Nat) : gI τ ii k = gI β ii k := ha.2 _ _ (by have := (of_decide_eq_true h.1).1; unfold Sk; omega)
theorem Lw.vc (h : Lw ii ct Tn β) (ha : Ag β τ) (k : Nat) : gI τ ct k = gI β ct k := ha.2 _ _ (by have := (of_decide_eq_true h.2.2.1).1; unfold Sk; omega)
theorem ix16 (a p : Nat) : nI a + (16 : Int32) * nI p = nI (a + 16 * p) := by rw [show (16 : Int32) = nI 16 from rfl, nI_mul, nI_add]
theorem Prd.tC72 (h : Prd β Tn l v) : tC β Tn ≤ 72 := by
  have e := h.gC
  have := gs_le (m := tkK (qO β) (nO β) Tn) (psum (nO β) (qO β))
  have := h.1.T
  omega
/-- the boxes of a question -/
theorem bxs_s {k835 : Int32 → SS → Option (Bool × SS)} (h : Prd β Tn l v) (hL : Lw ii ct Tn β) (hp : p < qO β) (hQ5 : qO β ≤ 5) (ha : Ag β τ) (hk : ∀ τ', Ag β τ' → WP (k835 1 τ') P) : WP (L_reads_L735 ii ct (nI (tC β Tn)) (nI (dK β v)) (nI p) k835 fuel (1 : Int32) (0 : Int32) τ) P := by
  have hN := h.1.N hp
  have hm := h.mk
  have hd := h.dk
  have ht72 := h.tC72
  obtain ⟨w16, w17, w18, w19, wc⟩ := hL.2.2.2.2.2 p hp
  have hT64 : Tn p < 64 := Nat.lt_of_lt_of_le (h.2.2.2.1 p hp).2 (Nat.pow_le_pow_right (by decide) hN.2)
  unfold L_reads_L735
  refine wf_3 (nO β p) (fun i a b t => a = (1 : Int32) ∧ b = nI i ∧ Ag β t) ⟨rfl, rfl, ha⟩ (by omega) (fun i a b t rec hi hI ih => ?_) (fun a b t rec hI => ?_)
  · obtain ⟨rfl, rfl, a1⟩ := hI
    rw [show (17 : Int32) + (16 : Int32) * nI p = nI (17 + 16 * p) from ix16 17 p, nI_clamp (by omega), nI_clamp (by omega), hL.vi a1, w17, hL.vc a1, wc]
    refine wp_grd (hL.i a1 (by omega)) ?_
    rw [if_neg (nI_ge hi (by omega))]
    refine wp_grd (hL.c a1 (by omega)) ?_
    have eD := h.Dp hp hi
    have hat := h.1.at hp hi
    have htk := tkK_at (Tn := Tn) h.N6 hp hi
    have hbit := bit_has (Tn p) hT64 i (by omega)
    refine wp_vk1 (fun s => s = if (Tn p).testBit i = true then (1 : Int32) else 0) (fun s102 e102 => ?_) (fun j hj => ?_)
    · refine wp_vk1 (fun _ => False) (fun _ q => q.elim) fun j826 _ => ?_
      rw [if_neg (by decide)]
      refine wp_bndp (dark_s h.1 a1 hp hi) fun v104 σ107 ⟨a2, e104⟩ => ?_
      have a2 : Ag β σ107 := a2
      have e104 : v104 = nI (dO β (psum (nO β) p + i)) := e104 hm
      refine wp_vk1 (fun s => s = nI (dO β (psum (nO β) p + i))) (fun s108 e108 => ?_) (fun j hj => ?_)
      · rw [if_pos (e104.trans e108.symm)]
        refine wp_bndp (rank_s h.1 a2 hp hi) fun v109 σ112 ⟨a3, e109⟩ => ?_
        have a3 : Ag β σ112 := a3
        have e109 : v109 = itr (rkW (dO β) (psum (nO β) p + i)) 1 (psum (nO β) (qO β)) := e109 hm
        refine wp_vk1 (fun s => s = itr (rkW (dO β) (psum (nO β) p + i)) 1 (psum (nO β) (qO β))) (fun s113 e113 => ?_) (fun j hj => ?_)
        · rw [if_pos (e109.trans e113.symm)]
          exact ih _ _ _ ⟨rfl, nI_1 i, a3⟩
        · by_cases c : (Tn p).testBit i = true
          · rw [e102, if_pos c, if_neg (by decide)]
            exact hj _ ((h.rank hat).1 (htk.mpr c)).symm
          · rw [e102, if_neg c, if_pos rfl]
            refine hj _ ?_
            rw [(h.rank hat).2 (fun q => c (htk.mp q)), nI_1, Nat.add_comm]
      · by_cases c : (Tn p).testBit i = true
        · rw [e102, if_pos c, if_neg (by decide)]
          exact hj _ (by rw [eD, if_pos c])
        · rw [e102, if_neg c, if_pos rfl]
          exact hj _ (by rw [eD, if_neg c]; rfl)
    · by_cases c : (Tn p).testBit i = true
      · rw [if_pos (hbit.mpr c)]; exact hj _ (by rw [if_pos c])
      · rw [if_neg (fun q => c (hbit.mp q))]; exact hj _ (by rw [if_neg c])
  · obtain ⟨rfl, rfl, a1⟩ := hI
    rw [show (17 : Int32) + (16 : Int32) * nI p = nI (17 + 16 * p) from ix16 17 p, nI_clamp (by omega), hL.vi a1, w17]
    refine wp_grd (hL.i a1 (by omega)) ?_
    rw [if_pos (nI_le (Nat.le_refl _) (by omega))]
    exact hk t a1
/-- a question is asked -/
theorem ask5_s {J : Int32 → SS → Option (Bool × SS)} (h : Prd β Tn l v) (hQ : 1 ≤ qO β) (h0 : (Tn 0).testBit 0 = false) (e3 : gI β 32 3 = nI m) (e4 : gI β 32 4 = nI cl) (e5 : gI β 32 5 = nI rb) (hm : 1 ≤ m ∧ m ≤ 1000) (hcl : 1 ≤ cl ∧ cl ≤ 1000) (hrb : 1 ≤ rb ∧ rb ≤ 1000) (hp : p < qO β) (ha : Ag β τ) (hJ : ∀ τ', Ag β τ' → WP (J 1 τ') P) :
    WP (bnd (fX7_judged τ (nI p) (0 : Int32)) fun v94 σ97 =>
        vthen J fun j730 =>
        vthen (fun (σ124 : SS) => j730 (0 : Int32) σ124) fun j729 =>
        if v94 = anE β Tn v m p then (
          bnd (fX7_judged σ97 (nI p) (1 : Int32)) fun v125 σ128 =>
          if v125 = seE β Tn v m p then (
            bnd (fX7_judged σ128 (nI p) (2 : Int32)) fun v129 σ132 =>
            if v129 = ruE β Tn v m rb p then (
              bnd (fX7_judged σ132 (nI p) (3 : Int32)) fun v133 σ136 =>
              vthen (fun (s137 : Int32) =>
                if v133 = s137 then (
                  bnd (fX7_judged σ136 (nI p) (4 : Int32)) fun v138 σ141 =>
                  if v138 = gnE β Tn v m p then j730 (1 : Int32) σ141 else j729 σ141
                  ) else j729 σ136) fun j710 =>
              if pop12 (nI (Tn p)) ≤ 0 then j710 (0 : Int32) else j710 (nI (dK β v))
              ) else j729 σ132
            ) else j729 σ128
          ) else j729 σ97) P := by
  have hmk := h.mk
  have hT64 : Tn p < 64 := Nat.lt_of_lt_of_le (h.2.2.2.1 p hp).2 (Nat.pow_le_pow_right (by decide) (h.1.N hp).2)
  have J0 := h.jvE hQ h0 e3 e4 e5 hm hcl hrb hp
  refine wp_bndp (judged_s h.1 ha hp (what := 0) (by decide)) fun v94 σ97 ⟨a1, y1⟩ => ?_
  obtain ⟨an, se, ru, st, gn, J1, q1⟩ := y1 hmk
  have q1 : v94 = an := q1
  rw [q1, ← (J0.one J1).1]
  refine wp_v (wp_v ?_)
  rw [if_pos rfl]
  refine wp_bndp (judged_s h.1 a1 hp (what := 1) (by decide)) fun v125 σ128 ⟨a2, y2⟩ => ?_
  obtain ⟨an2, se2, ru2, st2, gn2, J2, q2⟩ := y2 hmk
  have q2 : v125 = se2 := q2
  rw [q2, ← (J0.one J2).2.1, if_pos rfl]
  refine wp_bndp (judged_s h.1 a2 hp (what := 2) (by decide)) fun v129 σ132 ⟨a3, y3⟩ => ?_
  obtain ⟨an3, se3, ru3, st3, gn3, J3, q3⟩ := y3 hmk
  have q3 : v129 = ru3 := q3
  rw [q3, ← (J0.one J3).2.2.1, if_pos rfl]
  refine wp_bndp (judged_s h.1 a3 hp (what := 3) (by decide)) fun v133 σ136 ⟨a4, y4⟩ => ?_
  obtain ⟨an4, se4, ru4, st4, gn4, J4, q4⟩ := y4 hmk
  have q4 : v133 = st4 := q4
  refine wp_vk1 (fun s => s = stE β Tn v p) (fun s137 e137 => ?_) (fun j hj => ?_)
  · rw [q4, ← (J0.one J4).2.2.2.1, if_pos e137.symm]
    refine wp_bndp (judged_s h.1 a4 hp (what := 4) (by decide)) fun v138 σ141 ⟨a5, y5⟩ => ?_
    obtain ⟨an5, se5, ru5, st5, gn5, J5, q5⟩ := y5 hmk
    have q5 : v138 = gn5 := q5
    rw [q5, ← (J0.one J5).2.2.2.2, if_pos rfl]
    exact hJ _ a5
  · by_cases c : Tn p = 0
    · rw [if_pos ((pop_z _ hT64).mpr c)]; exact hj _ (by unfold stE; rw [if_pos c]; rfl)
    · rw [if_neg (fun q => c ((pop_z _ hT64).mp q))]; exact hj _ (by unfold stE; rw [if_neg c])
/-- the sums the law keeps -/
def ulE (β : SS) (Tn : Nat → Nat) (v m p : Nat) (n : Int32) : Int32 := if anE β Tn v m p = gI β 30 p then n else n + 1
set_option maxHeartbeats 4000000 in
theorem asked_s {k900 : Int32 → Int32 → Int32 → Int32 → Int32 → SS → Option (Bool × SS)} (h : Prd β Tn l v) (hL : Lw ii ct Tn β) (hQ : 1 ≤ qO β) (hQ5 : qO β ≤ 5) (h0 : (Tn 0).testBit 0 = false) (e3 : gI β 32 3 = nI m) (e4 : gI β 32 4 = nI cl) (e5 : gI β 32 5 = nI rb) (e6 : gI β 32 6 = nI pe) (hm : 1 ≤ m ∧ m ≤ 1000) (hcl : 1 ≤ cl ∧ cl ≤ 1000) (hrb : 1 ≤ rb ∧ rb ≤ 1000) (ha : Ag β τ)
    (hk : ∀ τ', Ag β τ' → WP (k900 1 (itr (smQ 0 (seE β Tn v m) (gnE β Tn v m)) 0 (qO β)) (itr (smQ 1 (seE β Tn v m) (gnE β Tn v m)) 0 (qO β)) (itr (smQ 2 (seE β Tn v m) (gnE β Tn v m)) 0 (qO β)) (itr (ulE β Tn v m) 0 (qO β)) τ') P) :
    WP (L_reads_L449 ii (nI m) (nI rb) (nI pe) ct (nI (tC β Tn)) (nI (dK β v)) k900 fuel (1 : Int32) (0 : Int32) (0 : Int32) (0 : Int32) (0 : Int32) (0 : Int32) τ) P := by
  unfold L_reads_L449
  refine wf_7 (qO β) (fun i a b c d e g t => a = (1 : Int32) ∧ b = itr (smQ 0 (seE β Tn v m) (gnE β Tn v m)) 0 i ∧ c = itr (smQ 1 (seE β Tn v m) (gnE β Tn v m)) 0 i ∧ d = itr (smQ 2 (seE β Tn v m) (gnE β Tn v m)) 0 i ∧ e = itr (ulE β Tn v m) 0 i ∧ g = nI i ∧ Ag β t) ⟨rfl, rfl, rfl, rfl, rfl, rfl, ha⟩ (by omega) (fun p a b c d e g t rec hp hI ih => ?_) (fun a b c d e g t rec hI => ?_)
  · obtain ⟨rfl, rfl, rfl, rfl, rfl, rfl, a1⟩ := hI
    obtain ⟨w16, w17, w18, w19, wc⟩ := hL.2.2.2.2.2 p hp
    have hN := h.1.N hp
    have hT64 : Tn p < 64 := Nat.lt_of_lt_of_le (h.2.2.2.1 p hp).2 (Nat.pow_le_pow_right (by decide) hN.2)
    refine wp_grd (hL.i (k := 0) a1 (by decide)) ?_
    rw [hL.vi a1, hL.2.2.2.2.1, if_neg (nI_ge hp (by omega)), if_neg (show ¬ (1 : Int32) = 0 by decide)]
    have e84 : fJ6_bitCount_0f7a4 t (gI t ct (Int32.toNatClampNeg (nI p))) = pop12 (nI (Tn p)) := by rw [nI_clamp (by omega), hL.vc a1, wc, popc t _ hT64]
    have e86 : gI t ii (Int32.toNatClampNeg ((18 : Int32) + ((16 : Int32) * nI p))) = gI β (fO β + 4) p := by rw [show (18 : Int32) + (16 : Int32) * nI p = nI (18 + 16 * p) from ix16 18 p, nI_clamp (by omega), hL.vi a1, w18]
    rw [e84, e86]
    refine wp_grd (hL.c a1 (by omega)) (wp_v (wp_grd (by rw [show (18 : Int32) + (16 : Int32) * nI p = nI (18 + 16 * p) from ix16 18 p]; exact hL.i a1 (by omega)) (wp_v ?_)))
    have e30 : gI β 30 p = nI (Tn p) := (h.2.2.2.1 p hp).1
    refine vals_s (β := β) (Tn := Tn) (v := v) (m := m) (rb := rb) (pe := pe) (p := p) hT64 h.dk hm.2 hrb.2 (by omega) (fun k hk' => hL.i a1 hk') (by rw [hL.vi a1]; exact w16) (by rw [hL.vi a1]; exact w19) ((hL.vc a1 p).trans wc) e6 ?_
    refine ask5_s h hQ h0 e3 e4 e5 hm hcl hrb hp a1 fun τ2 a2 => ?_
    refine bxs_s h hL hp hQ5 a2 fun τ3 a3 => ?_
    refine wp_v (wp_vk1 (fun s => s = if seE β Tn v m p = 1 then (1 : Int32) else 0) (fun s117 e117 => ?_) (fun j hj => ?_))
    · refine wp_v (wp_vk1 (fun s => s = if seE β Tn v m p = 2 then (1 : Int32) else 0) (fun s119 e119 => ?_) (fun j hj => ?_))
      · refine wp_v (wp_grd (hL.c a3 (by omega)) ?_)
        have f1 : itr (smQ 1 (seE β Tn v m) (gnE β Tn v m)) 0 p + s117 = itr (smQ 1 (seE β Tn v m) (gnE β Tn v m)) 0 (p + 1) := by
          show _ = (if (1 : Nat) = 0 then itr (smQ 1 (seE β Tn v m) (gnE β Tn v m)) 0 p + gnE β Tn v m p else if seE β Tn v m p = nI 1 then itr (smQ 1 (seE β Tn v m) (gnE β Tn v m)) 0 p + 1 else itr (smQ 1 (seE β Tn v m) (gnE β Tn v m)) 0 p)
          rw [e117, if_neg (show ¬ (1 : Nat) = 0 by decide)]
          by_cases c : seE β Tn v m p = 1
          · rw [if_pos c, if_pos (show seE β Tn v m p = nI 1 from c)]
          · rw [if_neg c, if_neg (show ¬ seE β Tn v m p = nI 1 from c)]; exact Int32.add_zero _
        have f2 : itr (smQ 2 (seE β Tn v m) (gnE β Tn v m)) 0 p + s119 = itr (smQ 2 (seE β Tn v m) (gnE β Tn v m)) 0 (p + 1) := by
          show _ = (if (2 : Nat) = 0 then itr (smQ 2 (seE β Tn v m) (gnE β Tn v m)) 0 p + gnE β Tn v m p else if seE β Tn v m p = nI 2 then itr (smQ 2 (seE β Tn v m) (gnE β Tn v m)) 0 p + 1 else itr (smQ 2 (seE β Tn v m) (gnE β Tn v m)) 0 p)
          rw [e119, if_neg (show ¬ (2 : Nat) = 0 by decide)]
          by_cases c : seE β Tn v m p = 2
          · rw [if_pos c, if_pos (show seE β Tn v m p = nI 2 from c)]
          · rw [if_neg c, if_neg (show ¬ seE β Tn v m p = nI 2 from c)]; exact Int32.add_zero _
        rw [f1, f2, nI_clamp (show p < 2 ^ 31 by omega), hL.vc a3, wc, nI_1]
        have f3 : itr (ulE β Tn v m) 0 (p + 1) = if anE β Tn v m p = nI (Tn p) then itr (ulE β Tn v m) 0 p else itr (ulE β Tn v m) 0 p + 1 := by
          show (if anE β Tn v m p = gI β 30 p then itr (ulE β Tn v m) 0 p else itr (ulE β Tn v m) 0 p + 1) = _
          rw [e30]
        by_cases c : anE β Tn v m p = nI (Tn p)
        · rw [if_pos c]
          refine wp_v (ih _ _ _ _ _ _ _ ⟨rfl, rfl, rfl, rfl, ?_, rfl, a3⟩)
          rw [f3, if_pos c]; exact Int32.add_zero _
        · rw [if_neg c]
          refine wp_v (ih _ _ _ _ _ _ _ ⟨rfl, rfl, rfl, rfl, ?_, rfl, a3⟩)
          rw [f3, if_neg c]
      · by_cases c : seE β Tn v m p = 2
        · rw [if_pos c]; exact hj _ (by rw [if_pos c])
        · rw [if_neg c]; exact hj _ (by rw [if_neg c])
    · by_cases c : seE β Tn v m p = 1
      · rw [if_pos c]; exact hj _ (by rw [if_pos c])
      · rw [if_neg c]; exact hj _ (by rw [if_neg c])
  · obtain ⟨rfl, rfl, rfl, rfl, rfl, rfl, a1⟩ := hI
    refine wp_grd (hL.i (k := 0) a1 (by decide)) ?_
    rw [hL.vi a1, hL.2.2.2.2.1, if_pos (nI_le (Nat.le_refl _) (by omega))]
    exact hk t a1
end ASKALL
