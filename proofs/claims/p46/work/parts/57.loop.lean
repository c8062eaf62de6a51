/-! 57: eight forms, one after another; the law is true. -/
section LOOP
variable {rr ii : Nat} {σ : SS}
set_option maxHeartbeats 4000000 in
theorem law_loop {p : Nat × (Nat → Int32)} (hp : p.1 ≤ 260) (h : Iv rr ii σ) (hir : ii ≠ rr) : WP (L_law_L141 rr ii p fuel (1 : Int32) (0 : Int32) σ) (fun r => r.1 = true) := by
  unfold L_law_L141
  refine wf_3 8 (fun i a b c => a = (1 : Int32) ∧ b = nI i ∧ Iv rr ii c) ⟨rfl, rfl, h⟩ (by decide) (fun i a b c rec hi hI ih => ?_) (fun a b c rec hI => ?_)
  · obtain ⟨rfl, rfl, hc⟩ := hI
    refine wp_grd (inb_nI (by omega) (by decide)) ?_
    rw [if_neg (c := (8 : Int32) ≤ nI i) (nI_ge hi (by decide)), if_neg (c := (1 : Int32) = 0) (by decide)]
    have hvr := hc.2.2.1.1
    have hlr := hc.2.2.1.2
    refine wp_grd (lin_of (n := 1) (k := 0) hvr hlr (by decide) (by decide)) ?_
    refine wp_vk1 (fun _ => True) (fun s16 _ => ?_) (fun j171 hj => ?_)
    · refine wp_vv fun σ17 e17 => ?_
      have k17 : Kn rr c σ17 := ⟨by rw [e17]; rfl, fun c' k hk => by rw [e17, gI_nk hk]⟩
      refine wp_bndp (next_w hvr hlr k17) fun v18 σ21 ⟨⟨n1, hn1, en1⟩, k21⟩ => ?_
      have en1 : v18 = nI n1 := en1
      have k21 : Kn rr c σ21 := k21
      refine wp_vv fun v22 e22 => ?_
      have e22 : v22 = nI (14 + n1 % 20) := by
        rw [e22, en1, show (20 : Int32) = nI 20 from rfl, rem_nI (by omega) (by decide) (by decide)]
        exact nI_add 14 _
      refine wp_bndp (next_w hvr hlr k21) fun v23 σ26 ⟨⟨n2, hn2, en2⟩, k26⟩ => ?_
      have en2 : v23 = nI n2 := en2
      have k26 : Kn rr c σ26 := k26
      refine wp_vv fun v27 e27 => ?_
      have e27 : v27 = nI (14 + n2 % 20) := by
        rw [e27, en2, show (20 : Int32) = nI 20 from rfl, rem_nI (by omega) (by decide) (by decide)]
        exact nI_add 14 _
      refine wp_grd (inb_nI hi (by decide)) ?_
      have I26 : Iv rr ii σ26 := hc.kn k26
      have m1 := Nat.mod_lt n1 (show 0 < 20 by decide)
      have m2 := Nat.mod_lt n2 (show 0 < 20 by decide)
      rw [e22, e27]
      refine wp_bndp (I26.draws hir (U := 14 + n1 % 20) (V := 14 + n2 % 20) (by omega) (by omega)) fun b30 σ32 ⟨eb, J32, eU, eV, q, hq, eq, hRq⟩ => ?_
      have eb : b30 = true := eb
      have J32 : Jv rr ii σ32 := J32
      have eU : uO σ32 = 14 + n1 % 20 := eU
      have eV : vO σ32 = 14 + n2 % 20 := eV
      have eq : gI σ32 ii 0 = nI q := eq
      have hRq : 1 ≤ q → Rq rr ii σ32 := hRq
      refine wp_vk (fun a s => a = (1 : Int32) ∧ Jv rr ii s) (fun s33 σ34 hK => ?_) (fun j259 hj9 => ?_)
      · obtain ⟨rfl, J34⟩ := hK
        refine wp_bndp (next_w J34.2.2.2.1.1 J34.2.2.2.1.2 (τ := σ34) ⟨rfl, fun _ _ _ => rfl⟩) fun v35 σ38 ⟨⟨n3, hn3, en3⟩, k38⟩ => ?_
        have en3 : v35 = nI n3 := en3
        have J38 : Jv rr ii σ38 := J34.kn k38
        have m3 := Nat.mod_lt n3 (show 0 < 200 by decide)
        rw [en3, show (200 : Int32) = nI 200 from rfl, rem_nI (by omega) (by decide) (by decide)]
        refine wp_bndp (noise_j J38 (K := n3 % 200) (by omega)) fun v39 σ42 J42 => ?_
        have J42 : Jv rr ii σ42 := J42
        refine wp_vk1 (fun _ => False) (fun _ q => q.elim) (fun j303 _ => ?_)
        rw [if_neg (c := (1 : Int32) = 0) (by decide)]
        refine wp_bndp (corners_j J42) fun b45 σ47 ⟨e45, J47⟩ => ?_
        have e45 : b45 = true := e45
        have J47 : Jv rr ii σ47 := J47
        rw [if_pos e45]
        refine wp_bndp (judges_j J47) fun b49 σ51 ⟨e49, J51⟩ => ?_
        have e49 : b49 = true := e49
        have J51 : Jv rr ii σ51 := J51
        rw [if_pos e49]
        refine wp_bndp (scans_j J51) fun b53 σ55 ⟨e53, J55⟩ => ?_
        have e53 : b53 = true := e53
        have J55 : Jv rr ii σ55 := J55
        rw [if_pos e53]
        exact ih _ _ _ ⟨rfl, nI_1 i, J55.iv⟩
      · refine wp_vk1 (fun _ => False) (fun _ q => q.elim) (fun j258 _ => ?_)
        rw [if_pos eb]
        refine wp_grd (lin_of (n := 300) (k := 0) J32.2.2.2.2.1.1 J32.2.2.2.2.1.2 (by decide) (by decide)) ?_
        refine wp_vk1 (fun s => Jv rr ii s) (fun σ58 J58 => ?_) (fun j232 hj2 => ?_)
        · refine wp_bndp (corners_j J58) fun b60 σ62 ⟨e60, J62⟩ => ?_
          have e60 : b60 = true := e60
          have J62 : Jv rr ii σ62 := J62
          rw [if_pos e60]
          refine wp_bndp (judges_j J62) fun b64 σ66 ⟨e64, J66⟩ => ?_
          have e64 : b64 = true := e64
          have J66 : Jv rr ii σ66 := J66
          rw [if_pos e64]
          refine wp_bndp (scans_j J66) fun b68 σ70 ⟨e68, J70⟩ => ?_
          have e68 : b68 = true := e68
          have J70 : Jv rr ii σ70 := J70
          rw [if_pos e68]
          exact hj9 _ _ ⟨rfl, J70⟩
        · rw [eq]
          rcases Nat.eq_zero_or_pos q with q0 | q0
          · rw [if_pos (c := nI q = 0) (by rw [q0]; rfl)]
            exact hj2 _ J32
          · rw [if_neg (c := nI q = 0) (nI_ne0 q0 (by omega)), ← eU, ← eV]
            refine wp_bndp (J32.reads (hRq q0)) fun b72 σ74 ⟨e72, J74⟩ => ?_
            have e72 : b72 = true := e72
            rw [if_pos e72]
            exact hj2 _ J74
    · by_cases hle : nI p.1 ≤ nI i
      · rw [if_pos hle]; exact hj _ trivial
      · rw [if_neg hle]
        rw [le_i, nI_toInt (by omega), nI_toInt (by omega)] at hle
        exact wp_grd (inb_nI (by omega) (by omega)) (hj _ trivial)
  · obtain ⟨rfl, rfl, hc⟩ := hI
    refine wp_grd (inb_nI (by decide) (by decide)) ?_
    rw [if_pos (c := (8 : Int32) ≤ nI 8) (by decide)]
    exact wp_grd (by decide) ⟨_, rfl, show i2b (1 : Int32) = true by decide⟩
end LOOP
set_option maxHeartbeats 4000000 in
theorem law_true : LawTrue := by
  intro p hp
  suffices h : WP (fL_law s0 p) (fun r => r.1 = true) by
    obtain ⟨⟨b, s⟩, e, h⟩ := h
    have h : b = true := h
    subst h
    exact ⟨s, e⟩
  obtain ⟨a1, a2, a3, a4, a5, a6⟩ := s0_ref
  obtain ⟨b1, b2, b3, b4, b5, b6, b7⟩ := s0_int
  unfold fL_law
  refine wp_vv fun c2 ec2 => ?_
  refine wp_vv fun σ1 e1 => ?_
  have ec : c2 = 2000 := by omega
  refine wp_vk1 (fun _ => True) (fun s3 _ => ?_) (fun j27 hj => ?_)
  · have v1 : lav σ1 c2 = true := by rw [e1, ec2]; exact lav_mk _ _
    have l1 : gR σ1 c2 0 = 1 := by rw [e1, gR_mkL, if_neg (by omega), if_pos (by omega)]
    refine wp_grd (lin_of (n := 1) (k := 0) v1 l1 (by decide) (by decide)) ?_
    refine wp_vv fun σ5 e5 => ?_
    have f5 : ∀ c k, c ≠ 2000 → gI σ5 c k = gI s0 c k := fun c k hc => by rw [e5, gI_nk (by omega), e1, gI_mkL, if_neg (by omega)]
    have g5 : gR σ5 = gR σ1 := by rw [e5]; rfl
    have r5 : ∀ c k, c ≠ 0 → c ≠ 2000 → gR σ5 c k = gR s0 c k := fun c k h1 h2 => by rw [g5, e1, gR_mkL, if_neg h1, if_neg (by omega)]
    have n5 : gR σ5 0 0 = 1 := by rw [g5, e1, gR_mkL, if_pos rfl, if_pos rfl, a6]
    have s5 : gR σ5 1 2 = 3 := (r5 1 2 (by decide) (by decide)).trans a1
    have t5 : gR σ5 1 5 = 10 := (r5 1 5 (by decide) (by decide)).trans a3
    have x1 : gI σ5 3 0 = nI 24 := (f5 3 0 (by decide)).trans b1
    have x2 : gI σ5 3 1 = nI 24 := (f5 3 1 (by decide)).trans b2
    have x3 : gI σ5 10 0 = 0 := (f5 10 0 (by decide)).trans b3
    have x4 : gI σ5 10 5 = 0 := (f5 10 5 (by decide)).trans b4
    have x6 : gI σ5 1 8 = nI 1 := (f5 1 8 (by decide)).trans b6
    have x7 : gI σ5 64 0 = 0 := (f5 64 0 (by decide)).trans b7
    have xz : ∀ k, k < 576 → gI σ5 4 k = 0 := fun k hk => (f5 4 k (by decide)).trans (s0_dot k hk)
    have xs : Stg σ5 := fun k hk => by
      obtain ⟨n, h1, h2⟩ := s0_stg k hk
      exact ⟨n, h1, (f5 32 k (by decide)).trans h2⟩
    have q0 : fX7_count σ5 (0 : Int32) = some (nI 24) := by unfold fX7_count; rw [if_pos rfl, s5, x1]
    have q1 : fX7_count σ5 (1 : Int32) = some (nI 24) := by unfold fX7_count; rw [if_neg (by decide), if_pos rfl, s5, x2]
    have q7 : fX7_count σ5 (7 : Int32) = some (nI 1) := (count7 σ5).trans (by rw [x6])
    have q2 : fX7_count σ5 (2 : Int32) = some (0 : Int32) := by unfold fX7_count; rw [if_neg (by decide), if_neg (by decide), if_pos rfl, t5, x4]
    have qs : fX7_sheet σ5 (0 : Int32) = some ((-2147483648 : Int32), σ5) := by unfold fX7_sheet; rw [t5, x3, if_pos rfl]
    have qu : fX7_up σ5 = some ((-1 : Int32), σ5) := by unfold fX7_up; rw [t5, x3, if_pos rfl]
    have ql : fX7_lay σ5 = some ((-1 : Int32), σ5) := by unfold fX7_lay; rw [t5, x3, if_pos rfl]
    have qp : fX7_print σ5 (5 : Int32) = some ((-1 : Int32), σ5) := by unfold fX7_print; rw [t5, x3, if_pos rfl]
    have qv : fX7_level σ5 = some (1 : Int32) := level_0 s5 x1 x2 xz
    have qn : fX6_isNothing σ5 64 = true := by unfold fX6_isNothing; rw [x7]; decide
    have qb : fX7_back σ5 (0 : Int32) = some (false, σ5) := by
      unfold fX7_back
      rw [if_neg (by decide), if_neg (by decide), grd_eq _ (show inb (0 : Int32) 3 = true by decide), show ((0 : Int32)).toNatClampNeg = 0 from rfl, (r5 9 0 (by decide) (by decide)).trans a5, if_pos qn]
    rw [bnd1_of _ q0]
    refine wp_vk (fun a s => a = (1 : Int32) ∧ gR s = gR σ5 ∧ ∀ c k, ¬ (33 ≤ c ∧ c ≤ 44) → gI s c k = gI σ5 c k) (fun s9 σ10 hK => ?_) (fun j130 hj0 => ?_)
    · obtain ⟨rfl, gt, ft⟩ := hK
      refine wp_vv fun c12 ec12 => ?_
      refine wp_vv fun σ11 e11 => ?_
      have ec' : c12 = 2001 := by rw [ec12, gt, n5]
      have n11 : gR σ11 0 0 = 2 := by rw [e11, gR_mkL, if_pos rfl, if_pos rfl, gt, n5]
      have r11 : ∀ c k, c ≠ 0 → c ≠ 2001 → gR σ11 c k = gR σ5 c k := fun c k h1 h2 => by rw [e11, gR_mkL, if_neg h1, if_neg (by rw [gt, n5]; omega), gt]
      have f11 : ∀ c k, c ≠ 2001 → ¬ (33 ≤ c ∧ c ≤ 44) → gI σ11 c k = gI σ5 c k := fun c k h1 h2 => by rw [e11, gI_mkL, if_neg (by rw [gt, n5]; omega)]; exact ft c k h2
      have S11 : Sc σ11 := (s0_sc.fr (τ := σ11) (fun k => (r11 1 k (by decide) (by decide)).trans (r5 1 k (by decide) (by decide))) (fun c k c1 c2 => (f11 c k (by omega) (by omega)).trans (f5 c k (by omega))) (fun k => (f11 32 k (by decide) (by omega)).trans (f5 32 k (by decide)))).1
      refine law_loop hp ⟨S11, ?_, ⟨?_, ?_⟩, ⟨?_, ?_⟩, ?_, 1, by decide, ?_⟩ (by omega)
      · rw [f11 1 1 (by decide) (by omega), f5 1 1 (by decide)]; exact b5
      · exact decide_eq_true ⟨by omega, by omega⟩
      · rw [ec, r11 2000 0 (by decide) (by decide), g5, ← ec]; exact l1
      · exact decide_eq_true ⟨by omega, by omega⟩
      · rw [e11, gR_mkL, if_neg (by omega), if_pos (by omega)]
      · rw [r11 9 0 (by decide) (by decide), r5 9 0 (by decide) (by decide)]; exact a5
      · rw [f11 1 8 (by decide) (by omega)]; exact x6
    · refine wp_vk1 (fun _ => False) (fun _ q => q.elim) (fun j129 _ => ?_)
      rw [if_pos (c := nI 24 = (24 : Int32)) rfl, bnd1_of _ q1, if_pos (c := nI 24 = (24 : Int32)) rfl, bnd1_of _ q7, if_pos (c := nI 1 = (1 : Int32)) rfl, bnd1_of _ q2, if_pos (c := (0 : Int32) = 0) rfl, bnd_of _ qs, if_pos (c := (-2147483648 : Int32) = (-2147483648 : Int32)) rfl, bnd_of _ qu, if_pos (c := (-1 : Int32) = (-1 : Int32)) rfl, bnd_of _ ql, if_pos (c := (-1 : Int32) = (-1 : Int32)) rfl, bnd_of _ qp, if_pos (c := (-1 : Int32) = (-1 : Int32)) rfl, bnd1_of _ qv, if_pos (c := (1 : Int32) = (1 : Int32)) rfl, bnd_of _ qb, if_neg (c := false = true) (by decide)]
      refine wp_bndp (marked_0 s5 x1 x2 xz xs) fun v109 σ112 ⟨h1, h2, h3⟩ => ?_
      have h1 : v109 = 0 := h1
      rw [if_pos h1]
      exact hj0 _ _ ⟨rfl, h2, h3⟩
  · by_cases h0 : nI p.1 = 0
    · rw [if_pos h0]; exact hj _ trivial
    · rw [if_neg h0]
      have hpos : 0 < p.1 := Nat.pos_of_ne_zero fun e => h0 (by rw [e]; rfl)
      exact wp_grd (inb_nI (i := 0) hpos (by omega)) (hj _ trivial)
