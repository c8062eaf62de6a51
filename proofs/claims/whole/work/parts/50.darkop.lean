/-! Dark kept. -/
theorem psum_at {N : Nat → Nat} : ∀ Q k, k < psum N Q → ∃ p i, p < Q ∧ i < N p ∧ k = psum N p + i
  | 0, k, h => absurd h (by show ¬ k < 0; omega)
  | Q + 1, k, h => by
    by_cases c : k < psum N Q
    · obtain ⟨p, i, h1, h2, h3⟩ := psum_at Q k c
      exact ⟨p, i, by omega, h2, h3⟩
    · have h2 : k < psum N Q + N Q := h
      exact ⟨Q, k - psum N Q, by omega, by omega, by omega⟩
theorem psum_lt {N : Nat → Nat} {Q p i : Nat} (hp : p < Q) (hi : i < N p) : psum N p + i < psum N Q := by
  have key : ∀ d, psum N (p + 1) ≤ psum N (p + 1 + d) := by
    intro d
    induction d with
    | zero => exact Nat.le_refl _
    | succ d ih => show psum N (p + 1) ≤ psum N (p + 1 + d) + N (p + 1 + d); omega
  have h := key (Q - (p + 1))
  rw [show p + 1 + (Q - (p + 1)) = Q by omega] at h
  have e : psum N (p + 1) = psum N p + N p := rfl
  omega
/-- both sides' contexts out of the relation, where a form is told -/
theorem RAll.ctx {s f : Nat} {σ : SS} (h : RAll s f σ) (ht : gI σ f 0 = 1) : ∃ (w q spk b U V A B Q : Nat) (N cx cy : Nat → Nat), C7 s f w q spk (gI σ 88 0) (gI σ 88 2) (gI σ 83) U V A B (psum N Q) cx cy σ ∧ C8 w q spk (gI σ 88 0) (gI σ 88 2) (gI σ 83) b U V A B Q N cx cy σ ∧ gI σ f 5 = nI Q ∧ gI σ 73 12 = 1 ∧ ∀ p, p < Q → gI σ (f + 2) p = nI (psum N p) ∧ gI σ (f + 3) p = nI (N p) ∧ (gI σ (f + 4) p = gI σ 78 (12 * b + p) ∧ inR (gI σ 78 (12 * b + p)) 0 63) ∧ (gI σ (f + 5) p = gI σ 79 (12 * b + p) ∧ inR (gI σ 79 (12 * b + p)) 0 99) ∧ ((gI σ (f + 1) p = 0 ∧ gI σ 76 (12 * b + p) = 1) ∨ (gI σ (f + 1) p = 1 ∧ gI σ 76 (12 * b + p) = 2)) := by
  obtain ⟨hs, hf, -⟩ := id h.1
  obtain ⟨w, q, hw, hq, e1, e2, e3, e4, hd⟩ := h.2.2.1
  obtain ⟨spk, hspk, e88⟩ := h.2.2.2.2.1.spk
  have h5 := h.2.2.2.2.1
  obtain ⟨b, hb, e11, ⟨o1, -⟩ | ⟨o1, o2, U, V, A, B, Q, N, u1, u2, u3, u4, u5, u6, u7, u8⟩⟩ := h.2.2.2.2.2.2.2.1
  · rw [o1] at ht; exact absurd ht (by decide)
  have hbox : ∀ p, p < Q → ∀ i, i < N p → (gI σ (f + 6) (psum N p + i) = nI (gI σ (f + 6) (psum N p + i)).toNatClampNeg ∧ (gI σ (f + 6) (psum N p + i)).toNatClampNeg + A ≤ U) ∧ (gI σ (f + 7) (psum N p + i) = nI (gI σ (f + 7) (psum N p + i)).toNatClampNeg ∧ (gI σ (f + 7) (psum N p + i)).toNatClampNeg + B ≤ V) := fun p hp i hi => by
    obtain ⟨⟨x1, x2⟩, y1, y2⟩ := (u8 p hp).2.2.2.2.2.2.2 i hi
    rw [x1, y1]
    obtain ⟨m, hm, em⟩ := in_of (x := gI σ 80 (6 * (12 * b + p) + i)) (w := 41) (by decide) (by have := x2.1; have := x2.2; omega)
    obtain ⟨n, hn, en⟩ := in_of (x := gI σ 81 (6 * (12 * b + p) + i)) (w := 41) (by decide) (by have := y2.1; have := y2.2; omega)
    have k1 := x2.2
    have k2 := y2.2
    rw [em, nI_toInt (by omega)] at k1
    rw [en, nI_toInt (by omega)] at k2
    rw [em, en, nI_clamp (by omega), nI_clamp (by omega)]
    exact ⟨⟨rfl, by omega⟩, rfl, by omega⟩
  have hT : psum N Q ≤ 72 := by have := psum_le (N := N) Q fun p hp => (u8 p hp).1.2; omega
  refine ⟨w, q, spk, b, U, V, A, B, Q, N, fun k => (gI σ (f + 6) k).toNatClampNeg, fun k => (gI σ (f + 7) k).toNatClampNeg, ⟨hs, hf, hw, hq, hspk, e1, e2, hd, (h5 0 (by omega)).1, by rw [(h5 1 (by omega)).1]; exact e88, (h5 2 (by omega)).1, u1, u2, u3, u4, hT, u6.1, u6.2.1, u6.2.2.1, u6.2.2.2.1, u6.2.2.2.2.2, fun k hk => ?_⟩, ⟨hw, hq, hspk, e3, e4, fun k hk => ⟨rfl, (hd k hk).2⟩, rfl, e88, rfl, u1, u2, u3, u4, u5, ⟨hb, o2, e11, u7.1, u7.2.1, u7.2.2.1, u7.2.2.2.1, u7.2.2.2.2⟩, fun p hp => ?_⟩, u6.2.2.2.2.1, o2, fun p hp => ?_⟩
  · obtain ⟨p, i, hp, hi, rfl⟩ := psum_at Q k hk
    exact hbox p hp i hi
  · refine ⟨(u8 p hp).1, (u8 p hp).2.2.2.1, fun i hi => ?_⟩
    obtain ⟨⟨x1, x2⟩, y1, y2⟩ := (u8 p hp).2.2.2.2.2.2.2 i hi
    obtain ⟨⟨z1, z2⟩, z3, z4⟩ := hbox p hp i hi
    exact ⟨⟨x1.symm.trans z1, z2⟩, y1.symm.trans z3, z4⟩
  · obtain ⟨p1, p2, p3, p4, p5, p6, p7, p8⟩ := u8 p hp
    exact ⟨p2, p3, p5, p6, p7⟩
theorem RForm.told {f : Nat} {σ : SS} (h : RForm f σ) : (gI σ f 0 = 0 ∧ gI σ 73 12 = 0 ∧ gI σ f 5 = 0 ∧ fX8_questions σ = some (nI 0)) ∨ (gI σ f 0 = 1 ∧ gI σ 73 12 = 1) := by
  obtain ⟨b, hb, e11, ⟨o1, o2, o3, o4, o5, o6⟩ | ⟨o1, o2, -⟩⟩ := h
  · refine Or.inl ⟨o1, o2, o5, ?_⟩
    unfold fX8_questions fX8_headOf
    rw [if_pos o2]; rfl
  · exact Or.inr ⟨o1, o2⟩
theorem C8.mono {w q spk : Nat} {lvl mk : Int32} {pic : Nat → Int32} {b U V A B Q : Nat} {N cx cy : Nat → Nat} {σ σ' : SS} (h : C8 w q spk lvl mk pic b U V A B Q N cx cy σ) (hf : ∀ c k, ¬ (33 ≤ c ∧ c ≤ 57) → ¬ (c = 31 ∧ k = 6) → gI σ' c k = gI σ c k) : C8 w q spk lvl mk pic b U V A B Q N cx cy σ' := h.fr fun c k hc => hf c k (by omega) (by omega)
theorem scr_f3 {s f c k : Nat} (h : c = 31 ∨ (33 ≤ c ∧ c ≤ 57) ∨ (91 ≤ c ∧ c ≤ 108) ∨ (c = 73 ∧ ¬ (k = 1 ∨ k = 11 ∨ k = 12 ∨ k = 29 ∨ k = 30 ∨ k = 31 ∨ k = 65))) : scr s f c k = true := by
  unfold scr
  simp only [Bool.or_eq_true, Bool.and_eq_true, decide_eq_true_eq, Bool.not_eq_true', Bool.or_eq_false_iff, decide_eq_false_iff_not]
  omega
theorem Rel.jd3 {s f : Nat} {σ r2 : SS} (h : RAll s f σ) (a1 : gR r2 = gR σ) (a2 : ∀ c k, ¬ (c = 31 ∨ (33 ≤ c ∧ c ≤ 57) ∨ (91 ≤ c ∧ c ≤ 108) ∨ (c = 73 ∧ ¬ (k = 1 ∨ k = 11 ∨ k = 12 ∨ k = 29 ∨ k = 30 ∨ k = 31 ∨ k = 65))) → gI r2 c k = gI σ c k) : Rel r2 :=
  ⟨s, f, h.scr ⟨fun c k hk => a2 c k fun hc => by rw [scr_f3 hc] at hk; exact absurd hk (by decide), a1⟩⟩
theorem op24 : ∀ a σ, Rel σ → st24 Rel a σ := by
  intro a σ ⟨s, f, h⟩
  obtain ⟨hs, hf, hR1, -, hR5, -⟩ := id h.1
  rcases h.2.2.2.2.2.2.2.1.told with ⟨t1, t2, t3, t4⟩ | ⟨t1, t2⟩
  · refine ⟨-1, σ, σ, ?_, ?_, s, f, h⟩
    · unfold fX7_dark
      rw [hR5, if_neg (by rw [hasQ_eq (Q := 0) (by omega) t3]; omega)]
    · obtain ⟨bb, i1, i2⟩ := isQ_eq (σ := σ) (Q := 0) (by omega) t4 (a 1)
      unfold fX8_dark
      rw [bnd1_of _ i1, if_neg (by rw [i2]; omega)]
  obtain ⟨w, q, spk, b, U, V, A, B, Q, N, cx, cy, h7, h8, e5, -, hF⟩ := h.ctx t1
  obtain ⟨-, -, -, -, -, -, -, -, -, -, -, -, -, hQ, hHd, hN⟩ := id h8
  have eq := quest8 hHd
  have c7 := hasQ_eq hQ e5 (a 1)
  obtain ⟨bb, i1, i2⟩ := isQ_eq (σ := σ) hQ eq (a 1)
  by_cases hc : 0 ≤ (a 1).toInt ∧ (a 1).toInt < Q
  · obtain ⟨p, hp, ep⟩ := in_of (x := a 1) (by omega) hc
    obtain ⟨⟨n1, n2⟩, g77, -⟩ := hN p hp
    obtain ⟨f2, f3, -⟩ := hF p hp
    obtain ⟨⟨mb, r1⟩, x1, m1, m2, m3, m4⟩ := measure7 h7
    dsimp only at m1 m2 m3 m4
    have mF : ∀ c k, ¬ (33 ≤ c ∧ c ≤ 57) → ¬ (c = 31 ∧ k = 6) → gI r1 c k = gI σ c k := fun c k c1 c2 => m3 c k (by omega) c2
    obtain ⟨⟨fb, r2⟩, x2, k1, k2, k3, k4⟩ := finds8 (h8.mono mF)
    dsimp only at k1 k2 k3 k4
    have eq1 : fX8_questions r1 = some (nI Q) := quest8 (h8.mono mF).2.2.2.2.2.2.2.2.2.2.2.2.2.2.1
    obtain ⟨bb1, i1', i2'⟩ := isQ_eq (σ := r1) hQ eq1 (a 1)
    have e11' : gI r1 73 11 = nI b := by rw [mF _ _ (by omega) (by omega)]; exact hHd.2.2.1
    have g77' : gI r1 77 (12 * b + p) = nI (N p) := by rw [mF _ _ (by omega) (by omega)]; exact g77
    have hrel : Rel r2 := Rel.jd3 h (k2.trans m2) fun c k hc => by rw [k3 c k (by omega) (by omega), mF c k (by omega) (by omega)]
    have hrel1 : Rel r1 := Rel.jd3 h m2 fun c k hc => mF c k (by omega) (by omega)
    have hT : psum N p < psum N Q := psum_lt hp (show 0 < N p by omega)
    have go : a 2 = -1 ∨ (∃ i, i < N p ∧ a 2 = nI i) → ∃ v, bnd (fX3_measure σ s f) (fun b2 σ4 =>
      if b2 = true then (
        if a 2 = (-1 : Int32) then (
          some ((gI σ4 31 6), σ4)
          ) else (
          grd (inb (a 1) 12) <|
          grd (inb ((gI σ4 ((gR σ4 1 5) + 2) (Int32.toNatClampNeg (a 1))) + a 2) 72) <|
          some ((gI σ4 51 (Int32.toNatClampNeg ((gI σ4 ((gR σ4 1 5) + 2) (Int32.toNatClampNeg (a 1))) + a 2))), σ4)
          )
        ) else (
        some ((-2 : Int32), σ4)
        )) = some (v, r1) ∧ bnd (fX8_finds r1) (fun b5 σ7 =>
      if b5 = true then (
        if a 2 = (-1 : Int32) then (
          some ((gI σ7 73 54), σ7)
          ) else (
          grd (inb (((6 : Int32) * a 1) + a 2) 72) <|
          some ((gI σ7 106 (Int32.toNatClampNeg (((6 : Int32) * a 1) + a 2))), σ7)
          )
        ) else (
        some ((-2 : Int32), σ7)
        )) = some (v, r2) := fun hb => by
      rw [bnd_of _ x1, bnd_of _ x2]
      by_cases hm : frU (mkB w q spk (gI σ 88 2) (inkP (gI σ 88 0) (gI σ 83))) 4
      · obtain ⟨d1, d2⟩ := m4 hm
        obtain ⟨d3, d4⟩ := k4 hm
        rw [if_pos (m1.mpr hm), if_pos (k1.mpr hm)]
        by_cases cn : a 2 = -1
        · rw [if_pos cn, if_pos cn, d2 (by omega), d4 (by omega)]
          exact ⟨_, rfl, rfl⟩
        · obtain ⟨i, hi, ei⟩ := hb.resolve_left cn
          have hk := psum_lt hp hi
          have hT72 : psum N Q ≤ 72 := h7.2.2.2.2.2.2.2.2.2.2.2.2.2.2.2.1
          rw [if_neg cn, if_neg cn, show gR r1 1 5 = f by rw [m2]; exact hR5, ep, ei, nI_clamp (by omega), mF _ _ (by omega) (by omega), f2, nI_add, show (6 : Int32) * nI p + nI i = nI (6 * p + i) by rw [show (6 : Int32) = nI 6 from rfl, nI_mul, nI_add], grd_eq _ (inb_nI (by omega) (by decide)), grd_eq _ (inb_nI (by omega) (by decide)), grd_eq _ (inb_nI (by omega) (by decide)), nI_clamp (by omega), nI_clamp (by omega), d1 _ hk, d3 p hp i hi]
          exact ⟨_, rfl, rfl⟩
      · rw [if_neg fun e => hm (m1.mp e), if_neg fun e => hm (k1.mp e)]
        exact ⟨_, rfl, rfl⟩
    unfold st24 fX7_dark
    simp only [vthen_q]
    rw [hR5, hR1, if_pos (by rw [c7]; exact hc)]
    by_cases cn : a 2 = -1
    · obtain ⟨v, v1, v2⟩ := go (Or.inl cn)
      rw [if_pos cn, v1]
      refine ⟨v, r1, r2, rfl, ?_, hrel⟩
      unfold fX8_dark
      simp only [vthen_q]
      rw [bnd1_of _ i1', if_pos (by rw [i2']; exact hc), if_pos cn, v2]
    · obtain ⟨b1, u1, u2⟩ := hasBox_eq hQ e5 hp n2 f3 (a 2)
      rw [if_neg cn, ep, bnd1_of _ u1]
      by_cases cb : 0 ≤ (a 2).toInt ∧ (a 2).toInt < N p
      · obtain ⟨i, hi, ei⟩ := in_of (x := a 2) (by omega) cb
        obtain ⟨v, v1, v2⟩ := go (Or.inr ⟨i, hi, ei⟩)
        rw [if_pos (by rw [u2]; exact cb), ← ep, v1]
        refine ⟨v, r1, r2, rfl, ?_, hrel⟩
        obtain ⟨b2, w1, w2⟩ := isBox_eq (σ := r1) hQ eq1 hHd.1 e11' hp g77' n2 (a 2)
        unfold fX8_dark
        simp only [vthen_q]
        rw [bnd1_of _ i1', if_pos (by rw [i2']; exact hc), if_neg cn, v2, ep, bnd1_of _ w1, if_pos (w2.mpr cb)]
      · rw [if_neg (by rw [u2]; exact cb), ← ep]
        refine ⟨-1, σ, σ, rfl, ?_, s, f, h⟩
        obtain ⟨b2, w1, w2⟩ := isBox_eq (σ := σ) hQ eq hHd.1 hHd.2.2.1 hp g77 n2 (a 2)
        unfold fX8_dark
        simp only [vthen_q]
        rw [bnd1_of _ i1, if_pos (by rw [i2]; exact hc), if_neg cn, ep, bnd1_of _ w1, if_neg fun e => cb (w2.mp e)]
  · refine ⟨-1, σ, σ, ?_, ?_, s, f, h⟩
    · unfold fX7_dark
      rw [hR5, if_neg (by rw [c7]; exact hc)]
    · unfold fX8_dark
      rw [bnd1_of _ i1, if_neg (by rw [i2]; exact hc)]
