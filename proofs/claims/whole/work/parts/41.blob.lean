/-! Blob kept. -/
def inkO (σ : SS) (k : Nat) : Prop := ¬ gI σ 83 k < gI σ 88 0
theorem RSet.spk {σ : SS} (h : RSet σ) : ∃ spk, (1 ≤ spk ∧ spk ≤ 20) ∧ gI σ 88 1 = nI spk := by
  have h1 := (h 1 (by omega)).2
  have e1 : (roV 1001 1).toInt = 1 := by decide +kernel
  have e2 : (roV 1002 1).toInt = 20 := by decide +kernel
  unfold inR at h1
  rw [e1, e2] at h1
  obtain ⟨n, hn, e⟩ := in_of (x := gI σ 88 1) (w := 21) (by decide) (by omega)
  rw [e, nI_toInt (by omega)] at h1
  exact ⟨n, by omega, e⟩
section FOUND
variable {σ : SS} {s f w q spk : Nat}
theorem found7 (h : RAll s f σ) (hw : 8 ≤ w ∧ w ≤ 40) (hq : 8 ≤ q ∧ q ≤ 40) (e1 : gI σ s 0 = nI w) (e2 : gI σ s 1 = nI q) (hd : ∀ k, k < w * q → gI σ (s + 1) k = gI σ 83 k ∧ inR (gI σ 83 k) 0 9) (e88 : gI σ 88 1 = nI spk) (hspk : 1 ≤ spk ∧ spk ≤ 20) : WP (fX0_find σ s (gI σ 32 0) (gI σ 32 1)) (fun r => gR r = gR σ ∧ (∀ c k, ¬ (33 ≤ c ∧ c ≤ 43) → gI r c k = gI σ c k) ∧ gI r 33 0 = nI (nB w q spk (inkO σ) (w * q)) ∧ ∀ st, st < w * q → ql w q spk (inkO σ) st → Bd 34 w q (inkO σ) st (nB w q spk (inkO σ) st) r ∧ Be w q (inkO σ) st (nB w q spk (inkO σ) st) r) := by
  have h5 := h.2.2.2.2.1
  rw [(h5 1 (by omega)).1, e88]
  refine find7 h.1.1 ⟨by omega, hw.2⟩ ⟨by omega, hq.2⟩ e1 e2 (fun k hk => ?_) hspk
  rw [(h5 0 (by omega)).1, (hd k hk).1]
  exact Int32.not_lt.symm
theorem found8 {σ' : SS} (hs : ∀ c k, ¬ (33 ≤ c ∧ c ≤ 43) → gI σ' c k = gI σ c k) (hw : 8 ≤ w ∧ w ≤ 40) (hq : 8 ≤ q ∧ q ≤ 40) (e3 : gI σ 73 29 = nI w) (e4 : gI σ 73 30 = nI q) (e88 : gI σ 88 1 = nI spk) (hspk : 1 ≤ spk ∧ spk ≤ 20) : WP (fX8_laysBlobs σ') (fun r => gR r = gR σ' ∧ (∀ c k, ¬ (92 ≤ c ∧ c ≤ 101) → ¬ (c = 73 ∧ (k = 43 ∨ k = 44)) → gI r c k = gI σ' c k) ∧ gI r 73 43 = nI (nB w q spk (inkO σ) (w * q)) ∧ (∀ st, st < w * q → ql w q spk (inkO σ) st → Bd 94 w q (inkO σ) st (nB w q spk (inkO σ) st) r ∧ Bg w q (inkO σ) st (nB w q spk (inkO σ) st) r) ∧ ∀ st k, isSt w q (inkO σ) st → Conn w q (inkO σ) st k → gI r 92 k = if spk ≤ szS w q (inkO σ) st then nI (nB w q spk (inkO σ) st) else -1) :=
  lays8 ⟨by omega, hw.2⟩ ⟨by omega, hq.2⟩ (by rw [hs _ _ (by omega)]; exact e3) (by rw [hs _ _ (by omega)]; exact e4) (fun k hk => by
    rw [hs _ _ (by omega), hs _ _ (by omega)]
    exact ⟨fun h h2 => h2 h, fun h => Classical.byContradiction fun h2 => h h2⟩) (by rw [hs _ _ (by omega)]; exact e88) hspk
end FOUND
theorem scr_fr {s f c k : Nat} (hs : s = 3 ∨ s = 6) (hf : f = 10 ∨ f = 18) (h : (33 ≤ c ∧ c ≤ 43) ∨ (92 ≤ c ∧ c ≤ 101) ∨ (c = 73 ∧ (k = 43 ∨ k = 44))) : scr s f c k = true := by
  unfold scr
  simp only [Bool.or_eq_true, Bool.and_eq_true, decide_eq_true_eq, Bool.not_eq_true', Bool.or_eq_false_iff, decide_eq_false_iff_not]
  omega
theorem Rel.found {s f : Nat} {σ r1 r2 : SS} (h : RAll s f σ) (a1 : gR r1 = gR σ) (a2 : ∀ c k, ¬ (33 ≤ c ∧ c ≤ 43) → gI r1 c k = gI σ c k) (b1 : gR r2 = gR r1) (b2 : ∀ c k, ¬ (92 ≤ c ∧ c ≤ 101) → ¬ (c = 73 ∧ (k = 43 ∨ k = 44)) → gI r2 c k = gI r1 c k) : Rel r2 :=
  ⟨s, f, h.scr ⟨fun c k hk => by
    have z : ¬ ((33 ≤ c ∧ c ≤ 43) ∨ (92 ≤ c ∧ c ≤ 101) ∨ (c = 73 ∧ (k = 43 ∨ k = 44))) := fun hc => by rw [scr_fr h.1.1 h.1.2.1 hc] at hk; exact absurd hk (by decide)
    rw [b2 c k (by omega) (by omega), a2 c k (by omega)], b1.trans a1⟩⟩
theorem top_eq {w q st : Nat} {ink : Nat → Prop} (hst : isSt w q ink st) : mnV (Conn w q ink st) (fun k => k / w) = st / w :=
  mnV_eq ⟨⟨st, Conn.rf, rfl⟩, fun k hk => by
    refine Nat.div_le_div_right (Nat.le_of_not_lt fun hlt => ?_)
    exact hst.2.2 k hlt (hk.inked hst.2.1) (hk.sym hst.2.1)⟩
theorem op19 : ∀ a σ, Rel σ → st19 Rel a σ := by
  intro a σ ⟨s, f, h⟩
  obtain ⟨hs, hf, hR1, -⟩ := id h.1
  obtain ⟨w, q, hw, hq, e1, e2, e3, e4, hd⟩ := h.2.2.1
  obtain ⟨spk, hspk, e88⟩ := h.2.2.2.2.1.spk
  obtain ⟨r1, x1, a1, a2, a3, a4⟩ := found7 h hw hq e1 e2 hd e88 hspk
  obtain ⟨r2, x2, b1, b2, b3, b4, -⟩ := found8 (σ' := r1) a2 hw hq e3 e4 e88 hspk
  have hN := area_le hw.2 hq.2
  have hB : nB w q spk (inkO σ) (w * q) ≤ 800 := by
    have := st_few (m := ql w q spk (inkO σ)) hw.2 (fun k h => h.1) q (Nat.le_refl _)
    rw [Nat.mul_comm q w] at this
    show gs _ _ _ ≤ _; omega
  have hw29 : gI r2 73 29 = nI w := by rw [b2 _ _ (by omega) (by omega), a2 _ _ (by omega)]; exact e3
  have hrel := Rel.found h a1 a2 b1 b2
  have hrel1 : Rel r1 := Rel.found (r2 := r1) h a1 a2 rfl fun _ _ _ _ => rfl
  unfold st19 fX7_blob
  simp only [vthen_q]
  rw [hR1, bnd1_of _ x1]
  by_cases c1 : a 1 = -1
  · rw [if_pos c1, c1, if_pos (c := (-1 : Int32) < 0) (by decide)]
    by_cases c2 : a 2 = 0
    · rw [if_pos c2]
      refine ⟨_, r1, r2, rfl, ?_, hrel⟩
      unfold fX8_blob
      rw [if_pos (by decide), bnd1_of _ x2, if_pos rfl, if_pos c2, b3, a3]
    · rw [if_neg c2]
      refine ⟨_, r1, r2, rfl, ?_, hrel⟩
      unfold fX8_blob
      rw [if_pos (by decide), bnd1_of _ x2, if_pos rfl, if_neg c2]
  rw [if_neg c1]
  by_cases c2 : a 1 < 0
  · rw [if_pos c2]
    refine ⟨_, r1, r1, rfl, ?_, hrel1⟩
    unfold fX8_blob
    rw [if_neg]
    intro h1
    rw [le_i] at h1
    rw [lt_i] at c2
    apply c1
    apply Int32.toInt_inj.mp
    have k1 : (-1 : Int32).toInt = -1 := rfl
    have k2 : (0 : Int32).toInt = 0 := rfl
    omega
  rw [if_neg c2]
  obtain ⟨b, hb, eb⟩ := of_nonneg (Int32.not_lt.mp c2)
  have cm : (-1 : Int32) ≤ a 1 := by
    rw [le_i, eb, nI_toInt hb]
    have k1 : (-1 : Int32).toInt = -1 := rfl
    omega
  by_cases c3 : b < nB w q spk (inkO σ) (w * q)
  · obtain ⟨st, hst, hql, hbe⟩ := gs_at _ _ c3
    have hbe' : nB w q spk (inkO σ) st = b := hbe
    obtain ⟨⟨u0, u1, u2⟩, v3, v4, v5, v6, v7⟩ := a4 st hst hql
    obtain ⟨⟨y0, y1, y2⟩, z3, z4, z5, z6, z7⟩ := b4 st hst hql
    rw [hbe'] at u0 u1 u2 v3 v4 v5 v6 v7 y0 y1 y2 z3 z4 z5 z6 z7
    rw [a3, eb, if_pos (nI_lt c3 (by omega)), nI_clamp (by omega)]
    suffices hh : ∃ v, (if a 2 = (0 : Int32) then grd (inb (nI b) 800) (some (gI r1 34 b, r1)) else if a 2 = (1 : Int32) then grd (inb (nI b) 800) (some (gI r1 35 b, r1)) else if a 2 = (2 : Int32) then grd (inb (nI b) 800) (some (gI r1 36 b, r1)) else if a 2 = (3 : Int32) then grd (inb (nI b) 800) (some (gI r1 37 b, r1)) else if a 2 = (4 : Int32) then grd (inb (nI b) 800) (some (gI r1 38 b, r1)) else if a 2 = (5 : Int32) then grd (inb (nI b) 800) (some (gI r1 40 b - gI r1 39 b + 1, r1)) else if a 2 = (6 : Int32) then grd (inb (nI b) 800) (some (gI r1 41 b - gI r1 38 b + 1, r1)) else some (-1, r1)) = some (v, r1) ∧ fX8_blob r1 (nI b) (a 2) = some (v, r2) by
      obtain ⟨v, w1, w2⟩ := hh
      exact ⟨v, r1, r2, w1, w2, hrel⟩
    unfold fX8_blob
    rw [← eb, if_pos cm, bnd1_of _ x2, if_neg c1, b3, eb, if_pos (nI_lt c3 (by omega)), nI_clamp (by omega), hw29]
    have g800 : inb (nI b) 800 = true := inb_nI (by omega) (by decide)
    have g801 : inb (nI b) 801 = true := inb_nI (by omega) (by decide)
    have gz : nz (nI w) = true := nz_nI (by omega) (by omega)
    simp only [grd_eq _ g800, grd_eq _ g801, grd_eq _ gz]
    rw [z3, rem_nI (by omega) (by omega) (by omega), pk_div (by omega) (by omega) (by omega), u0, u1, u2, v3, v4, v5, v6, v7, y0, y1, y2, z4, z5, z6, z7, top_eq hql.1]
    by_cases k0 : a 2 = 0
    · rw [if_pos k0, if_pos k0]; exact ⟨_, rfl, rfl⟩
    rw [if_neg k0, if_neg k0]
    by_cases k1 : a 2 = 1
    · rw [if_pos k1, if_pos k1]; exact ⟨_, rfl, rfl⟩
    rw [if_neg k1, if_neg k1]
    by_cases k2 : a 2 = 2
    · rw [if_pos k2, if_pos k2]; exact ⟨_, rfl, rfl⟩
    rw [if_neg k2, if_neg k2]
    by_cases k3 : a 2 = 3
    · rw [if_pos k3, if_pos k3]; exact ⟨_, rfl, rfl⟩
    rw [if_neg k3, if_neg k3]
    by_cases k4 : a 2 = 4
    · rw [if_pos k4, if_pos k4]; exact ⟨_, rfl, rfl⟩
    rw [if_neg k4, if_neg k4]
    by_cases k5 : a 2 = 5
    · rw [if_pos k5, if_pos k5]; exact ⟨_, rfl, rfl⟩
    rw [if_neg k5, if_neg k5]
    by_cases k6 : a 2 = 6
    · rw [if_pos k6, if_pos k6]; exact ⟨_, rfl, rfl⟩
    rw [if_neg k6, if_neg k6]
    exact ⟨_, rfl, rfl⟩
  · rw [a3, eb, if_neg (nI_nlt (by omega) (by omega))]
    refine ⟨_, r1, r2, rfl, ?_, hrel⟩
    unfold fX8_blob
    rw [← eb, if_pos cm, bnd1_of _ x2, if_neg c1, b3, eb, if_neg (nI_nlt (by omega) (by omega))]
