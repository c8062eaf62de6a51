/-! Map kept. -/
noncomputable def mX (w q spk : Nat) (mk : Int32) (ink : Nat → Prop) (k : Nat) : Nat := zX w q spk ink (mkB w q spk mk ink k).toNatClampNeg
noncomputable def mY (w q spk : Nat) (mk : Int32) (ink : Nat → Prop) (k : Nat) : Nat := zY w q spk ink (mkB w q spk mk ink k).toNatClampNeg
noncomputable def mS (w q spk : Nat) (mk : Int32) (ink : Nat → Prop) (k : Nat) : Nat := zS w q spk ink (mkB w q spk mk ink k).toNatClampNeg
section MXY
variable {w q spk : Nat} {mk : Int32} {ink : Nat → Prop} {r : SS}
theorem mk_b (hw : 8 ≤ w ∧ w ≤ 40) (hq : 8 ≤ q ∧ q ≤ 40) (hf : frU (mkB w q spk mk ink) 4) {k : Nat} (hk : k < 4) : (mkB w q spk mk ink k).toNatClampNeg < nB w q spk ink (w * q) ∧ mkB w q spk mk ink k = nI (mkB w q spk mk ink k).toNatClampNeg := by
  have hn8 := nB_le (spk := spk) (ink := ink) hw.2 hq.2
  rcases nrR_rng (w := w) (q := q) (s := zS w q spk ink) (x := zX w q spk ink) (y := zY w q spk ink) (cx := lN (crX w k)) (cy := lN (crY q k)) (mk := mk) (nB w q spk ink (w * q)) (by omega) with h | ⟨b, h2, h3, -⟩
  · have h0 := (hf k hk).1
    unfold mkB at h0
    rw [h] at h0
    exact absurd h0 (by decide)
  · have e : mkB w q spk mk ink k = nI b := h3
    rw [e, nI_clamp (by omega)]
    exact ⟨h2, rfl⟩
def Mk7 (w q spk : Nat) (mk : Int32) (ink : Nat → Prop) (r : SS) : Prop := ∀ k, k < 4 → gL r 46 k = lN (mX w q spk mk ink k) ∧ gL r 47 k = lN (mY w q spk mk ink k) ∧ gL r 48 k = lN (mS w q spk mk ink k)
def Mk8 (w q spk : Nat) (mk : Int32) (ink : Nat → Prop) (r : SS) : Prop := ∀ k, k < 4 → gL r 103 k = lN (mX w q spk mk ink k) ∧ gL r 104 k = lN (mY w q spk mk ink k) ∧ gL r 105 k = lN (mS w q spk mk ink k)
theorem mk7_of (hw : w ≤ 40) (hq : q ≤ 40) (h : ∀ k, k < 4 → ∃ b, b < nB w q spk ink (w * q) ∧ mkB w q spk mk ink k = nI b ∧ gL r 46 k = lN (zX w q spk ink b) ∧ gL r 47 k = lN (zY w q spk ink b) ∧ gL r 48 k = lN (zS w q spk ink b)) : Mk7 w q spk mk ink r := fun k hk => by
  have hn8 := nB_le (spk := spk) (ink := ink) hw hq
  obtain ⟨b, h1, h2, h3⟩ := h k hk
  have e : (mkB w q spk mk ink k).toNatClampNeg = b := by rw [h2, nI_clamp (by omega)]
  unfold mX mY mS
  rw [e]; exact h3
theorem mk8_of (hw : 8 ≤ w ∧ w ≤ 40) (hq : 8 ≤ q ∧ q ≤ 40) (hK : K8 w q spk mk ink r) (hf : frU (mkB w q spk mk ink) 4) : Mk8 w q spk mk ink r := fun k hk => by
  obtain ⟨h1, h2⟩ := mk_b hw hq hf hk
  exact hK.2.2 k hk _ h1 h2
theorem mS_bd (hw : 8 ≤ w ∧ w ≤ 40) (hq : 8 ≤ q ∧ q ≤ 40) (hspk : 1 ≤ spk) (hf : frU (mkB w q spk mk ink) 4) : ∀ k, k < 4 → 1 ≤ mS w q spk mk ink k ∧ mS w q spk mk ink k ≤ 1600 := fun k hk =>
  (z_bd ⟨by omega, hw.2⟩ ⟨by omega, hq.2⟩ hspk (mk_b hw hq hf hk).1).1
end MXY
theorem Hd.fr {b U V A B Q : Nat} {σ σ' : SS} (h : Hd b U V A B Q σ) (h1 : ∀ k, k = 11 ∨ k = 12 → gI σ' 73 k = gI σ 73 k) (h2 : ∀ k, gI σ' 75 k = gI σ 75 k) : Hd b U V A B Q σ' := by
  unfold Hd at *
  rw [h1 12 (Or.inr rfl), h1 11 (Or.inl rfl), h2, h2, h2, h2, h2]; exact h
theorem op23 : ∀ a σ, Rel σ → st23 Rel a σ := by
  intro a σ ⟨s, f, h⟩
  obtain ⟨hs, hf, hR1, -, hR5, -⟩ := id h.1
  obtain ⟨w, q, hw, hq, e1, e2, e3, e4, hd⟩ := h.2.2.1
  obtain ⟨spk, hspk, e88⟩ := h.2.2.2.2.1.spk
  obtain ⟨b, hb, e11, ⟨o1, o2, -⟩ | ⟨o1, o2, U, V, A, B, Q, N, u1, u2, u3, u4, u5, u6, u7, -⟩⟩ := h.2.2.2.2.2.2.2.1
  · refine ⟨-1, σ, σ, ?_, ?_, s, f, h⟩
    · unfold fX7_map; rw [hR5, o1, if_pos rfl]
    · unfold fX8_map; rw [o2, if_pos rfl]
  have hHd : Hd b U V A B Q σ := ⟨hb, o2, e11, u7.1, u7.2.1, u7.2.2.1, u7.2.2.2.1, u7.2.2.2.2⟩
  have eU : (2 : Int32) * nI U = nI (2 * U) := nI_mul 2 U
  have eV : (2 : Int32) * nI V = nI (2 * V) := nI_mul 2 V
  have hd0 : fX8_headOf σ (0 : Int32) = some (nI U) := head8 (k := 0) o2 e11 hb (by omega) u7.1
  have hd1 : fX8_headOf σ (1 : Int32) = some (nI V) := head8 (k := 1) o2 e11 hb (by omega) u7.2.1
  by_cases hc : (0 ≤ (a 1).toInt ∧ (a 1).toInt ≤ (2 * U : Nat)) ∧ (0 ≤ (a 2).toInt ∧ (a 2).toInt ≤ (2 * V : Nat)) ∧ 0 ≤ (a 3).toInt ∧ (a 3).toInt ≤ 3
  · obtain ⟨hc1, hc2, hc3⟩ := hc
    obtain ⟨i, hi, ei⟩ := in_of (x := a 1) (w := 2 * U + 1) (by omega) (by omega)
    obtain ⟨j, hj, ej⟩ := in_of (x := a 2) (w := 2 * V + 1) (by omega) (by omega)
    obtain ⟨⟨mb, r1⟩, x1, a0, a1, a2, a3, a4⟩ := loc7 h hw hq e1 e2 hd e88 hspk
    dsimp only at a0 a1 a2 a3 a4
    have c7 : fX7_map σ (a 1) (a 2) (a 3) = (if mb = true then (
                  bnd1 (fX5_spread r1 (nI U) (nI V)) fun σ5 =>
                  if a 3 = (0 : Int32) then (
                    bnd1 (fX5_dotX σ5 (a 1) (a 2)) fun v6 =>
                    some (v6, σ5)
                    ) else
                  if a 3 = (1 : Int32) then (
                    bnd1 (fX5_dotY σ5 (a 1) (a 2)) fun v9 =>
                    some (v9, σ5)
                    ) else
                  if a 3 = (2 : Int32) then (
                    bnd1 (fX5_hundredthsX σ5 (a 1) (a 2)) fun v12 =>
                    some (v12, σ5)
                    ) else
                  bnd1 (fX5_hundredthsY σ5 (a 1) (a 2)) fun v15 =>
                  some (v15, σ5)
                  ) else (
                  some ((-2 : Int32), r1)
                  )) := by
      unfold fX7_map
      simp only [lt_i, le_i, Int32.reduceToInt]
      rw [hR5, o1, if_neg (by decide), if_neg (by omega), if_pos (by omega), if_neg (by omega), u6.1, u6.2.1, eU, eV, nI_toInt (n := 2 * U) (by omega), if_neg (by omega), if_neg (by omega), nI_toInt (n := 2 * V) (by omega), if_pos (by omega), hR1, bnd_of _ x1, show gR r1 1 5 = f by rw [a1]; exact hR5, a2 f 1 (by omega), a2 f 2 (by omega), u6.1, u6.2.1]
    have c8 : ∀ r, (∀ c k, ¬ (33 ≤ c ∧ c ≤ 57) → gI r c k = gI σ c k) → fX8_map r (a 1) (a 2) (a 3) = bnd1 (fX8_laysMarks r) fun σ7 =>
          if (gI σ7 73 49) = 0 then (
            some ((-2 : Int32), σ7)
            ) else (
            if (2 : Int32) ≤ a 3 then (
              vthen (fun (s8 : Bool) =>
                bnd1 (fX8_maps σ7 (a 1) (a 2) s8) fun σ9 =>
                grd (nzl (gL σ9 73 51)) <|
                some ((Int64.toInt32 (((100 : Int64) * (gL σ9 73 50)) / (gL σ9 73 51))), σ9)
                ) fun j96 =>
              if a 3 = (2 : Int32) then (
                j96 true
                ) else (
                j96 false
                )
              ) else (
              vthen (fun (s11 : Bool) =>
                bnd (fX8_mapped σ7 (a 1) (a 2) s11) fun v12 σ15 =>
                some (v12, σ15)
                ) fun j79 =>
              if a 3 = 0 then (
                j79 true
                ) else (
                j79 false
                )
              )
            ) := fun r hr => by
      unfold fX8_map
      rw [hr _ _ (by omega), o2, if_neg (by decide), show fX8_headOf r (0 : Int32) = some (nI U) from head8 (k := 0) (b := b) (v := U) (by rw [hr _ _ (by omega)]; exact o2) (by rw [hr _ _ (by omega)]; exact e11) hb (by omega) (by rw [hr _ _ (by omega)]; exact u7.1), show fX8_headOf r (1 : Int32) = some (nI V) from head8 (k := 1) (b := b) (v := V) (by rw [hr _ _ (by omega)]; exact o2) (by rw [hr _ _ (by omega)]; exact e11) hb (by omega) (by rw [hr _ _ (by omega)]; exact u7.2.1), bnd1_some, bnd1_some]
      have z : (0 : Int32).toInt = 0 := rfl
      have z3 : (3 : Int32).toInt = 3 := rfl
      have i1 : fX8_in r (a 1) (0 : Int32) ((2 : Int32) * nI U) = true := by
        rw [in_eq, eU]; simp only [le_i, nI_toInt (show 2 * U < 2 ^ 31 by omega), z]; omega
      have i2 : fX8_in r (a 2) (0 : Int32) ((2 : Int32) * nI V) = true := by
        rw [in_eq, eV]; simp only [le_i, nI_toInt (show 2 * V < 2 ^ 31 by omega), z]; omega
      have i3 : fX8_in r (a 3) (0 : Int32) (3 : Int32) = true := by
        rw [in_eq]; simp only [le_i, z, z3]; omega
      rw [if_pos i1, if_pos i2, if_pos i3]
    unfold st23
    rw [c7]
    by_cases hm : frU (mkB w q spk (gI σ 88 2) (inkO σ)) 4
    · have hS := mS_bd hw hq hspk.1 hm
      have hM := mk7_of hw.2 hq.2 (a4 hm)
      obtain ⟨r2, y1, y2, y3, y4⟩ := spread7 (U := U) (V := V) hM (by omega) (by omega)
      have hr2 : ∀ c k, ¬ (33 ≤ c ∧ c ≤ 57) → gI r2 c k = gI σ c k := fun c k hc => by rw [y3 c k (by omega), a2 c k (by omega)]
      obtain ⟨r3, z1, z2, z3, z4⟩ := loc8 (σ := σ) (σ' := r2) hr2 hw hq e3 e4 e88 hspk
      have hM8 := mk8_of hw hq z4 hm
      have hfl : gI r3 73 49 = 1 := by
        rcases z4.2.1 with ⟨_, h⟩ | ⟨h, _⟩
        · exact h
        · exact absurd hm h
      have hr3 : ∀ c k, ¬ ((33 ≤ c ∧ c ≤ 57) ∨ (91 ≤ c ∧ c ≤ 108) ∨ (c = 73 ∧ ¬ (k = 1 ∨ k = 11 ∨ k = 12 ∨ k = 29 ∨ k = 30 ∨ k = 31 ∨ k = 65))) → gI r3 c k = gI σ c k := fun c k hc => by rw [z3 c k (by omega) (by omega), hr2 c k (by omega)]
      have hH3 : Hd b U V A B Q r3 := hHd.fr (fun k hk => hr3 _ _ (by omega)) fun k => hr3 _ _ (by omega)
      obtain ⟨d1, d2, d3, d4⟩ := dots7 (i := i) (j := j) y4 hS (by omega) (by omega) (by omega) (by omega)
      rw [if_pos (a0.mpr hm), bnd1_of _ y1, ei, ej, d1, d2, d3, d4, bnd1_some, bnd1_some, bnd1_some, bnd1_some]
      have hg : ∀ r4, gR r4 = gR r3 → (∀ c k, gI r4 c k = gI r3 c k) → Rel r4 := fun r4 g1 g2 => Rel.jd h (g1.trans (z2.trans (y2.trans a1))) fun c k hc => by rw [g2]; exact hr3 c k hc
      have by1 := by_bd (A := 2 * U) (B := 2 * V) hS (by omega) (by omega)
      have ie : ∀ c : Int32, (a 3).toInt = c.toInt → a 3 = c := fun c q => Int32.toInt_inj.mp q
      have hnd : ∀ isX, ∃ r4, bnd1 (fX8_maps r3 (nI i) (nI j) isX) (fun σ9 => grd (nzl (gL σ9 73 51)) <| some ((Int64.toInt32 (((100 : Int64) * (gL σ9 73 50)) / (gL σ9 73 51))), σ9)) = some (hdV (if isX = true then mX w q spk (gI σ 88 2) (inkO σ) else mY w q spk (gI σ 88 2) (inkO σ)) (mS w q spk (gI σ 88 2) (inkO σ)) (2 * U) (2 * V) i j, r4) ∧ gR r4 = gR r3 ∧ ∀ c k, gI r4 c k = gI r3 c k := fun isX => by
        obtain ⟨r4, k1, k2, k3, k4, k5, k6⟩ := maps8 (i := i) (j := j) isX hH3 hM8 hS (by omega) (by omega) (by omega) (by omega)
        refine ⟨r4, ?_, k2, k3⟩
        rw [bnd1_of _ k1, k5, k6, grd_eq _ (nzl_lN by1.1 (by omega))]
        rfl
      have mpd : ∀ isX, ∃ r4, bnd (fX8_mapped r3 (nI i) (nI j) isX) (fun v12 σ15 => some (v12, σ15)) = some (rdV (if isX = true then mX w q spk (gI σ 88 2) (inkO σ) else mY w q spk (gI σ 88 2) (inkO σ)) (mS w q spk (gI σ 88 2) (inkO σ)) (2 * U) (2 * V) i j, r4) ∧ gR r4 = gR r3 ∧ ∀ c k, gI r4 c k = gI r3 c k := fun isX => by
        obtain ⟨⟨v, r4⟩, k1, k2, k3, k4, -⟩ := mapped8 (i := i) (j := j) isX hH3 hM8 hS (by omega) (by omega) (by omega) (by omega)
        dsimp only at k2 k3 k4
        exact ⟨r4, by rw [bnd_of _ k1, k2], k3, k4⟩
      have m8 : fX8_map r2 (nI i) (nI j) (a 3) = if (2 : Int32) ≤ a 3 then (if a 3 = (2 : Int32) then bnd1 (fX8_maps r3 (nI i) (nI j) true) (fun σ9 => grd (nzl (gL σ9 73 51)) <| some ((Int64.toInt32 (((100 : Int64) * (gL σ9 73 50)) / (gL σ9 73 51))), σ9)) else bnd1 (fX8_maps r3 (nI i) (nI j) false) (fun σ9 => grd (nzl (gL σ9 73 51)) <| some ((Int64.toInt32 (((100 : Int64) * (gL σ9 73 50)) / (gL σ9 73 51))), σ9))) else (if a 3 = 0 then bnd (fX8_mapped r3 (nI i) (nI j) true) (fun v12 σ15 => some (v12, σ15)) else bnd (fX8_mapped r3 (nI i) (nI j) false) (fun v12 σ15 => some (v12, σ15))) := by
        rw [← ei, ← ej, c8 r2 hr2, bnd1_of _ z1, hfl, if_neg (by decide)]
        simp only [vthen_q]
      by_cases k0 : (a 3).toInt = 0
      · obtain ⟨r4, k1, k2, k3⟩ := mpd true
        refine ⟨_, r2, r4, by rw [ie 0 k0, if_pos rfl], ?_, hg r4 k2 k3⟩
        rw [m8, ie 0 k0, if_neg (by decide), if_pos rfl, k1]
        rfl
      by_cases k1' : (a 3).toInt = 1
      · obtain ⟨r4, k1, k2, k3⟩ := mpd false
        refine ⟨_, r2, r4, by rw [ie 1 k1', if_neg (by decide), if_pos rfl], ?_, hg r4 k2 k3⟩
        rw [m8, ie 1 k1', if_neg (by decide), if_neg (by decide), k1]
        rfl
      by_cases k2' : (a 3).toInt = 2
      · obtain ⟨r4, k1, k2, k3⟩ := hnd true
        refine ⟨_, r2, r4, by rw [ie 2 k2', if_neg (by decide), if_neg (by decide), if_pos rfl], ?_, hg r4 k2 k3⟩
        rw [m8, ie 2 k2', if_pos (by decide), if_pos rfl, k1]
        rfl
      · obtain ⟨r4, k1, k2, k3⟩ := hnd false
        have e3' : a 3 = 3 := ie 3 (by show _ = (3 : Int); omega)
        refine ⟨_, r2, r4, by rw [e3', if_neg (by decide), if_neg (by decide), if_neg (by decide)], ?_, hg r4 k2 k3⟩
        rw [m8, e3', if_pos (by decide), if_neg (by decide), k1]
        rfl
    · obtain ⟨r3, z1, z2, z3, z4⟩ := loc8 (σ := σ) (σ' := r1) (fun c k hc => a2 c k (by omega)) hw hq e3 e4 e88 hspk
      have hfl : gI r3 73 49 = 0 := by
        rcases z4.2.1 with ⟨h, _⟩ | ⟨_, h⟩
        · exact absurd h hm
        · exact h
      rw [if_neg fun e => hm (a0.mp e)]
      exact ⟨_, r1, r3, rfl, by rw [c8 r1 (fun c k hc => a2 c k (by omega)), bnd1_of _ z1, hfl, if_pos rfl], Rel.jd h (z2.trans a1) fun c k hc => by rw [z3 c k (by omega) (by omega), a2 c k (by omega)]⟩
  · have z : (0 : Int32).toInt = 0 := rfl
    have z3 : (3 : Int32).toInt = 3 := rfl
    refine ⟨-1, σ, σ, ?_, ?_, s, f, h⟩
    · unfold fX7_map
      rw [hR5, o1, if_neg (by decide), u6.1, u6.2.1, eU, eV]
      simp only [lt_i, le_i, nI_toInt (show 2 * U < 2 ^ 31 by omega), nI_toInt (show 2 * V < 2 ^ 31 by omega), z, z3]
      repeat' split
      all_goals first | omega | rfl
    · unfold fX8_map
      rw [o2, if_neg (by decide), hd0, bnd1_some, hd1, bnd1_some, eU, eV]
      simp only [in_eq, le_i, nI_toInt (show 2 * U < 2 ^ 31 by omega), nI_toInt (show 2 * V < 2 ^ 31 by omega), z, z3]
      repeat' split
      all_goals first | omega | rfl
