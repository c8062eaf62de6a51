/-! Sheet kept. -/
def pop12 (v : Int32) : Int32 := itr (fun k n => n + ((v >>> (nI k &&& 31)) &&& 1)) 0 12
theorem bits8 (σ : SS) (v : Int32) : fX8_bits σ v = some (pop12 v) := by
  unfold fX8_bits X8_bits_L4 pop12
  refine lp_2 (fun i => itr (fun k n => n + ((v >>> (nI k &&& 31)) &&& 1)) 0 i) (fun i => nI i) 12 _ (fun i hi rec => ?_) (fun rec => ?_) fuel (fuel_gt (by decide))
  · rw [if_neg (by show ¬ nI 12 ≤ nI i; exact nI_ge hi (by decide)), vthen_q, nI_1]
    rfl
  · rw [if_pos (by decide)]
theorem popc (σ : SS) : ∀ m, m < 64 → fJ6_bitCount_0f7a4 σ (nI m) = pop12 (nI m) := by
  unfold fJ6_bitCount_0f7a4 pop12
  simp only [vthen_eq]
  decide +kernel
/-- what one question adds -/
def shW (r : SS) (what : Nat) (p : Nat) (n : Int32) : Int32 :=
  if what = 0 then n + gI r 57 p else if what = 3 then (if gI r 54 p = 0 then (if gI r 53 p = 0 then n + 1 else n) else n) else if what = 4 then n + pop12 (gI r 55 p) else if gI r 54 p = nI what then n + 1 else n
section SHEET7
variable {r : SS} {f Q : Nat}
theorem gains7 (hQ : Q ≤ 12) (e5 : gI r f 5 = nI Q) : fX3_allGains r f = some (itr (shW r 0) 0 Q) := by
  unfold fX3_allGains X3_allGains_L4
  refine lp_2 (fun i => itr (shW r 0) 0 i) (fun i => nI i) Q _ (fun i hi rec => ?_) (fun rec => ?_) fuel (fuel_gt (by omega))
  · rw [e5, if_neg (nI_ge hi (by omega)), grd_eq _ (inb_nI (by omega) (by decide)), nI_clamp (by omega), nI_1, vthen_q]
    rfl
  · rw [e5, if_pos (nI_le (Nat.le_refl _) (by omega))]
theorem state7 {k : Nat} (hk : k = 1 ∨ k = 2) (hQ : Q ≤ 12) (e5 : gI r f 5 = nI Q) : fX3_inState r f (nI k) = some (itr (shW r k) 0 Q) := by
  unfold fX3_inState X3_inState_L5
  refine lp_2 (fun i => itr (shW r k) 0 i) (fun i => nI i) Q _ (fun i hi rec => ?_) (fun rec => ?_) fuel (fuel_gt (by omega))
  · rw [e5, if_neg (nI_ge hi (by omega)), grd_eq _ (inb_nI (by omega) (by decide)), nI_clamp (by omega), nI_1]
    have es : itr (shW r k) (0 : Int32) (i + 1) = if gI r 54 i = nI k then itr (shW r k) 0 i + 1 else itr (shW r k) 0 i := by
      show shW r k i (itr (shW r k) 0 i) = _
      unfold shW
      rw [if_neg (by omega), if_neg (by omega), if_neg (by omega)]
    rw [es]
    by_cases c : gI r 54 i = nI k
    · rw [if_pos c, if_pos c]
    · rw [if_neg c, if_neg c]
  · rw [e5, if_pos (nI_le (Nat.le_refl _) (by omega))]
theorem empty7 (hQ : Q ≤ 12) (e5 : gI r f 5 = nI Q) : fX3_leftEmpty r f = some (itr (shW r 3) 0 Q) := by
  unfold fX3_leftEmpty X3_leftEmpty_L4
  refine lp_2 (fun i => itr (shW r 3) 0 i) (fun i => nI i) Q _ (fun i hi rec => ?_) (fun rec => ?_) fuel (fuel_gt (by omega))
  · rw [e5, if_neg (nI_ge hi (by omega)), grd_eq _ (inb_nI (by omega) (by decide)), nI_clamp (by omega), nI_1]
    have es : itr (shW r 3) (0 : Int32) (i + 1) = (if gI r 54 i = 0 then (if gI r 53 i = 0 then itr (shW r 3) 0 i + 1 else itr (shW r 3) 0 i) else itr (shW r 3) 0 i) := rfl
    rw [es]
    by_cases c : gI r 54 i = 0
    · rw [if_pos c, if_pos c]
      by_cases c2 : gI r 53 i = 0
      · rw [if_pos c2, if_pos c2]
      · rw [if_neg c2, if_neg c2]
    · rw [if_neg c, if_neg c]
  · rw [e5, if_pos (nI_le (Nat.le_refl _) (by omega))]
theorem rubbed7 (hQ : Q ≤ 12) (e5 : gI r f 5 = nI Q) (hb : ∀ p, p < Q → ∃ m, m < 64 ∧ gI r 55 p = nI m) : fX3_allRubbed r f = some (itr (shW r 4) 0 Q) := by
  unfold fX3_allRubbed X3_allRubbed_L4
  refine lp_2 (fun i => itr (shW r 4) 0 i) (fun i => nI i) Q _ (fun i hi rec => ?_) (fun rec => ?_) fuel (fuel_gt (by omega))
  · obtain ⟨m, hm, em⟩ := hb i hi
    rw [e5, if_neg (nI_ge hi (by omega)), grd_eq _ (inb_nI (by omega) (by decide)), nI_clamp (by omega), nI_1, vthen_q, em, popc r m hm, ← em]
    rfl
  · rw [e5, if_pos (nI_le (Nat.le_refl _) (by omega))]
end SHEET7
/-- the class's rows are what the reference judges -/
def Jd (b Q : Nat) (N D : Nat → Nat) (P : Nat) (σ r1 : SS) : Prop := ∀ p, p < Q → JQ (fun i => D (psum N p + i)) P (N p) (gI σ 76 (12 * b + p) = 1) (gI σ 88 3) (gI σ 88 4) (gI σ 88 5) (gI r1 53 p) (gI r1 54 p) (gI r1 55 p) (gI r1 56 p) ∧ gI r1 57 p = gnS (gI σ 78 (12 * b + p)) (gI r1 53 p) (gI r1 54 p) (gI σ 79 (12 * b + p)) (gI σ 88 6)
theorem sum8 {w q spk : Nat} {lvl mk : Int32} {pic : Nat → Int32} {b U V A B Q : Nat} {N cx cy D : Nat → Nat} {P : Nat} {σ s r1 : SS} {what : Nat} (hw : what ≤ 4) (h8 : C8 w q spk lvl mk pic b U V A B Q N cx cy σ) (hG : G8 Q N D P σ s) (hJ : Jd b Q N D P σ r1) : WP (fX8_sum s (nI what)) (fun w => w.1 = itr (shW r1 what) 0 Q ∧ gR w.2 = gR s ∧ G8 Q N D P σ w.2) := by
  obtain ⟨-, -, -, -, -, -, -, -, -, -, -, -, -, hQ, hHd, hN⟩ := id h8
  unfold fX8_sum X8_sum_L4
  refine wf_3 Q (fun i v c s7 => v = itr (shW r1 what) 0 i ∧ c = nI i ∧ gR s7 = gR s ∧ G8 Q N D P σ s7) ⟨rfl, rfl, rfl, hG⟩ (by omega) ?_ ?_
  · rintro p _ _ s7 rec hp ⟨rfl, rfl, i1, hG⟩ hr
    rw [quest8 (hHd.fr (fun k hk => hG.1 73 k (by omega)) fun k => hG.1 75 k (by omega)), bnd1_some, if_neg (nI_ge hp (by omega)), show gI s7 88 3 = gI σ 88 3 from hG.1 _ _ (by omega), nI_1]
    refine wp_bnd1 (hG.j h8 hp (gI σ 88 3)) ?_
    rintro r ⟨y1, y2, y3, -⟩
    obtain ⟨z1, z2, z3, z4⟩ := (hJ p hp).1.one y3
    have fin : ∀ v, v = shW r1 what p (itr (shW r1 what) 0 p) → WP (rec v (nI (p + 1)) r) (fun w => w.1 = itr (shW r1 what) 0 Q ∧ gR w.2 = gR s ∧ G8 Q N D P σ w.2) := fun v hv => hr _ _ _ ⟨hv, rfl, y1.trans i1, y2⟩
    rw [pts8 h8 y2.1 hp, ← z1, ← z2, ← z3, ← (hJ p hp).2, bits8, bnd1_some, bnd1_some]
    rcases (show what = 0 ∨ what = 1 ∨ what = 2 ∨ what = 3 ∨ what = 4 by omega) with rfl | rfl | rfl | rfl | rfl
    · rw [if_pos (show nI 0 = 0 from rfl)]
      exact wp_v (fin _ rfl)
    · rw [if_neg (show ¬ nI 1 = 0 by decide), if_neg (show ¬ (3 : Int32) ≤ nI 1 by decide)]
      refine wp_if (fun c => wp_v (fin _ ?_)) fun c => wp_v (fin _ ?_)
      · generalize itr (shW r1 0) (0:Int32) p = acc; unfold shW; rw [if_neg (by decide), if_neg (by decide), if_neg (by decide), if_pos c]
      · generalize itr (shW r1 0) (0:Int32) p = acc; unfold shW; rw [if_neg (by decide), if_neg (by decide), if_neg (by decide), if_neg c, Int32.add_zero]
    · rw [if_neg (show ¬ nI 2 = 0 by decide), if_neg (show ¬ (3 : Int32) ≤ nI 2 by decide)]
      refine wp_if (fun c => wp_v (fin _ ?_)) fun c => wp_v (fin _ ?_)
      · generalize itr (shW r1 0) (0:Int32) p = acc; unfold shW; rw [if_neg (by decide), if_neg (by decide), if_neg (by decide), if_pos c]
      · generalize itr (shW r1 0) (0:Int32) p = acc; unfold shW; rw [if_neg (by decide), if_neg (by decide), if_neg (by decide), if_neg c, Int32.add_zero]
    · rw [if_neg (show ¬ nI 3 = 0 by decide), if_pos (show (3 : Int32) ≤ nI 3 by decide), if_pos (show nI 3 = (3 : Int32) from rfl)]
      simp only [vthen_q]
      rw [Int32.add_zero]
      refine wp_if (fun c => wp_if (fun c2 => fin _ ?_) fun c2 => fin _ ?_) fun c => fin _ ?_
      · generalize itr (shW r1 0) (0:Int32) p = acc; unfold shW; rw [if_neg (by decide), if_pos rfl, if_pos c2, if_pos c]
      · generalize itr (shW r1 0) (0:Int32) p = acc; unfold shW; rw [if_neg (by decide), if_pos rfl, if_neg c2]
      · generalize itr (shW r1 0) (0:Int32) p = acc; unfold shW; rw [if_neg (by decide), if_pos rfl]
        by_cases c2 : gI r1 54 p = 0
        · rw [if_pos c2, if_neg c]
        · rw [if_neg c2]
    · rw [if_neg (show ¬ nI 4 = 0 by decide), if_pos (show (3 : Int32) ≤ nI 4 by decide), if_neg (show ¬ nI 4 = (3 : Int32) by decide)]
      refine wp_v (fin _ ?_)
      generalize itr (shW r1 0) (0:Int32) p = acc; unfold shW
      rw [if_neg (by decide), if_neg (by decide), if_pos rfl]
  · rintro _ _ s7 rec ⟨rfl, rfl, i1, hG⟩
    rw [quest8 (hHd.fr (fun k hk => hG.1 73 k (by omega)) fun k => hG.1 75 k (by omega)), bnd1_some, if_pos (nI_le (Nat.le_refl _) (by omega))]
    exact wp_some ⟨rfl, i1, hG⟩
theorem op26 : ∀ a σ, Rel σ → st26 Rel a σ := by
  intro a σ ⟨s, f, h⟩
  obtain ⟨hs, hf, hR1, -, hR5, -⟩ := id h.1
  have z4 : (4 : Int32).toInt = 4 := rfl
  have z : (0 : Int32).toInt = 0 := rfl
  rcases h.2.2.2.2.2.2.2.1.told with ⟨t1, t2, t3, t4⟩ | ⟨t1, t2⟩
  · refine ⟨-2147483648, σ, σ, ?_, ?_, s, f, h⟩
    · unfold fX7_sheet; rw [hR5, t1, if_pos rfl]
    · unfold fX8_sheet; rw [t2, if_pos rfl]
  obtain ⟨w, q, spk, b, U, V, A, B, Q, N, cx, cy, D, P, m, h8, e5, -, hF, hT, -, ⟨mb, r1, x1, m1, m2, hK1, -, m4⟩, hfin⟩ := h.readQ t1
  obtain ⟨-, -, -, -, -, -, -, -, -, -, -, -, -, hQ, hHd, hN⟩ := id h8
  by_cases hc : 0 ≤ (a 1).toInt ∧ (a 1).toInt < 5
  · obtain ⟨what, hwh, ew⟩ := in_of (x := a 1) (w := 5) (by decide) hc
    obtain ⟨⟨fb, r2⟩, x2, k1, k2, hK2, k3, k4⟩ := hfin r1 hK1
    dsimp only at k1 k2 hK2 k3 k4
    have hf1 : gR r1 1 5 = f := by rw [m2]; exact hR5
    have e5' : gI r1 f 5 = nI Q := by rw [hK1 f 5 (by omega)]; exact e5
    have c8 : fX8_sheet r1 (a 1) = if fb = true then (bnd (fX8_sum r2 (a 1)) fun v5 σ8 => some (v5, σ8)) else some ((-1000000 : Int32), r2) := by
      unfold fX8_sheet
      rw [hK1 73 12 (by omega), t2, if_neg (by decide), if_pos (by rw [in_eq, le_i, le_i]; omega), bnd_of _ x2]
    by_cases hm : m
    · obtain ⟨d1, jq⟩ := m4 hm
      obtain ⟨⟨v, r3⟩, y1, y2, y3, y4⟩ := sum8 (what := what) (r1 := r1) (by omega) h8 (k4 hm) jq
      dsimp only at y2 y3 y4
      refine ⟨itr (shW r1 what) 0 Q, r1, r3, ?_, ?_, Rel.kj h (y3.trans (k2.trans m2)) y4.1⟩
      · unfold fX7_sheet
        rw [hR5, hR1, t1, if_neg (by decide)]
        simp only [lt_i, le_i]
        rw [if_neg (by omega), if_pos (by omega), bnd_of _ x1, if_pos (m1.mpr hm), hf1, gains7 hQ e5', show fX3_inState r1 f (1 : Int32) = _ from state7 (k := 1) (Or.inl rfl) hQ e5', show fX3_inState r1 f (2 : Int32) = _ from state7 (k := 2) (Or.inr rfl) hQ e5', empty7 hQ e5', rubbed7 hQ e5' (fun p hp => by obtain ⟨y, -, -, ⟨m, h1, h2, -⟩, -⟩ := (jq p hp).1; exact ⟨m, h1, h2⟩), ew]
        rcases (show what = 0 ∨ what = 1 ∨ what = 2 ∨ what = 3 ∨ what = 4 by omega) with rfl | rfl | rfl | rfl | rfl
        · rw [if_pos (show nI 0 = (0 : Int32) from rfl)]; rfl
        · rw [if_neg (by decide), if_pos (show nI 1 = (1 : Int32) from rfl)]; rfl
        · rw [if_neg (by decide), if_neg (by decide), if_pos (show nI 2 = (2 : Int32) from rfl)]; rfl
        · rw [if_neg (by decide), if_neg (by decide), if_neg (by decide), if_pos (show nI 3 = (3 : Int32) from rfl)]; rfl
        · rw [if_neg (by decide), if_neg (by decide), if_neg (by decide), if_neg (by decide)]; rfl
      · rw [c8, if_pos (k1.mpr hm), ew, bnd_of _ y1, y2]
    · refine ⟨_, r1, r2, ?_, by rw [c8, if_neg fun e => hm (k1.mp e)], Rel.kj h (k2.trans m2) hK2⟩
      unfold fX7_sheet
      rw [hR5, hR1, t1, if_neg (by decide)]
      simp only [lt_i, le_i]
      rw [if_neg (by omega), if_pos (by omega), bnd_of _ x1, if_neg fun e => hm (m1.mp e)]
  · refine ⟨-2147483648, σ, σ, ?_, ?_, s, f, h⟩
    · unfold fX7_sheet
      rw [hR5, t1, if_neg (by decide)]
      simp only [lt_i, le_i]
      by_cases c2 : (a 1).toInt < (0 : Int32).toInt
      · rw [if_pos c2]
      · rw [if_neg c2, if_neg (by omega)]
    · unfold fX8_sheet
      rw [t2, if_neg (by decide), if_neg (by rw [in_eq, le_i, le_i]; omega)]
