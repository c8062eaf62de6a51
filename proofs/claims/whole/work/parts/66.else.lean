/-! Apart kept: the boxes judged otherwise than by the gap. -/
noncomputable def dfW (HB AH : Nat → Prop) (k : Nat) : Nat := @ite _ (HB k ↔ AH k) (Classical.propDecidable _) 0 1
theorem dfW_y {HB AH : Nat → Prop} {k : Nat} (h : HB k ↔ AH k) : dfW HB AH k = 0 := by unfold dfW; rw [if_pos h]
theorem dfW_n {HB AH : Nat → Prop} {k : Nat} (h : ¬ (HB k ↔ AH k)) : dfW HB AH k = 1 := by unfold dfW; rw [if_neg h]
def HbW (s : SS) (E : Nat → Nat) (k : Nat) : Prop := (gI s 53 (E k / 6) >>> (nI (E k % 6) &&& 31)) &&& 1 = (1 : Int32)
def AhW (D O : Nat → Nat) (u k : Nat) : Prop := 0 < u ∧ ¬ nI (D k) < nI (D (O (u - 1)))
theorem bit_at (n q i : Nat) (h : n = 6 * q + i) (hi : i < 6) : n / 6 = q ∧ n % 6 = i := by omega
theorem Bs.bit {v : Int32} {T : Nat → Prop} (h : Bs v T) {b : Nat} (hb : b < 6) : ((v >>> (nI b &&& 31)) &&& 1 = (1 : Int32)) ↔ T b := by
  obtain ⟨m, h1, rfl, h3⟩ := h
  exact (bit_has m h1 b hb).trans (h3 b hb)
section ELSE7
variable {s : SS} {f Q T u : Nat} {N D O : Nat → Nat}
theorem else7 (hQ : Q ≤ 12) (e5 : gI s f 5 = nI Q) (hT : psum N Q ≤ 72) (hN : ∀ p, p < Q → N p ≤ 6 ∧ gI s (f + 2) p = nI (psum N p) ∧ gI s (f + 3) p = nI (N p)) (hu : u ≤ psum N Q) (h52 : ∀ k, k < psum N Q → gI s 52 k = nI (O k)) (hO : ∀ k, k < psum N Q → O k < psum N Q) (h51 : ∀ k, k < psum N Q → gI s 51 k = nI (D k)) : fX3_judgedElse s f (nI u) = some (nI (gs (fun _ => True) (dfW (HbW s (Ef N Q)) (AhW D O u)) (psum N Q))) := by
  unfold fX3_judgedElse X3_judgedElse_L5
  refine lp_2 (fun q => nI (gs (fun _ => True) (dfW (HbW s (Ef N Q)) (AhW D O u)) (psum N q))) (fun q => nI q) Q _ (fun q hq rec => ?_) (fun rec => ?_) fuel (fuel_gt (by omega))
  · obtain ⟨n6, g2, g3⟩ := hN q hq
    rw [e5, if_neg (nI_ge hq (by omega))]
    unfold X3_judgedElse_L17
    refine lp_2 (fun i => nI (gs (fun _ => True) (dfW (HbW s (Ef N Q)) (AhW D O u)) (psum N q + i))) (fun i => nI i) (N q) (rec (nI (gs (fun _ => True) (dfW (HbW s (Ef N Q)) (AhW D O u)) (psum N q + N q))) (nI (q + 1))) (fun i hi rec2 => ?_) (fun rec2 => ?_) fuel (fuel_gt (by omega))
    · have hlt := psum_lt hq hi
      obtain ⟨b1, b2⟩ := bit_at _ q i (Ef_at Q q i hq hi) (by omega)
      have eb : HbW s (Ef N Q) (psum N q + i) = ((gI s 53 q >>> (nI i &&& 31)) &&& 1 = (1 : Int32)) := by unfold HbW; rw [b1, b2]
      have eg : gs (fun _ => True) (dfW (HbW s (Ef N Q)) (AhW D O u)) (psum N q + (i + 1)) = gs (fun _ => True) (dfW (HbW s (Ef N Q)) (AhW D O u)) (psum N q + i) + dfW (HbW s (Ef N Q)) (AhW D O u) (psum N q + i) := gs_t trivial
      simp only [eg, vthen_q, nI_1]
      rw [grd_eq _ (inb_nI (by omega) (by decide)), nI_clamp (by omega), g3, if_neg (nI_ge hi (by omega))]
      rcases (show u = 0 ∨ ∃ m, u = m + 1 from by rcases u with _ | m; exact Or.inl rfl; exact Or.inr ⟨m, rfl⟩) with rfl | ⟨m, rfl⟩
      · have na : ¬ AhW D O 0 (psum N q + i) := fun h => absurd h.1 (by omega)
        simp only [if_pos (show nI 0 ≤ (0 : Int32) by decide)]
        by_cases hb : (gI s 53 q >>> (nI i &&& 31)) &&& 1 = (1 : Int32)
        · rw [if_pos hb, if_neg (show ¬ (1 : Int32) = 0 by decide), dfW_n (fun h => na (h.mp (by rw [eb]; exact hb)))]
        · rw [if_neg hb, if_pos trivial, dfW_y (iff_of_false (by rw [eb]; exact hb) na)]; try rfl
      · have om := hO m (by omega)
        have ea : AhW D O (m + 1) (psum N q + i) ↔ ¬ nI (D (psum N q + i)) < nI (D (O m)) := ⟨fun h => h.2, fun h => ⟨by omega, h⟩⟩
        simp only [if_neg (show ¬ nI (m + 1) ≤ (0 : Int32) from nI_nle (by omega) (by omega)), show nI (m + 1) - (1 : Int32) = nI m from nI_pred m, g2, nI_add, nI_clamp (show m < 2 ^ 31 by omega), nI_clamp (show psum N q + i < 2 ^ 31 by omega), h52 m (by omega), nI_clamp (show O m < 2 ^ 31 by omega), h51 _ hlt, h51 _ om, grd_eq _ (show inb (nI (psum N q + i)) 72 = true from inb_nI (by omega) (by decide)), grd_eq _ (show inb (nI m) 72 = true from inb_nI (by omega) (by decide)), grd_eq _ (show inb (nI (O m)) 72 = true from inb_nI (by omega) (by decide))]
        by_cases hb : (gI s 53 q >>> (nI i &&& 31)) &&& 1 = (1 : Int32)
        · have hb' : HbW s (Ef N Q) (psum N q + i) := by rw [eb]; exact hb
          rw [if_pos hb]
          by_cases hl : nI (D (psum N q + i)) < nI (D (O m))
          · rw [if_pos hl, if_neg (show ¬ (1 : Int32) = 0 by decide), dfW_n (fun h => ea.mp (h.mp hb') hl)]
          · rw [if_neg hl, if_pos trivial, dfW_y (iff_of_true hb' (ea.mpr hl))]; try rfl
        · have hb' : ¬ HbW s (Ef N Q) (psum N q + i) := by rw [eb]; exact hb
          rw [if_neg hb]
          by_cases hl : nI (D (psum N q + i)) < nI (D (O m))
          · rw [if_pos hl, if_pos trivial, dfW_y (iff_of_false hb' fun h => ea.mp h hl)]; try rfl
          · rw [if_neg hl, if_neg (show ¬ (0 : Int32) = 1 by decide), dfW_n (fun h => hb' (h.mpr (ea.mpr hl)))]
    · rw [grd_eq _ (inb_nI (by omega) (by decide)), nI_clamp (by omega), g3, if_pos (nI_le (Nat.le_refl _) (by omega)), nI_1]
  · rw [e5, if_pos (nI_le (Nat.le_refl _) (by omega))]
end ELSE7
section ELSE8
variable {w q spk : Nat} {lvl mk : Int32} {pic : Nat → Int32} {b U V A B Q : Nat} {N cx cy D : Nat → Nat} {P : Nat} {σ s r1 : SS} {u : Nat} {O : Nat → Nat}
theorem else8 (h8 : C8 w q spk lvl mk pic b U V A B Q N cx cy σ) (hJ : Jd b Q N D P σ r1) (hG : G8 Q N D P σ s) (hT : psum N Q ≤ 72) (hu : u ≤ psum N Q) (hO : ∀ k, k < psum N Q → O k < psum N Q) (h108 : ∀ k, k < psum N Q → gI s 108 k = nI (Ef N Q (O k))) : WP (X8_apart_L236 (nI (psum N Q)) (nI u) fuel (0 : Int32) (0 : Int32) s) (fun w => w.1 = nI (gs (fun _ => True) (dfW (fun k => HbW r1 (Ef N Q) (O k)) fun k => k < u) (psum N Q)) ∧ gR w.2 = gR s ∧ Kj σ w.2) := by
  obtain ⟨-, -, -, -, -, -, -, -, -, -, -, -, -, hQ, hHd, hN⟩ := id h8
  unfold X8_apart_L236
  refine wf_3 (psum N Q) (fun k v5 v6 t => v5 = nI (gs (fun _ => True) (dfW (fun k => HbW r1 (Ef N Q) (O k)) fun k => k < u) k) ∧ v6 = nI k ∧ gR t = gR s ∧ G8 Q N D P σ t ∧ ∀ k, k < psum N Q → gI t 108 k = nI (Ef N Q (O k))) ⟨rfl, rfl, rfl, hG, h108⟩ (by omega) ?_ ?_
  · rintro k _ _ t rec hk ⟨rfl, rfl, i1, hG, hd⟩ hr
    obtain ⟨p, i, hp, hi, eo⟩ := psum_at Q (O k) (hO k hk)
    have n6 := (hN p hp).1
    have eE := Ef_at (N := N) Q p i hp hi
    rw [← eo] at eE
    rw [if_neg (nI_ge hk (by omega)), nI_clamp (by omega), hd k hk, eE, show nI (6 * p + i) / 6 = nI p by rw [show nI (6 * p + i) / 6 = nI ((6 * p + i) / 6) from pk_div (d := 6) (by omega) (by omega) (by omega), show (6 * p + i) / 6 = p by omega]]
    refine wp_grd (inb_nI (by omega) (by decide)) (wp_bnd1 (hG.j h8 hp (gI t 88 3)) ?_)
    rintro r ⟨y1, y2, y3, y4⟩
    rw [hG.1 88 3 (by omega)] at y3
    obtain ⟨j1, -⟩ := hJ p hp
    obtain ⟨z1, -⟩ := j1.one y3
    have hd2 : ∀ k, k < psum N Q → gI r 108 k = nI (Ef N Q (O k)) := fun k hk => (y4 108 k (by omega) (by omega)).trans (hd k hk)
    obtain ⟨y, -, bs, -⟩ := y3
    have hB : fX8_has r (gI r 73 55) (nI i) = true ↔ HbW r1 (Ef N Q) (O k) := by
      obtain ⟨b1, b2⟩ := bit_at _ p i eE (by omega)
      unfold HbW
      rw [b1, b2, z1]
      exact (bs.has r (by omega)).trans (bs.bit (by omega)).symm
    have eg : gs (fun _ => True) (dfW (fun k => HbW r1 (Ef N Q) (O k)) fun k => k < u) (k + 1) = gs (fun _ => True) (dfW (fun k => HbW r1 (Ef N Q) (O k)) fun k => k < u) k + dfW (fun k => HbW r1 (Ef N Q) (O k)) (fun k => k < u) k := gs_t trivial
    have em : irm (nI (6 * p + i)) 6 = nI i := by rw [show irm (nI (6 * p + i)) 6 = nI ((6 * p + i) % 6) from pk_rem (d := 6) (by omega) (by omega) (by omega), show (6 * p + i) % 6 = i by omega]
    simp only [vthen_q]
    rw [hd2 k hk, eE, em, nI_1, Int32.add_zero, nI_1]
    have yes : (HbW r1 (Ef N Q) (O k) ↔ k < u) → nI (gs (fun _ => True) (dfW (fun k => HbW r1 (Ef N Q) (O k)) fun k => k < u) k) = nI (gs (fun _ => True) (dfW (fun k => HbW r1 (Ef N Q) (O k)) fun k => k < u) (k + 1)) := fun h => by rw [eg, dfW_y (HB := fun k => HbW r1 (Ef N Q) (O k)) h, Nat.add_zero]
    have no : ¬ (HbW r1 (Ef N Q) (O k) ↔ k < u) → nI (gs (fun _ => True) (dfW (fun k => HbW r1 (Ef N Q) (O k)) fun k => k < u) k + 1) = nI (gs (fun _ => True) (dfW (fun k => HbW r1 (Ef N Q) (O k)) fun k => k < u) (k + 1)) := fun h => by rw [eg, dfW_n (HB := fun k => HbW r1 (Ef N Q) (O k)) h]
    by_cases cb : HbW r1 (Ef N Q) (O k)
    · rw [hB.mpr cb, show b2i true = (1 : Int32) from rfl]
      by_cases cu : k < u
      · rw [if_neg (nI_ge cu (by omega)), if_pos rfl]
        exact hr _ _ _ ⟨yes (iff_of_true cb cu), rfl, y1.trans i1, y2, hd2⟩
      · rw [if_pos (nI_le (by omega) (by omega)), if_neg (by decide)]
        exact hr _ _ _ ⟨no fun h => cu (h.mp cb), rfl, y1.trans i1, y2, hd2⟩
    · have hf : fX8_has r (gI r 73 55) (nI i) = false := by
        rcases h : fX8_has r (gI r 73 55) (nI i) with _ | _
        · rfl
        · exact absurd (hB.mp h) cb
      rw [hf, show b2i false = (0 : Int32) from rfl]
      by_cases cu : k < u
      · rw [if_neg (nI_ge cu (by omega)), if_neg (by decide)]
        exact hr _ _ _ ⟨no fun h => cb (h.mpr cu), rfl, y1.trans i1, y2, hd2⟩
      · rw [if_pos (nI_le (by omega) (by omega)), if_pos rfl]
        exact hr _ _ _ ⟨yes (iff_of_false cb cu), rfl, y1.trans i1, y2, hd2⟩
  · rintro _ _ t rec ⟨rfl, rfl, i1, hG, hd⟩
    rw [if_pos (nI_le (Nat.le_refl _) (by omega))]
    exact wp_some ⟨rfl, i1, hG.1⟩
end ELSE8
