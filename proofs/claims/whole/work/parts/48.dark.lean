/-! How dark the boxes are: the class's half. -/
/-- one unit's dot -/
def dkU (pic : Nat → Int32) (w q : Nat) (X Y S : Nat → Nat) (A2 B2 p r : Nat) : Nat := if (0 ≤ (rdV X S A2 B2 p r).toInt ∧ (rdV X S A2 B2 p r).toInt < w) ∧ 0 ≤ (rdV Y S A2 B2 p r).toInt ∧ (rdV Y S A2 B2 p r).toInt < q then sN pic ((rdV Y S A2 B2 p r).toInt.toNat * w + (rdV X S A2 B2 p r).toInt.toNat) else 0
def dkR (pic : Nat → Int32) (w q : Nat) (X Y S : Nat → Nat) (A2 B2 cx cy j n : Nat) : Nat → Nat := itr (fun i acc => acc + dkU pic w q X Y S A2 B2 (2 * (cx + i) + 1) (2 * (cy + j) + 1)) n
def dkV (pic : Nat → Int32) (w q : Nat) (X Y S : Nat → Nat) (A2 B2 A B cx cy : Nat) : Nat := itr (fun j acc => dkR pic w q X Y S A2 B2 cx cy j acc A) 0 B
def pN (D : Nat → Nat) : Nat → Nat
  | 0 => 0
  | k + 1 => if k = 0 then D 0 else min (pN D k) (D k)
section DARK
variable {pic : Nat → Int32} {w q : Nat} {X Y S : Nat → Nat} {A2 B2 : Nat}
theorem dkU_le (hp : ∀ k, k < w * q → inR (pic k) 0 9) (p r : Nat) : dkU pic w q X Y S A2 B2 p r ≤ 9 := by
  unfold dkU
  split
  · rename_i h
    exact (sN_of (hp _ (cell_lt (by omega) (by omega)))).2
  · omega
theorem dkR_le (hp : ∀ k, k < w * q → inR (pic k) 0 9) (cx cy j n : Nat) : ∀ i, dkR pic w q X Y S A2 B2 cx cy j n i ≤ n + 9 * i
  | 0 => Nat.le_refl _
  | i + 1 => by
    have ih := dkR_le hp cx cy j n i
    have := dkU_le (X := X) (Y := Y) (S := S) (A2 := A2) (B2 := B2) hp (2 * (cx + i) + 1) (2 * (cy + j) + 1)
    show dkR pic w q X Y S A2 B2 cx cy j n i + dkU pic w q X Y S A2 B2 (2 * (cx + i) + 1) (2 * (cy + j) + 1) ≤ _
    omega
theorem dkV_le (hp : ∀ k, k < w * q → inR (pic k) 0 9) (A cx cy : Nat) : ∀ B, dkV pic w q X Y S A2 B2 A B cx cy ≤ 9 * A * B
  | 0 => Nat.zero_le _
  | B + 1 => by
    have ih := dkV_le hp A cx cy B
    have e : dkV pic w q X Y S A2 B2 A (B + 1) cx cy = dkR pic w q X Y S A2 B2 cx cy B (dkV pic w q X Y S A2 B2 A B cx cy) A := rfl
    have h := dkR_le (X := X) (Y := Y) (S := S) (A2 := A2) (B2 := B2) hp cx cy B (dkV pic w q X Y S A2 B2 A B cx cy) A
    rw [e, Nat.mul_add, Nat.mul_one]; omega
theorem pN_le {D : Nat → Nat} {M : Nat} (h : ∀ k, D k ≤ M) : ∀ k, pN D k ≤ M
  | 0 => Nat.zero_le _
  | k + 1 => by
    have ih := pN_le h k
    have := h k
    have := h 0
    show (if k = 0 then D 0 else min (pN D k) (D k)) ≤ M
    split <;> omega
end DARK
section MEAS
variable {σ : SS} {pic : Nat → Int32} {sc f w q U V A B : Nat} {X Y S cx cy : Nat → Nat}
theorem dark7 {k : Nat} (hw : 8 ≤ w ∧ w ≤ 40) (hq : 8 ≤ q ∧ q ≤ 40) (e1 : gI σ sc 0 = nI w) (e2 : gI σ sc 1 = nI q) (hp : ∀ k, k < w * q → gI σ (sc + 1) k = pic k ∧ inR (pic k) 0 9) (hP : Pl X Y S (2 * U) (2 * V) σ) (hS : ∀ k, k < 4 → 1 ≤ S k ∧ S k ≤ 1600) (hU : 4 ≤ U ∧ U ≤ 40) (hV : 4 ≤ V ∧ V ≤ 40) (hA : 1 ≤ A ∧ A ≤ 6) (hB : 1 ≤ B ∧ B ≤ 6) (g3 : gI σ f 3 = nI A) (g4 : gI σ f 4 = nI B) (hk : k < 72) (g6 : gI σ (f + 6) k = nI (cx k)) (g7 : gI σ (f + 7) k = nI (cy k)) (hcx : cx k + A ≤ U) (hcy : cy k + B ≤ V) : fX3_darkOf σ sc f (nI k) = some (nI (dkV pic w q X Y S (2 * U) (2 * V) A B (cx k) (cy k))) := by
  have ha := area_le hw.2 hq.2
  suffices hh : WP (fX3_darkOf σ sc f (nI k)) (fun v => v = nI (dkV pic w q X Y S (2 * U) (2 * V) A B (cx k) (cy k))) by
    obtain ⟨v, h1, rfl⟩ := hh
    exact h1
  unfold fX3_darkOf
  rw [nI_clamp (by omega), g6, g7]
  refine wp_grd (inb_nI hk (by decide)) (wp_v (wp_v ?_))
  unfold X3_darkOf_L23
  refine wf_2 B (fun j v c => v = nI (dkV pic w q X Y S (2 * U) (2 * V) A j (cx k) (cy k)) ∧ c = nI (cy k + j)) ⟨rfl, rfl⟩ (by omega) ?_ ?_
  · rintro j _ _ rec hj ⟨rfl, rfl⟩ hr
    rw [g4, nI_add, if_neg (nI_ge (by omega) (by omega)), nI_1]
    unfold X3_darkOf_L39
    refine wf_2 A (fun i v c => v = nI (dkR pic w q X Y S (2 * U) (2 * V) (cx k) (cy k) j (dkV pic w q X Y S (2 * U) (2 * V) A j (cx k) (cy k)) i) ∧ c = nI (cx k + i)) ⟨rfl, rfl⟩ (by omega) ?_ ?_
    · rintro i _ _ rec2 hi ⟨rfl, rfl⟩ hr2
      have ex : (2 : Int32) * nI (cx k + i) + 1 = nI (2 * (cx k + i) + 1) := by rw [show (2 : Int32) = nI 2 from rfl, nI_mul, nI_1]
      have ey : (2 : Int32) * nI (cy k + j) + 1 = nI (2 * (cy k + j) + 1) := by rw [show (2 : Int32) = nI 2 from rfl, nI_mul, nI_1]
      obtain ⟨d1, d2, -⟩ := dots7 (i := 2 * (cx k + i) + 1) (j := 2 * (cy k + j) + 1) hP hS (by omega) (by omega) (by omega) (by omega)
      rw [g3, nI_add, if_neg (nI_ge (by omega) (by omega)), ex, ey, d1, d2, bnd1_some, bnd1_some, at_eq e1 e2 hw.2 hq.2, bnd1_some, nI_1]
      refine wp_v (hr2 _ _ ⟨?_, rfl⟩)
      have er : dkR pic w q X Y S (2 * U) (2 * V) (cx k) (cy k) j (dkV pic w q X Y S (2 * U) (2 * V) A j (cx k) (cy k)) (i + 1) = dkR pic w q X Y S (2 * U) (2 * V) (cx k) (cy k) j (dkV pic w q X Y S (2 * U) (2 * V) A j (cx k) (cy k)) i + dkU pic w q X Y S (2 * U) (2 * V) (2 * (cx k + i) + 1) (2 * (cy k + j) + 1) := rfl
      rw [er, ← nI_add]
      congr 1
      unfold dkU
      split
      · rename_i h
        have hl := cell_lt (w := w) (h := q) (X := (rdV X S (2 * U) (2 * V) (2 * (cx k + i) + 1) (2 * (cy k + j) + 1)).toInt.toNat) (Y := (rdV Y S (2 * U) (2 * V) (2 * (cx k + i) + 1) (2 * (cy k + j) + 1)).toInt.toNat) (by omega) (by omega)
        rw [(hp _ hl).1]
        exact (sN_of (hp _ hl).2).1
      · rfl
    · rintro _ _ rec2 ⟨rfl, rfl⟩
      rw [g3, nI_add, if_pos (nI_le (by omega) (by omega))]
      exact hr _ _ ⟨rfl, rfl⟩
  · rintro _ _ rec ⟨rfl, rfl⟩
    rw [g4, nI_add, if_pos (nI_le (by omega) (by omega))]
    exact wp_some rfl
end MEAS
/-- what the class judges by: a scan, settings, a form -/
def C7 (sc f w q spk : Nat) (lvl mk : Int32) (pic : Nat → Int32) (U V A B T : Nat) (cx cy : Nat → Nat) (σ : SS) : Prop :=
  (sc = 3 ∨ sc = 6) ∧ (f = 10 ∨ f = 18) ∧ (8 ≤ w ∧ w ≤ 40) ∧ (8 ≤ q ∧ q ≤ 40) ∧ (1 ≤ spk ∧ spk ≤ 20) ∧ gI σ sc 0 = nI w ∧ gI σ sc 1 = nI q ∧ (∀ k, k < w * q → gI σ (sc + 1) k = pic k ∧ inR (pic k) 0 9) ∧ gI σ 32 0 = lvl ∧ gI σ 32 1 = nI spk ∧ gI σ 32 2 = mk ∧
  (4 ≤ U ∧ U ≤ 40) ∧ (4 ≤ V ∧ V ≤ 40) ∧ (1 ≤ A ∧ A ≤ 6) ∧ (1 ≤ B ∧ B ≤ 6) ∧ T ≤ 72 ∧ gI σ f 1 = nI U ∧ gI σ f 2 = nI V ∧ gI σ f 3 = nI A ∧ gI σ f 4 = nI B ∧ gI σ f 6 = nI T ∧ ∀ k, k < T → (gI σ (f + 6) k = nI (cx k) ∧ cx k + A ≤ U) ∧ (gI σ (f + 7) k = nI (cy k) ∧ cy k + B ≤ V)
def inkP (lvl : Int32) (pic : Nat → Int32) (k : Nat) : Prop := ¬ pic k < lvl
noncomputable def dkD (w q spk : Nat) (lvl mk : Int32) (pic : Nat → Int32) (U V A B : Nat) (cx cy : Nat → Nat) (k : Nat) : Nat := dkV pic w q (mX w q spk mk (inkP lvl pic)) (mY w q spk mk (inkP lvl pic)) (mS w q spk mk (inkP lvl pic)) (2 * U) (2 * V) A B (cx k) (cy k)
theorem dkD_le {w q spk : Nat} {lvl mk : Int32} {pic : Nat → Int32} {U V A B : Nat} {cx cy : Nat → Nat} (hp : ∀ k, k < w * q → inR (pic k) 0 9) (hA : A ≤ 6) (hB : B ≤ 6) (k : Nat) : dkD w q spk lvl mk pic U V A B cx cy k ≤ 324 := by
  refine Nat.le_trans (dkV_le hp A _ _ B) ?_
  have := Nat.mul_le_mul (Nat.mul_le_mul (Nat.le_refl 9) hA) hB
  omega
theorem measure7 {sc f w q spk : Nat} {lvl mk : Int32} {pic : Nat → Int32} {U V A B T : Nat} {cx cy : Nat → Nat} {σ : SS} (h : C7 sc f w q spk lvl mk pic U V A B T cx cy σ) : WP (fX3_measure σ sc f) (fun r => (r.1 = true ↔ frU (mkB w q spk mk (inkP lvl pic)) 4) ∧ gR r.2 = gR σ ∧ (∀ c k, ¬ (33 ≤ c ∧ c ≤ 51) → ¬ (c = 31 ∧ k = 6) → gI r.2 c k = gI σ c k) ∧ (frU (mkB w q spk mk (inkP lvl pic)) 4 → (∀ k, k < T → gI r.2 51 k = nI (dkD w q spk lvl mk pic U V A B cx cy k)) ∧ (0 < T → gI r.2 31 6 = nI (pN (dkD w q spk lvl mk pic U V A B cx cy) T)))) := by
  obtain ⟨hs, hf, hw, hq, hspk, e1, e2, hp, el, es, em, hU, hV, hA, hB, hT, g1, g2, g3, g4, g6, gx⟩ := h
  unfold fX3_measure
  refine wp_bndp (locate7 (σ := σ) (ink := inkP lvl pic) hs hw hq e1 e2 (fun k hk => by rw [el, (hp k hk).1]; exact Int32.not_lt.symm) es hspk em) ?_
  rintro mb r1 ⟨a0, a1, a2, a3, a4⟩
  dsimp only at a0 a1 a2 a3 a4
  refine wp_if (fun hb => ?_) fun hb => wp_some ⟨⟨fun h => absurd (show false = true from h) (by decide), fun h => absurd (a0.mpr h) hb⟩, a1, fun c k c1 _ => a2 c k (by omega), fun h => absurd (a0.mpr h) hb⟩
  have hm := a0.mp hb
  have hS := mS_bd hw hq hspk.1 hm
  have hM := mk7_of hw.2 hq.2 (a4 hm)
  rw [a2 f 1 (by omega), a2 f 2 (by omega), g1, g2]
  refine wp_bnd1 (spread7 (U := U) (V := V) hM (by omega) (by omega)) ?_
  rintro r2 ⟨y2, y3, y4⟩
  have hr2 : ∀ c k, ¬ (33 ≤ c ∧ c ≤ 51) → gI r2 c k = gI σ c k := fun c k hc => by rw [y3 c k (by omega), a2 c k (by omega)]
  have dle := fun k => dkD_le (w := w) (q := q) (spk := spk) (lvl := lvl) (mk := mk) (pic := pic) (U := U) (V := V) (A := A) (B := B) (cx := cx) (cy := cy) (fun k hk => (hp k hk).2) hA.2 hB.2 k
  unfold X3_measure_L27
  refine wf_2 T (fun k v s' => v = nI k ∧ gR s' = gR r2 ∧ (∀ c j, c ≠ 51 → ¬ (c = 31 ∧ j = 6) → gI s' c j = gI r2 c j) ∧ (∀ c j, gL s' c j = gL r2 c j) ∧ (∀ j, j < k → gI s' 51 j = nI (dkD w q spk lvl mk pic U V A B cx cy j)) ∧ (0 < k → gI s' 31 6 = nI (pN (dkD w q spk lvl mk pic U V A B cx cy) k))) ⟨rfl, rfl, fun _ _ _ _ => rfl, fun _ _ => rfl, fun j hj => absurd hj (by omega), fun h => absurd h (by omega)⟩ (by omega) ?_ ?_
  · rintro k _ s' rec hk ⟨rfl, i1, i2, i3, i4, i5⟩ hr
    have fr : ∀ c j, ¬ (33 ≤ c ∧ c ≤ 51) → ¬ (c = 31 ∧ j = 6) → gI s' c j = gI σ c j := fun c j c1 c2 => by rw [i2 c j (by omega) c2, hr2 c j c1]
    obtain ⟨⟨x1, x2⟩, x3, x4⟩ := gx k hk
    have hP : Pl (mX w q spk mk (inkP lvl pic)) (mY w q spk mk (inkP lvl pic)) (mS w q spk mk (inkP lvl pic)) (2 * U) (2 * V) s' := by
      obtain ⟨p1, p2, p3, p4⟩ := y4
      exact ⟨fun k hk => by rw [i3, i3]; exact p1 k hk, by rw [i3]; exact p2, by rw [i2 _ _ (by omega) (by omega)]; exact p3, by rw [i2 _ _ (by omega) (by omega)]; exact p4⟩
    rw [fr f 6 (by omega) (by omega), g6, if_neg (nI_ge hk (by omega)), bnd1_of _ (dark7 (σ := s') (sc := sc) (f := f) (pic := pic) (k := k) hw hq (by rw [fr _ _ (by omega) (by omega)]; exact e1) (by rw [fr _ _ (by omega) (by omega)]; exact e2) (fun j hj => by rw [fr _ _ (by omega) (by omega)]; exact hp j hj) hP hS hU hV hA hB (by rw [fr _ _ (by omega) (by omega)]; exact g3) (by rw [fr _ _ (by omega) (by omega)]; exact g4) (by omega) (by rw [fr _ _ (by omega) (by omega)]; exact x1) (by rw [fr _ _ (by omega) (by omega)]; exact x3) x2 x4), nI_clamp (by omega), nI_1]
    refine wp_grd (inb_nI (by omega) (by decide)) ?_
    refine wp_vv ?_; intro s2 g2'
    have d51 : gI s2 51 k = nI (dkD w q spk lvl mk pic U V A B cx cy k) := by rw [g2', gI_eq]; rfl
    refine wp_vk1 (fun v => v = nI (pN (dkD w q spk lvl mk pic U V A B cx cy) (k + 1))) ?_ fun j' hj' => ?_
    · rintro _ rfl
      refine wp_vv ?_; intro s3 g3'
      refine hr _ _ ⟨rfl, by rw [g3', g2']; exact i1, fun c j c1 c2 => by rw [g3', gI_nk c2, g2', gI_ne c1]; exact i2 c j c1 c2, fun c j => by rw [g3', g2']; exact i3 c j, fun j hj => ?_, fun _ => by rw [g3', gI_eq]⟩
      rw [g3', gI_ne (by omega)]
      by_cases e : j = k
      · subst e; exact d51
      · rw [g2', gI_nk (by omega)]; exact i4 j (by omega)
    · rw [d51]
      have ep : pN (dkD w q spk lvl mk pic U V A B cx cy) (k + 1) = if k = 0 then dkD w q spk lvl mk pic U V A B cx cy 0 else min (pN (dkD w q spk lvl mk pic U V A B cx cy) k) (dkD w q spk lvl mk pic U V A B cx cy k) := rfl
      by_cases c : k = 0
      · subst c
        rw [if_pos (show nI 0 = 0 from rfl)]
        exact hj' _ (by rw [ep, if_pos rfl])
      · have := pN_le dle k
        have := dle k
        rw [if_neg (nI_ne0 (by omega) (by omega)), show gI s2 31 6 = nI (pN (dkD w q spk lvl mk pic U V A B cx cy) k) by rw [g2', gI_ne (by omega)]; exact i5 (by omega), min_nI (by omega) (by omega)]
        exact hj' _ (by rw [ep, if_neg c])
  · rintro _ s' rec ⟨rfl, i1, i2, i3, i4, i5⟩
    rw [i2 f 6 (by omega) (by omega), hr2 f 6 (by omega), g6, if_pos (nI_le (Nat.le_refl _) (by omega))]
    exact wp_some ⟨⟨fun _ => hm, fun _ => rfl⟩, (i1.trans y2).trans a1, fun c k c1 c2 => by rw [i2 c k (by omega) c2]; exact hr2 c k c1, fun _ => ⟨i4, i5⟩⟩
