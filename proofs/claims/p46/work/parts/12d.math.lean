/-! from 46.map of the class-and-reference proof: what speaks of the class alone -/
/-! The map: both sides' numbers. -/
def oth (S : Nat → Nat) (k : Nat) : Nat → Nat
  | 0 => 1
  | i + 1 => if i = k then oth S k i else oth S k i * S i
def allS (S : Nat → Nat) : Nat := S 0 * S 1 * S 2 * S 3
def mpN (Z S : Nat → Nat) (A B i j : Nat) : Nat := Z 0 * oth S 0 4 * ((A - i) * (B - j)) + Z 1 * oth S 1 4 * (i * (B - j)) + Z 2 * oth S 2 4 * ((A - i) * j) + Z 3 * oth S 3 4 * (i * j)
def byN (S : Nat → Nat) (A B : Nat) : Nat := allS S * A * B
def rdV (Z S : Nat → Nat) (A B i j : Nat) : Int32 := Int64.toInt32 ((2 * lN (mpN Z S A B i j) + lN (byN S A B)) / (2 * lN (byN S A B)))
def hdV (Z S : Nat → Nat) (A B i j : Nat) : Int32 := Int64.toInt32 (100 * lN (mpN Z S A B i j) / lN (byN S A B))
theorem oth_e (S : Nat → Nat) : oth S 0 4 = 1 * S 1 * S 2 * S 3 ∧ oth S 1 4 = 1 * S 0 * S 2 * S 3 ∧ oth S 2 4 = 1 * S 0 * S 1 * S 3 ∧ oth S 3 4 = 1 * S 0 * S 1 * S 2 := ⟨rfl, rfl, rfl, rfl⟩
theorem all_div {S : Nat → Nat} (h : ∀ k, k < 4 → 1 ≤ S k) {k : Nat} (hk : k < 4) : allS S / S k = oth S k 4 := by
  have e : allS S = oth S k 4 * S k := by
    obtain ⟨h0, h1, h2, h3⟩ := oth_e S
    unfold allS
    rcases (show k = 0 ∨ k = 1 ∨ k = 2 ∨ k = 3 by omega) with rfl | rfl | rfl | rfl
    · rw [h0]; grind
    · rw [h1]; grind
    · rw [h2]; grind
    · rw [h3]; grind
  rw [e]; exact Nat.mul_div_cancel _ (h k hk)
theorem all_bd {S : Nat → Nat} (h : ∀ k, k < 4 → 1 ≤ S k ∧ S k ≤ 1600) : 1 ≤ allS S ∧ allS S ≤ 6553600000000 := by
  unfold allS
  have h0 := h 0 (by omega)
  have h1 := h 1 (by omega)
  have h2 := h 2 (by omega)
  have h3 := h 3 (by omega)
  constructor
  · exact Nat.mul_pos (Nat.mul_pos (Nat.mul_pos (by omega) (by omega)) (by omega)) (by omega)
  · have := Nat.mul_le_mul (Nat.mul_le_mul (Nat.mul_le_mul h0.2 h1.2) h2.2) h3.2
    omega
theorem by_bd {S : Nat → Nat} {A B : Nat} (h : ∀ k, k < 4 → 1 ≤ S k ∧ S k ≤ 1600) (hA : 1 ≤ A ∧ A ≤ 80) (hB : 1 ≤ B ∧ B ≤ 80) : 1 ≤ byN S A B ∧ 2 * byN S A B < 2 ^ 63 := by
  obtain ⟨h1, h2⟩ := all_bd h
  unfold byN
  constructor
  · exact Nat.mul_pos (Nat.mul_pos h1 hA.1) hB.1
  · have := Nat.mul_le_mul (Nat.mul_le_mul h2 hA.2) hB.2
    omega
section PLACES
variable {σ : SS} {X Y S : Nat → Nat} {U V : Nat}
def Pl (X Y S : Nat → Nat) (A B : Nat) (σ : SS) : Prop := (∀ k, k < 4 → gL σ 49 k = lN (X k * oth S k 4) ∧ gL σ 50 k = lN (Y k * oth S k 4)) ∧ gL σ 45 5 = lN (byN S A B) ∧ gI σ 45 6 = nI A ∧ gI σ 45 7 = nI B
theorem spread7 (h : ∀ k, k < 4 → gL σ 46 k = lN (X k) ∧ gL σ 47 k = lN (Y k) ∧ gL σ 48 k = lN (S k)) (hU : U ≤ 40) (hV : V ≤ 40) : WP (fX5_spread σ (nI U) (nI V)) (fun r => gR r = gR σ ∧ (∀ c k, c ≠ 45 → gI r c k = gI σ c k) ∧ Pl X Y S (2 * U) (2 * V) r) := by
  unfold fX5_spread X5_spread_L2
  refine wf_2 4 (fun k v s' => v = nI k ∧ gR s' = gR σ ∧ (∀ c j, gI s' c j = gI σ c j) ∧ (∀ c j, c ≠ 49 → c ≠ 50 → gL s' c j = gL σ c j) ∧ ∀ j, j < k → gL s' 49 j = lN (X j * oth S j 4) ∧ gL s' 50 j = lN (Y j * oth S j 4)) ⟨rfl, rfl, fun _ _ => rfl, fun _ _ _ _ => rfl, fun j hj => absurd hj (by omega)⟩ (by omega) ?_ ?_
  · rintro k _ s' rec hk ⟨rfl, i1, i2, i3, i4⟩ hr
    rw [if_neg (by show ¬ nI 4 ≤ nI k; exact nI_ge hk (by decide))]
    unfold X5_spread_L13
    refine wf_2 4 (fun i w v => w = lN (oth S k i) ∧ v = nI i) ⟨rfl, rfl⟩ (by omega) ?_ ?_
    · rintro i _ _ rec2 hi ⟨rfl, rfl⟩ hr2
      rw [if_neg (by show ¬ nI 4 ≤ nI i; exact nI_ge hi (by decide)), nI_clamp (by omega), i3 _ _ (by omega) (by omega), (h i hi).2.2, lN_mul, nI_1]
      have e : oth S k (i + 1) = if i = k then oth S k i else oth S k i * S i := rfl
      refine wp_if (fun hc => hr2 _ _ ⟨?_, rfl⟩) fun hc => wp_grd (inb_nI hi (by decide)) (wp_v (hr2 _ _ ⟨?_, rfl⟩))
      · rw [e, if_pos ((nI_eq (by omega) (by omega)).mp hc)]
      · rw [e, if_neg fun q => hc (by rw [q])]
    · rintro _ _ rec2 ⟨rfl, rfl⟩
      rw [if_pos (by decide), nI_clamp (by omega), nI_1]
      refine wp_grd (inb_nI hk (by decide)) ?_
      refine wp_vv ?_; intro s2 g2
      refine wp_vv ?_; intro s3 g3
      refine hr _ _ ⟨rfl, by rw [g3, g2]; exact i1, fun c j => by rw [g3, g2]; exact i2 c j, fun c j c1 c2 => by rw [g3, gL_sL, if_neg (by omega), g2, gL_sL, if_neg (by omega)]; exact i3 c j c1 c2, fun j hj => ?_⟩
      by_cases e : j = k
      · subst e
        constructor
        · rw [g3, gL_sL, if_neg (by omega), g2, gL_sL, if_pos ⟨rfl, rfl⟩, i3 _ _ (by omega) (by omega), (h j hk).1, lN_mul]
        · rw [g3, gL_sL, if_pos ⟨rfl, rfl⟩, g2, gL_sL, if_neg (by omega), i3 _ _ (by omega) (by omega), (h j hk).2.1, lN_mul]
      · obtain ⟨k1, k2⟩ := i4 j (by omega)
        constructor
        · rw [g3, gL_sL, if_neg (by omega), g2, gL_sL, if_neg (by omega)]; exact k1
        · rw [g3, gL_sL, if_neg (by omega), g2, gL_sL, if_neg (by omega)]; exact k2
  · rintro _ s' rec ⟨rfl, i1, i2, i3, i4⟩
    rw [if_pos (by decide)]
    refine wp_vv ?_; intro s2 g2
    refine wp_vv ?_; intro s3 g3
    have eU : (2 : Int32) * nI U = nI (2 * U) := nI_mul 2 U
    have eV : (2 : Int32) * nI V = nI (2 * V) := nI_mul 2 V
    have k6 : gI s3 45 6 = nI (2 * U) := by rw [g3, gI_nk (by omega), g2, gI_eq, eU]
    have k7 : gI s3 45 7 = nI (2 * V) := by rw [g3, gI_eq, eV]
    have kL : ∀ c j, gL s3 c j = gL s' c j := fun c j => by rw [g3, g2]; rfl
    refine wp_vv ?_; intro s4 g4
    refine wp_some ⟨by rw [g4, g3, g2]; exact i1, fun c j hc => by rw [g4, gI_sL, g3, gI_ne hc, g2, gI_ne hc]; exact i2 c j, ?_, ?_, by rw [g4, gI_sL]; exact k6, by rw [g4, gI_sL]; exact k7⟩
    · intro k hk
      rw [g4, gL_sL, if_neg (by omega), gL_sL, if_neg (by omega), kL, kL]
      exact i4 k hk
    · rw [g4, gL_sL, if_pos ⟨rfl, rfl⟩, kL, kL, kL, kL, i3 _ _ (by omega) (by omega), i3 _ _ (by omega) (by omega), i3 _ _ (by omega) (by omega), i3 _ _ (by omega) (by omega), (h 0 (by omega)).2.2, (h 1 (by omega)).2.2, (h 2 (by omega)).2.2, (h 3 (by omega)).2.2, k6, k7, nI_l (by omega), nI_l (by omega), lN_mul, lN_mul, lN_mul, lN_mul, lN_mul]
      rfl
theorem weigh7 {A B i j : Nat} {Z : Nat → Nat} {c : Nat} (h6 : gI σ 45 6 = nI A) (h7 : gI σ 45 7 = nI B) (hZ : ∀ k, k < 4 → gL σ c k = lN (Z k * oth S k 4)) (hA : A ≤ 80) (hB : B ≤ 80) (hi : i ≤ A) (hj : j ≤ B) : fX5_weighed σ c (nI i) (nI j) = some (lN (mpN Z S A B i j)) := by
  have m1 : (A - i) * (B - j) ≤ 80 * 80 := Nat.mul_le_mul (by omega) (by omega)
  have m2 : i * (B - j) ≤ 80 * 80 := Nat.mul_le_mul (by omega) (by omega)
  have m3 : (A - i) * j ≤ 80 * 80 := Nat.mul_le_mul (by omega) (by omega)
  have m4 : i * j ≤ 80 * 80 := Nat.mul_le_mul (by omega) (by omega)
  unfold fX5_weighed
  rw [h6, h7, nI_sub hi, nI_sub hj, nI_mul, nI_mul, nI_mul, nI_mul, nI_l (by omega), nI_l (by omega), nI_l (by omega), nI_l (by omega), hZ 0 (by omega), hZ 1 (by omega), hZ 2 (by omega), hZ 3 (by omega), lN_mul, lN_mul, lN_mul, lN_mul, lN_add, lN_add, lN_add]
  rfl
theorem lg_pos {n : Nat} (h : 1 ≤ n) (h2 : n < 2 ^ 63) : ¬ lg_cmp (lN n) (0 : Int64) ≤ 0 := by
  rw [lg_cmp_le, show (0 : Int64) = lN 0 from rfl, pk_lLE h2 (by omega)]; omega
theorem nzl_lN {n : Nat} (h : 1 ≤ n) (h2 : n < 2 ^ 63) : nzl (lN n) = true := decide_eq_true fun e => by
  rw [show (0 : Int64) = lN 0 from rfl, pk_lEQ h2 (by omega)] at e; omega
theorem two_by {n : Nat} : (2 : Int64) * lN n = lN (2 * n) := lN_mul 2 n
theorem dots7 {A B i j : Nat} (hP : Pl X Y S A B σ) (hS : ∀ k, k < 4 → 1 ≤ S k ∧ S k ≤ 1600) (hA : 1 ≤ A ∧ A ≤ 80) (hB : 1 ≤ B ∧ B ≤ 80) (hi : i ≤ A) (hj : j ≤ B) : fX5_dotX σ (nI i) (nI j) = some (rdV X S A B i j) ∧ fX5_dotY σ (nI i) (nI j) = some (rdV Y S A B i j) ∧ fX5_hundredthsX σ (nI i) (nI j) = some (hdV X S A B i j) ∧ fX5_hundredthsY σ (nI i) (nI j) = some (hdV Y S A B i j) := by
  obtain ⟨p1, p2, p3, p4⟩ := hP
  obtain ⟨b1, b2⟩ := by_bd hS hA hB
  have wx := weigh7 (Z := X) (S := S) p3 p4 (fun k hk => (p1 k hk).1) hA.2 hB.2 hi hj
  have wy := weigh7 (Z := Y) (S := S) p3 p4 (fun k hk => (p1 k hk).2) hA.2 hB.2 hi hj
  have rd : ∀ v : Int64, fX5_rounded σ v = some (Int64.toInt32 ((2 * v + lN (byN S A B)) / (2 * lN (byN S A B)))) := fun v => by
    unfold fX5_rounded
    rw [p2, if_neg (lg_pos b1 (by omega)), grd_eq _ (by rw [two_by]; exact nzl_lN (by omega) b2)]
  have hu : ∀ v : Int64, fX5_hundredths σ v = some (Int64.toInt32 (100 * v / lN (byN S A B))) := fun v => by
    unfold fX5_hundredths
    rw [p2, if_neg (lg_pos b1 (by omega)), grd_eq _ (nzl_lN b1 (by omega))]
  unfold fX5_dotX fX5_dotY fX5_hundredthsX fX5_hundredthsY
  rw [wx, wy, bnd1_some, bnd1_some, bnd1_some, bnd1_some, rd, rd, hu, hu]
  exact ⟨rfl, rfl, rfl, rfl⟩
end PLACES
section MAPS8
variable {σ : SS} {X Y S : Nat → Nat} {U V b : Nat}
def acN (Z S : Nat → Nat) (A B i j : Nat) : Nat → Nat
  | 0 => 0
  | k + 1 => acN Z S A B i j k + ((if k % 2 = 0 then A - i else i) * (if k < 2 then B - j else j)) * Z k * oth S k 4
theorem ac_mp (Z S : Nat → Nat) (A B i j : Nat) : acN Z S A B i j 4 = mpN Z S A B i j := by
  have e : acN Z S A B i j 4 = 0 + ((A - i) * (B - j)) * Z 0 * oth S 0 4 + (i * (B - j)) * Z 1 * oth S 1 4 + ((A - i) * j) * Z 2 * oth S 2 4 + (i * j) * Z 3 * oth S 3 4 := rfl
  rw [e]
  unfold mpN
  generalize A - i = a
  generalize B - j = c
  generalize oth S 0 4 = o0
  generalize oth S 1 4 = o1
  generalize oth S 2 4 = o2
  generalize oth S 3 4 = o3
  grind
end MAPS8

/-! from 47.mapped of the class-and-reference proof: what speaks of the class alone -/
/-! Map kept. -/
noncomputable def mX (w q spk : Nat) (mk : Int32) (ink : Nat → Prop) (k : Nat) : Nat := zX w q spk ink (mkB w q spk mk ink k).toNatClampNeg
noncomputable def mY (w q spk : Nat) (mk : Int32) (ink : Nat → Prop) (k : Nat) : Nat := zY w q spk ink (mkB w q spk mk ink k).toNatClampNeg
noncomputable def mS (w q spk : Nat) (mk : Int32) (ink : Nat → Prop) (k : Nat) : Nat := zS w q spk ink (mkB w q spk mk ink k).toNatClampNeg
section MXY
variable {w q spk : Nat} {mk : Int32} {ink : Nat → Prop} {r : SS}
theorem mk_b (hw : 8 ≤ w ∧ w ≤ 40) (hq : 8 ≤ q ∧ q ≤ 40) (hf : frU (mkB w q spk mk ink) 4) {k : Nat} (hk : k < 4) : (mkB w q spk mk ink k).toNatClampNeg < nB w q spk ink (w * q) ∧ mkB w q spk mk ink k = nI (mkB w q spk mk ink k).toNatClampNeg := by
  have hn8 := nB_le (spk := spk) (ink := ink) hw.2 hq.2
  rcases nrR_rng (w := w) (q := q) (s := zS w q spk ink) (x := zX w q spk ink) (y := zY w q spk ink) (cx := lN (crX w k)) (cy := lN (crY q k)) (mk := mk) (nB w q spk ink (w * q)) (by omega) with h | ⟨b, h2, h3, -⟩
  · have h0 := (hf k hk).1
    unfold mkB at h0
    rw [h] at h0
    exact absurd h0 (by decide)
  · have e : mkB w q spk mk ink k = nI b := h3
    rw [e, nI_clamp (by omega)]
    exact ⟨h2, rfl⟩
def Mk7 (w q spk : Nat) (mk : Int32) (ink : Nat → Prop) (r : SS) : Prop := ∀ k, k < 4 → gL r 46 k = lN (mX w q spk mk ink k) ∧ gL r 47 k = lN (mY w q spk mk ink k) ∧ gL r 48 k = lN (mS w q spk mk ink k)
def Mk8 (w q spk : Nat) (mk : Int32) (ink : Nat → Prop) (r : SS) : Prop := ∀ k, k < 4 → gL r 103 k = lN (mX w q spk mk ink k) ∧ gL r 104 k = lN (mY w q spk mk ink k) ∧ gL r 105 k = lN (mS w q spk mk ink k)
theorem mk7_of (hw : w ≤ 40) (hq : q ≤ 40) (h : ∀ k, k < 4 → ∃ b, b < nB w q spk ink (w * q) ∧ mkB w q spk mk ink k = nI b ∧ gL r 46 k = lN (zX w q spk ink b) ∧ gL r 47 k = lN (zY w q spk ink b) ∧ gL r 48 k = lN (zS w q spk ink b)) : Mk7 w q spk mk ink r := fun k hk => by
  have hn8 := nB_le (spk := spk) (ink := ink) hw hq
  obtain ⟨b, h1, h2, h3⟩ := h k hk
  have e : (mkB w q spk mk ink k).toNatClampNeg = b := by rw [h2, nI_clamp (by omega)]
  unfold mX mY mS
  rw [e]; exact h3
theorem mS_bd (hw : 8 ≤ w ∧ w ≤ 40) (hq : 8 ≤ q ∧ q ≤ 40) (hspk : 1 ≤ spk) (hf : frU (mkB w q spk mk ink) 4) : ∀ k, k < 4 → 1 ≤ mS w q spk mk ink k ∧ mS w q spk mk ink k ≤ 1600 := fun k hk =>
  (z_bd ⟨by omega, hw.2⟩ ⟨by omega, hq.2⟩ hspk (mk_b hw hq hf hk).1).1
end MXY
/-! from 48.dark of the class-and-reference proof: what speaks of the class alone -/
/-! How dark the boxes are: the class's half. -/
def dkU (pic : Nat → Int32) (w q : Nat) (X Y S : Nat → Nat) (A2 B2 p r : Nat) : Nat := if (0 ≤ (rdV X S A2 B2 p r).toInt ∧ (rdV X S A2 B2 p r).toInt < w) ∧ 0 ≤ (rdV Y S A2 B2 p r).toInt ∧ (rdV Y S A2 B2 p r).toInt < q then sN pic ((rdV Y S A2 B2 p r).toInt.toNat * w + (rdV X S A2 B2 p r).toInt.toNat) else 0
def dkR (pic : Nat → Int32) (w q : Nat) (X Y S : Nat → Nat) (A2 B2 cx cy j n : Nat) : Nat → Nat := itr (fun i acc => acc + dkU pic w q X Y S A2 B2 (2 * (cx + i) + 1) (2 * (cy + j) + 1)) n
def dkV (pic : Nat → Int32) (w q : Nat) (X Y S : Nat → Nat) (A2 B2 A B cx cy : Nat) : Nat := itr (fun j acc => dkR pic w q X Y S A2 B2 cx cy j acc A) 0 B
def pN (D : Nat → Nat) : Nat → Nat
  | 0 => 0
  | k + 1 => if k = 0 then D 0 else min (pN D k) (D k)
section DARK
variable {pic : Nat → Int32} {w q : Nat} {X Y S : Nat → Nat} {A2 B2 : Nat}
theorem dkU_le (hp : ∀ k, k < w * q → inR (pic k) 0 9) (p r : Nat) : dkU pic w q X Y S A2 B2 p r ≤ 9 := by
  unfold dkU
  split
  · rename_i h
    exact (sN_of (hp _ (cell_lt (by omega) (by omega)))).2
  · omega
theorem dkR_le (hp : ∀ k, k < w * q → inR (pic k) 0 9) (cx cy j n : Nat) : ∀ i, dkR pic w q X Y S A2 B2 cx cy j n i ≤ n + 9 * i
  | 0 => Nat.le_refl _
  | i + 1 => by
    have ih := dkR_le hp cx cy j n i
    have := dkU_le (X := X) (Y := Y) (S := S) (A2 := A2) (B2 := B2) hp (2 * (cx + i) + 1) (2 * (cy + j) + 1)
    show dkR pic w q X Y S A2 B2 cx cy j n i + dkU pic w q X Y S A2 B2 (2 * (cx + i) + 1) (2 * (cy + j) + 1) ≤ _
    omega
theorem dkV_le (hp : ∀ k, k < w * q → inR (pic k) 0 9) (A cx cy : Nat) : ∀ B, dkV pic w q X Y S A2 B2 A B cx cy ≤ 9 * A * B
  | 0 => Nat.zero_le _
  | B + 1 => by
    have ih := dkV_le hp A cx cy B
    have e : dkV pic w q X Y S A2 B2 A (B + 1) cx cy = dkR pic w q X Y S A2 B2 cx cy B (dkV pic w q X Y S A2 B2 A B cx cy) A := rfl
    have h := dkR_le (X := X) (Y := Y) (S := S) (A2 := A2) (B2 := B2) hp cx cy B (dkV pic w q X Y S A2 B2 A B cx cy) A
    rw [e, Nat.mul_add, Nat.mul_one]; omega
theorem pN_le {D : Nat → Nat} {M : Nat} (h : ∀ k, D k ≤ M) : ∀ k, pN D k ≤ M
  | 0 => Nat.zero_le _
  | k + 1 => by
    have ih := pN_le h k
    have := h k
    have := h 0
    show (if k = 0 then D 0 else min (pN D k) (D k)) ≤ M
    split <;> omega
end DARK
section MEAS
variable {σ : SS} {pic : Nat → Int32} {sc f w q U V A B : Nat} {X Y S cx cy : Nat → Nat}
theorem dark7 {k : Nat} (hw : 8 ≤ w ∧ w ≤ 40) (hq : 8 ≤ q ∧ q ≤ 40) (e1 : gI σ sc 0 = nI w) (e2 : gI σ sc 1 = nI q) (hp : ∀ k, k < w * q → gI σ (sc + 1) k = pic k ∧ inR (pic k) 0 9) (hP : Pl X Y S (2 * U) (2 * V) σ) (hS : ∀ k, k < 4 → 1 ≤ S k ∧ S k ≤ 1600) (hU : 4 ≤ U ∧ U ≤ 40) (hV : 4 ≤ V ∧ V ≤ 40) (hA : 1 ≤ A ∧ A ≤ 6) (hB : 1 ≤ B ∧ B ≤ 6) (g3 : gI σ f 3 = nI A) (g4 : gI σ f 4 = nI B) (hk : k < 72) (g6 : gI σ (f + 6) k = nI (cx k)) (g7 : gI σ (f + 7) k = nI (cy k)) (hcx : cx k + A ≤ U) (hcy : cy k + B ≤ V) : fX3_darkOf σ sc f (nI k) = some (nI (dkV pic w q X Y S (2 * U) (2 * V) A B (cx k) (cy k))) := by
  have ha := area_le hw.2 hq.2
  suffices hh : WP (fX3_darkOf σ sc f (nI k)) (fun v => v = nI (dkV pic w q X Y S (2 * U) (2 * V) A B (cx k) (cy k))) by
    obtain ⟨v, h1, rfl⟩ := hh
    exact h1
  unfold fX3_darkOf
  rw [nI_clamp (by omega), g6, g7]
  refine wp_grd (inb_nI hk (by decide)) (wp_v (wp_v ?_))
  unfold X3_darkOf_L23
  refine wf_2 B (fun j v c => v = nI (dkV pic w q X Y S (2 * U) (2 * V) A j (cx k) (cy k)) ∧ c = nI (cy k + j)) ⟨rfl, rfl⟩ (by omega) ?_ ?_
  · rintro j _ _ rec hj ⟨rfl, rfl⟩ hr
    rw [g4, nI_add, if_neg (nI_ge (by omega) (by omega)), nI_1]
    unfold X3_darkOf_L39
    refine wf_2 A (fun i v c => v = nI (dkR pic w q X Y S (2 * U) (2 * V) (cx k) (cy k) j (dkV pic w q X Y S (2 * U) (2 * V) A j (cx k) (cy k)) i) ∧ c = nI (cx k + i)) ⟨rfl, rfl⟩ (by omega) ?_ ?_
    · rintro i _ _ rec2 hi ⟨rfl, rfl⟩ hr2
      have ex : (2 : Int32) * nI (cx k + i) + 1 = nI (2 * (cx k + i) + 1) := by rw [show (2 : Int32) = nI 2 from rfl, nI_mul, nI_1]
      have ey : (2 : Int32) * nI (cy k + j) + 1 = nI (2 * (cy k + j) + 1) := by rw [show (2 : Int32) = nI 2 from rfl, nI_mul, nI_1]
      obtain ⟨d1, d2, -⟩ := dots7 (i := 2 * (cx k + i) + 1) (j := 2 * (cy k + j) + 1) hP hS (by omega) (by omega) (by omega) (by omega)
      rw [g3, nI_add, if_neg (nI_ge (by omega) (by omega)), ex, ey, d1, d2, bnd1_some, bnd1_some, at_eq e1 e2 hw.2 hq.2, bnd1_some, nI_1]
      refine wp_v (hr2 _ _ ⟨?_, rfl⟩)
      have er : dkR pic w q X Y S (2 * U) (2 * V) (cx k) (cy k) j (dkV pic w q X Y S (2 * U) (2 * V) A j (cx k) (cy k)) (i + 1) = dkR pic w q X Y S (2 * U) (2 * V) (cx k) (cy k) j (dkV pic w q X Y S (2 * U) (2 * V) A j (cx k) (cy k)) i + dkU pic w q X Y S (2 * U) (2 * V) (2 * (cx k + i) + 1) (2 * (cy k + j) + 1) := rfl
      rw [er, ← nI_add]
      congr 1
      unfold dkU
      split
      · rename_i h
        have hl := cell_lt (w := w) (h := q) (X := (rdV X S (2 * U) (2 * V) (2 * (cx k + i) + 1) (2 * (cy k + j) + 1)).toInt.toNat) (Y := (rdV Y S (2 * U) (2 * V) (2 * (cx k + i) + 1) (2 * (cy k + j) + 1)).toInt.toNat) (by omega) (by omega)
        rw [(hp _ hl).1]
        exact (sN_of (hp _ hl).2).1
      · rfl
    · rintro _ _ rec2 ⟨rfl, rfl⟩
      rw [g3, nI_add, if_pos (nI_le (by omega) (by omega))]
      exact hr _ _ ⟨rfl, rfl⟩
  · rintro _ _ rec ⟨rfl, rfl⟩
    rw [g4, nI_add, if_pos (nI_le (by omega) (by omega))]
    exact wp_some rfl
end MEAS
def C7 (sc f w q spk : Nat) (lvl mk : Int32) (pic : Nat → Int32) (U V A B T : Nat) (cx cy : Nat → Nat) (σ : SS) : Prop :=
  (sc = 3 ∨ sc = 6) ∧ (f = 10 ∨ f = 18) ∧ (8 ≤ w ∧ w ≤ 40) ∧ (8 ≤ q ∧ q ≤ 40) ∧ (1 ≤ spk ∧ spk ≤ 20) ∧ gI σ sc 0 = nI w ∧ gI σ sc 1 = nI q ∧ (∀ k, k < w * q → gI σ (sc + 1) k = pic k ∧ inR (pic k) 0 9) ∧ gI σ 32 0 = lvl ∧ gI σ 32 1 = nI spk ∧ gI σ 32 2 = mk ∧
  (4 ≤ U ∧ U ≤ 40) ∧ (4 ≤ V ∧ V ≤ 40) ∧ (1 ≤ A ∧ A ≤ 6) ∧ (1 ≤ B ∧ B ≤ 6) ∧ T ≤ 72 ∧ gI σ f 1 = nI U ∧ gI σ f 2 = nI V ∧ gI σ f 3 = nI A ∧ gI σ f 4 = nI B ∧ gI σ f 6 = nI T ∧ ∀ k, k < T → (gI σ (f + 6) k = nI (cx k) ∧ cx k + A ≤ U) ∧ (gI σ (f + 7) k = nI (cy k) ∧ cy k + B ≤ V)
def inkP (lvl : Int32) (pic : Nat → Int32) (k : Nat) : Prop := ¬ pic k < lvl
noncomputable def dkD (w q spk : Nat) (lvl mk : Int32) (pic : Nat → Int32) (U V A B : Nat) (cx cy : Nat → Nat) (k : Nat) : Nat := dkV pic w q (mX w q spk mk (inkP lvl pic)) (mY w q spk mk (inkP lvl pic)) (mS w q spk mk (inkP lvl pic)) (2 * U) (2 * V) A B (cx k) (cy k)
theorem dkD_le {w q spk : Nat} {lvl mk : Int32} {pic : Nat → Int32} {U V A B : Nat} {cx cy : Nat → Nat} (hp : ∀ k, k < w * q → inR (pic k) 0 9) (hA : A ≤ 6) (hB : B ≤ 6) (k : Nat) : dkD w q spk lvl mk pic U V A B cx cy k ≤ 324 := by
  refine Nat.le_trans (dkV_le hp A _ _ B) ?_
  have := Nat.mul_le_mul (Nat.mul_le_mul (Nat.le_refl 9) hA) hB
  omega
theorem measure7 {sc f w q spk : Nat} {lvl mk : Int32} {pic : Nat → Int32} {U V A B T : Nat} {cx cy : Nat → Nat} {σ : SS} (h : C7 sc f w q spk lvl mk pic U V A B T cx cy σ) : WP (fX3_measure σ sc f) (fun r => (r.1 = true ↔ frU (mkB w q spk mk (inkP lvl pic)) 4) ∧ gR r.2 = gR σ ∧ (∀ c k, ¬ (33 ≤ c ∧ c ≤ 51) → ¬ (c = 31 ∧ k = 6) → gI r.2 c k = gI σ c k) ∧ (frU (mkB w q spk mk (inkP lvl pic)) 4 → (∀ k, k < T → gI r.2 51 k = nI (dkD w q spk lvl mk pic U V A B cx cy k)) ∧ (0 < T → gI r.2 31 6 = nI (pN (dkD w q spk lvl mk pic U V A B cx cy) T)))) := by
  obtain ⟨hs, hf, hw, hq, hspk, e1, e2, hp, el, es, em, hU, hV, hA, hB, hT, g1, g2, g3, g4, g6, gx⟩ := h
  unfold fX3_measure
  refine wp_bndp (locate7 (σ := σ) (ink := inkP lvl pic) hs hw hq e1 e2 (fun k hk => by rw [el, (hp k hk).1]; exact Int32.not_lt.symm) es hspk em) ?_
  rintro mb r1 ⟨a0, a1, a2, a3, a4⟩
  dsimp only at a0 a1 a2 a3 a4
  refine wp_if (fun hb => ?_) fun hb => wp_some ⟨⟨fun h => absurd (show false = true from h) (by decide), fun h => absurd (a0.mpr h) hb⟩, a1, fun c k c1 _ => a2 c k (by omega), fun h => absurd (a0.mpr h) hb⟩
  have hm := a0.mp hb
  have hS := mS_bd hw hq hspk.1 hm
  have hM := mk7_of hw.2 hq.2 (a4 hm)
  rw [a2 f 1 (by omega), a2 f 2 (by omega), g1, g2]
  refine wp_bnd1 (spread7 (U := U) (V := V) hM (by omega) (by omega)) ?_
  rintro r2 ⟨y2, y3, y4⟩
  have hr2 : ∀ c k, ¬ (33 ≤ c ∧ c ≤ 51) → gI r2 c k = gI σ c k := fun c k hc => by rw [y3 c k (by omega), a2 c k (by omega)]
  have dle := fun k => dkD_le (w := w) (q := q) (spk := spk) (lvl := lvl) (mk := mk) (pic := pic) (U := U) (V := V) (A := A) (B := B) (cx := cx) (cy := cy) (fun k hk => (hp k hk).2) hA.2 hB.2 k
  unfold X3_measure_L27
  refine wf_2 T (fun k v s' => v = nI k ∧ gR s' = gR r2 ∧ (∀ c j, c ≠ 51 → ¬ (c = 31 ∧ j = 6) → gI s' c j = gI r2 c j) ∧ (∀ c j, gL s' c j = gL r2 c j) ∧ (∀ j, j < k → gI s' 51 j = nI (dkD w q spk lvl mk pic U V A B cx cy j)) ∧ (0 < k → gI s' 31 6 = nI (pN (dkD w q spk lvl mk pic U V A B cx cy) k))) ⟨rfl, rfl, fun _ _ _ _ => rfl, fun _ _ => rfl, fun j hj => absurd hj (by omega), fun h => absurd h (by omega)⟩ (by omega) ?_ ?_
  · rintro k _ s' rec hk ⟨rfl, i1, i2, i3, i4, i5⟩ hr
    have fr : ∀ c j, ¬ (33 ≤ c ∧ c ≤ 51) → ¬ (c = 31 ∧ j = 6) → gI s' c j = gI σ c j := fun c j c1 c2 => by rw [i2 c j (by omega) c2, hr2 c j c1]
    obtain ⟨⟨x1, x2⟩, x3, x4⟩ := gx k hk
    have hP : Pl (mX w q spk mk (inkP lvl pic)) (mY w q spk mk (inkP lvl pic)) (mS w q spk mk (inkP lvl pic)) (2 * U) (2 * V) s' := by
      obtain ⟨p1, p2, p3, p4⟩ := y4
      exact ⟨fun k hk => by rw [i3, i3]; exact p1 k hk, by rw [i3]; exact p2, by rw [i2 _ _ (by omega) (by omega)]; exact p3, by rw [i2 _ _ (by omega) (by omega)]; exact p4⟩
    rw [fr f 6 (by omega) (by omega), g6, if_neg (nI_ge hk (by omega)), bnd1_of _ (dark7 (σ := s') (sc := sc) (f := f) (pic := pic) (k := k) hw hq (by rw [fr _ _ (by omega) (by omega)]; exact e1) (by rw [fr _ _ (by omega) (by omega)]; exact e2) (fun j hj => by rw [fr _ _ (by omega) (by omega)]; exact hp j hj) hP hS hU hV hA hB (by rw [fr _ _ (by omega) (by omega)]; exact g3) (by rw [fr _ _ (by omega) (by omega)]; exact g4) (by omega) (by rw [fr _ _ (by omega) (by omega)]; exact x1) (by rw [fr _ _ (by omega) (by omega)]; exact x3) x2 x4), nI_clamp (by omega), nI_1]
    refine wp_grd (inb_nI (by omega) (by decide)) ?_
    refine wp_vv ?_; intro s2 g2'
    have d51 : gI s2 51 k = nI (dkD w q spk lvl mk pic U V A B cx cy k) := by rw [g2', gI_eq]; rfl
    refine wp_vk1 (fun v => v = nI (pN (dkD w q spk lvl mk pic U V A B cx cy) (k + 1))) ?_ fun j' hj' => ?_
    · rintro _ rfl
      refine wp_vv ?_; intro s3 g3'
      refine hr _ _ ⟨rfl, by rw [g3', g2']; exact i1, fun c j c1 c2 => by rw [g3', gI_nk c2, g2', gI_ne c1]; exact i2 c j c1 c2, fun c j => by rw [g3', g2']; exact i3 c j, fun j hj => ?_, fun _ => by rw [g3', gI_eq]⟩
      rw [g3', gI_ne (by omega)]
      by_cases e : j = k
      · subst e; exact d51
      · rw [g2', gI_nk (by omega)]; exact i4 j (by omega)
    · rw [d51]
      have ep : pN (dkD w q spk lvl mk pic U V A B cx cy) (k + 1) = if k = 0 then dkD w q spk lvl mk pic U V A B cx cy 0 else min (pN (dkD w q spk lvl mk pic U V A B cx cy) k) (dkD w q spk lvl mk pic U V A B cx cy k) := rfl
      by_cases c : k = 0
      · subst c
        rw [if_pos (show nI 0 = 0 from rfl)]
        exact hj' _ (by rw [ep, if_pos rfl])
      · have := pN_le dle k
        have := dle k
        rw [if_neg (nI_ne0 (by omega) (by omega)), show gI s2 31 6 = nI (pN (dkD w q spk lvl mk pic U V A B cx cy) k) by rw [g2', gI_ne (by omega)]; exact i5 (by omega), min_nI (by omega) (by omega)]
        exact hj' _ (by rw [ep, if_neg c])
  · rintro _ s' rec ⟨rfl, i1, i2, i3, i4, i5⟩
    rw [i2 f 6 (by omega) (by omega), hr2 f 6 (by omega), g6, if_pos (nI_le (Nat.le_refl _) (by omega))]
    exact wp_some ⟨⟨fun _ => hm, fun _ => rfl⟩, (i1.trans y2).trans a1, fun c k c1 c2 => by rw [i2 c k (by omega) c2]; exact hr2 c k c1, fun _ => ⟨i4, i5⟩⟩

/-! from 50.darkop of the class-and-reference proof: what speaks of the class alone -/
/-! Dark kept. -/
theorem psum_at {N : Nat → Nat} : ∀ Q k, k < psum N Q → ∃ p i, p < Q ∧ i < N p ∧ k = psum N p + i
  | 0, k, h => absurd h (by show ¬ k < 0; omega)
  | Q + 1, k, h => by
    by_cases c : k < psum N Q
    · obtain ⟨p, i, h1, h2, h3⟩ := psum_at Q k c
      exact ⟨p, i, by omega, h2, h3⟩
    · have h2 : k < psum N Q + N Q := h
      exact ⟨Q, k - psum N Q, by omega, by omega, by omega⟩
theorem psum_lt {N : Nat → Nat} {Q p i : Nat} (hp : p < Q) (hi : i < N p) : psum N p + i < psum N Q := by
  have key : ∀ d, psum N (p + 1) ≤ psum N (p + 1 + d) := by
    intro d
    induction d with
    | zero => exact Nat.le_refl _
    | succ d ih => show psum N (p + 1) ≤ psum N (p + 1 + d) + N (p + 1 + d); omega
  have h := key (Q - (p + 1))
  rw [show p + 1 + (Q - (p + 1)) = Q by omega] at h
  have e : psum N (p + 1) = psum N p + N p := rfl
  omega
/-! from 51.order of the class-and-reference proof: what speaks of the class alone -/
/-! The judging: orders by darkness, as permutations; bits as sets. -/
theorem gs_full {m : Nat → Prop} : ∀ N, gs m (fun _ => 1) N = N → ∀ k, k < N → m k
  | 0, _, k, hk => absurd hk (by omega)
  | N + 1, h, k, hk => by
    have hle := gs_le (m := m) N
    by_cases c : m N
    · rw [gs_t c] at h
      by_cases e : k = N
      · subst e; exact c
      · exact gs_full N (by omega) k (by omega)
    · rw [gs_f c] at h; omega
theorem ins_inj {key : Nat → Int32} {i : Nat} : ∀ a o, a ≤ i → (∀ j k, j ≤ i → k ≤ i → j ≠ a → k ≠ a → o j = o k → j = k) → (∀ k, k ≤ i → k ≠ a → o k < i) → ∀ j k, j ≤ i → k ≤ i → ins key i a o j = ins key i a o k → j = k
  | 0, o, _, h, hlt, j, k, hj, hk, e => by
    have e' : (if j = 0 then i else o j) = if k = 0 then i else o k := e
    by_cases c1 : j = 0
    · by_cases c2 : k = 0
      · omega
      · rw [if_pos c1, if_neg c2] at e'
        have := hlt k hk c2; omega
    · by_cases c2 : k = 0
      · rw [if_neg c1, if_pos c2] at e'
        have := hlt j hj c1; omega
      · rw [if_neg c1, if_neg c2] at e'
        exact h j k hj hk c1 c2 e'
  | a + 1, o, ha, h, hlt, j, k, hj, hk, e => by
    rw [ins_s] at e
    by_cases c : key (o a) < key i
    · rw [if_pos c] at e
      refine ins_inj a _ (by omega) (fun j k hj hk hja hka e2 => ?_) (fun k hk hka => ?_) j k hj hk e
      · by_cases c1 : j = a + 1
        · by_cases c2 : k = a + 1
          · omega
          · rw [if_pos c1, if_neg c2] at e2
            have := h a k (by omega) hk (by omega) c2 e2; omega
        · by_cases c2 : k = a + 1
          · rw [if_neg c1, if_pos c2] at e2
            have := h j a hj (by omega) c1 (by omega) e2; omega
          · rw [if_neg c1, if_neg c2] at e2
            exact h j k hj hk c1 c2 e2
      · by_cases c1 : k = a + 1
        · rw [if_pos c1]; exact hlt a (by omega) (by omega)
        · rw [if_neg c1]; exact hlt k hk c1
    · rw [if_neg c] at e
      by_cases c1 : j = a + 1
      · by_cases c2 : k = a + 1
        · omega
        · rw [if_pos c1, if_neg c2] at e
          have := hlt k hk c2; omega
      · by_cases c2 : k = a + 1
        · rw [if_neg c1, if_pos c2] at e
          have := hlt j hj c1; omega
        · rw [if_neg c1, if_neg c2] at e
          exact h j k hj hk c1 c2 e
theorem srt_inj {key : Nat → Int32} : ∀ n j k, j < n → k < n → srt key n j = srt key n k → j = k
  | 0, j, _, hj, _, _ => absurd hj (by omega)
  | n + 1, j, k, hj, hk, e => ins_inj (key := key) (i := n) n (srt key n) (Nat.le_refl _) (fun j k hj hk hjn hkn e2 => srt_inj n j k (by omega) (by omega) e2) (fun k hk hkn => srt_lt n k (by omega)) j k (by omega) (by omega) e
theorem srt_sur {key : Nat → Int32} {n b : Nat} (hb : b < n) : ∃ i, i < n ∧ srt key n i = b := by
  have e := ls_gs (L := srt key n) (f := fun _ => 1) (N := n) n (fun i j hi hj => srt_inj n i j hi hj) fun i hi => srt_lt n i hi
  rw [ls_1] at e
  exact gs_full n e.symm b hb
theorem ins_sorted {key : Nat → Int32} {i : Nat} : ∀ a o, a ≤ i → (∀ k, k < a → ¬ k + 1 = a → k + 1 ≤ i → key (o (k + 1)) ≤ key (o k)) → (∀ k, a < k → k + 1 ≤ i → key (o (k + 1)) ≤ key (o k)) → (∀ j k, j < a → a < k → k ≤ i → key (o k) ≤ key (o j)) → (∀ k, a < k → k ≤ i → key (o k) ≤ key i) → ∀ k, k + 1 ≤ i → key (ins key i a o (k + 1)) ≤ key (ins key i a o k)
  | 0, o, _, h1, h2, h3, h4, k, hk => by
    show key (if k + 1 = 0 then i else o (k + 1)) ≤ key (if k = 0 then i else o k)
    rw [if_neg (by omega)]
    by_cases c : k = 0
    · rw [if_pos c]; exact h4 (k + 1) (by omega) hk
    · rw [if_neg c]; exact h2 k (by omega) hk
  | a + 1, o, ha, h1, h2, h3, h4, k, hk => by
    rw [ins_s]
    by_cases c : key (o a) < key i
    · rw [if_pos c]
      refine ins_sorted a _ (by omega) (fun j hj hja hji => ?_) (fun j hj hji => ?_) (fun j l hj hl hli => ?_) (fun j hj hji => ?_) k hk
      · rw [if_neg (by omega), if_neg (by omega)]
        exact h1 j (by omega) (by omega) hji
      · rw [if_neg (by omega)]
        by_cases e : j = a + 1
        · rw [if_pos e]; exact h3 a (j + 1) (by omega) (by omega) hji
        · rw [if_neg e]; exact h2 j (by omega) hji
      · rw [if_neg (show ¬ j = a + 1 by omega)]
        by_cases e : l = a + 1
        · rw [if_pos e]
          have mono : ∀ d, j + d ≤ a → key (o (j + d)) ≤ key (o j) := by
            intro d
            induction d with
            | zero => intro _; exact Int32.le_refl _
            | succ d ih => exact fun hd => Int32.le_trans (h1 (j + d) (by omega) (by omega) (by omega)) (ih (by omega))
          have := mono (a - j) (by omega)
          rw [show j + (a - j) = a by omega] at this
          exact this
        · rw [if_neg e]; exact h3 j l (by omega) (by omega) hli
      · by_cases e : j = a + 1
        · rw [if_pos e]; exact Int32.le_of_lt c
        · rw [if_neg e]; exact h4 j (by omega) hji
    · rw [if_neg c]
      by_cases e1 : k + 1 = a + 1
      · rw [if_pos e1, if_neg (by omega), show k = a by omega]; exact Int32.not_lt.mp c
      · by_cases e2 : k = a + 1
        · rw [if_neg e1, if_pos e2]; exact h4 (k + 1) (by omega) hk
        · rw [if_neg e1, if_neg e2]
          by_cases e3 : k < a + 1
          · exact h1 k e3 e1 hk
          · exact h2 k (by omega) hk
theorem srt_sorted {key : Nat → Int32} : ∀ n k, k + 1 < n → key (srt key n (k + 1)) ≤ key (srt key n k)
  | 0, k, hk => absurd hk (by omega)
  | n + 1, k, hk => ins_sorted (key := key) (i := n) n (srt key n) (Nat.le_refl _) (fun j hj hjn _ => srt_sorted n j (by omega)) (fun j hj hji => absurd hji (by omega)) (fun j l _ hl hli => absurd hli (by omega)) (fun j hj hji => absurd hji (by omega)) k (by omega)
/-! bits as sets -/
def Bs (v : Int32) (T : Nat → Prop) : Prop := ∃ m, m < 64 ∧ v = nI m ∧ ∀ b, b < 6 → (m.testBit b = true ↔ T b)
theorem bit_or : ∀ m, m < 64 → ∀ b, b < 6 → (nI m ||| ((1 : Int32) <<< (nI b &&& 31))) = nI (m ||| 2 ^ b) ∧ (m ||| 2 ^ b) < 64 := by decide +kernel
theorem bit_xor : ∀ m, m < 64 → ∀ b, b < 6 → (nI m &&& (((1 : Int32) <<< (nI b &&& 31)) ^^^ (-1 : Int32))) = nI (m &&& (63 ^^^ 2 ^ b)) ∧ (m &&& (63 ^^^ 2 ^ b)) < 64 := by decide +kernel
theorem bit_has : ∀ m, m < 64 → ∀ b, b < 6 → (((nI m >>> (nI b &&& 31)) &&& 1 = (1 : Int32)) ↔ m.testBit b = true) := by decide +kernel
theorem bit_one : ∀ b, b < 6 → ((1 : Int32) <<< (nI b &&& 31)) = nI (2 ^ b) ∧ 2 ^ b < 64 := by decide +kernel
theorem tb_or : ∀ m, m < 64 → ∀ b, b < 6 → ∀ c, c < 6 → ((m ||| 2 ^ b).testBit c = true ↔ (m.testBit c = true ∨ c = b)) := by decide +kernel
theorem tb_xor : ∀ m, m < 64 → ∀ b, b < 6 → ∀ c, c < 6 → ((m &&& (63 ^^^ 2 ^ b)).testBit c = true ↔ (m.testBit c = true ∧ ¬ c = b)) := by decide +kernel
theorem tb_one : ∀ b, b < 6 → ∀ c, c < 6 → ((2 ^ b).testBit c = true ↔ c = b) := by decide +kernel
theorem Bs.zero : Bs (0 : Int32) fun _ => False := ⟨0, by decide, rfl, fun b _ => by simp⟩
theorem Bs.or {v : Int32} {T T' : Nat → Prop} {b : Nat} (h : Bs v T) (hb : b < 6) (hT : ∀ c, c < 6 → (T' c ↔ T c ∨ c = b)) : Bs (v ||| ((1 : Int32) <<< (nI b &&& 31))) T' := by
  obtain ⟨m, h1, rfl, h3⟩ := h
  obtain ⟨e1, e2⟩ := bit_or m h1 b hb
  exact ⟨_, e2, e1, fun c hc => by rw [tb_or m h1 b hb c hc, h3 c hc, hT c hc]⟩
theorem Bs.sub {v : Int32} {T T' : Nat → Prop} {b : Nat} (h : Bs v T) (hb : b < 6) (hT : ∀ c, c < 6 → (T' c ↔ T c ∧ ¬ c = b)) : Bs (v &&& (((1 : Int32) <<< (nI b &&& 31)) ^^^ (-1 : Int32))) T' := by
  obtain ⟨m, h1, rfl, h3⟩ := h
  obtain ⟨e1, e2⟩ := bit_xor m h1 b hb
  exact ⟨_, e2, e1, fun c hc => by rw [tb_xor m h1 b hb c hc, h3 c hc, hT c hc]⟩
theorem Bs.one {T : Nat → Prop} {b : Nat} (hb : b < 6) (hT : ∀ c, c < 6 → (T c ↔ c = b)) : Bs ((1 : Int32) <<< (nI b &&& 31)) T := by
  obtain ⟨e1, e2⟩ := bit_one b hb
  exact ⟨_, e2, e1, fun c hc => by rw [tb_one b hb c hc, hT c hc]⟩
theorem Bs.one' {v w : Int32} {T T' : Nat → Prop} (h : Bs v T) (h' : Bs w T') (hT : ∀ b, b < 6 → (T b ↔ T' b)) : v = w := by
  obtain ⟨m, h1, rfl, h3⟩ := h
  obtain ⟨m', h1', rfl, h3'⟩ := h'
  congr 1
  apply Nat.eq_of_testBit_eq
  intro i
  by_cases hi : i < 6
  · have e := (h3 i hi).trans ((hT i hi).trans (h3' i hi).symm)
    cases h : m.testBit i <;> cases h' : m'.testBit i <;> simp_all
  · have p : 2 ^ 6 ≤ 2 ^ i := Nat.pow_le_pow_right (by omega) (by omega)
    rw [Nat.testBit_lt_two_pow (by omega), Nat.testBit_lt_two_pow (by omega)]
theorem Bs.imp {v : Int32} {T T' : Nat → Prop} (h : Bs v T) (hT : ∀ b, b < 6 → (T b ↔ T' b)) : Bs v T' := by
  obtain ⟨m, h1, h2, h3⟩ := h
  exact ⟨m, h1, h2, fun b hb => (h3 b hb).trans (hT b hb)⟩
section SORTD
variable {σ : SS} {i first : Nat}
theorem sortd_i (hi : first + i < 72) {k58 : Int32 → SS → Option SS} : ∀ a o d n, a < n → a ≤ i → (∀ k, k ≤ i → k ≠ a → d k = nI (first + o k)) → (∀ k, k ≤ i → k ≠ a → first + o k < 72) → ∃ a' d', X3_sortByDark_L15 (nI (first + i)) k58 n (nI a) (sA σ 52 d) = k58 (nI a') (sA σ 52 d') ∧ a' ≤ i ∧ ∀ k, k ≤ i → upd d' a' (nI (first + i)) k = nI (first + ins (fun j => gI σ 51 (first + j)) i a o k) := by
  intro a
  induction a with
  | zero =>
    intro o d n hn ha h ho
    obtain ⟨n, rfl⟩ : ∃ m, n = m + 1 := ⟨n - 1, by omega⟩
    refine ⟨0, d, ?_, by omega, fun k hk => ?_⟩
    · unfold X3_sortByDark_L15
      rw [lp_succ, if_pos (by decide)]
    · show (if k = 0 then nI (first + i) else d k) = nI (first + if k = 0 then i else o k)
      by_cases c : k = 0
      · rw [if_pos c, if_pos c]
      · rw [if_neg c, if_neg c]; exact h k hk c
  | succ a ih =>
    intro o d n hn ha h ho
    obtain ⟨n, rfl⟩ : ∃ m, n = m + 1 := ⟨n - 1, by omega⟩
    have oa := ho a (by omega) (by omega)
    have da := h a (by omega) (by omega)
    have e1 : nI (a + 1) - 1 = nI a := nI_pred a
    have e2 : nI (a + 1) + -1 = nI a := by rw [← e1]; exact (Int32.sub_eq_add_neg _ _).symm
    by_cases c : gI σ 51 (first + o a) < gI σ 51 (first + i)
    · obtain ⟨a', d', q1, q2, q3⟩ := ih (fun k => if k = a + 1 then o a else o k) (upd d (a + 1) (d a)) n (by omega) (by omega) (fun k hk hka => by
        show (if k = a + 1 then d a else d k) = nI (first + if k = a + 1 then o a else o k)
        by_cases c2 : k = a + 1
        · rw [if_pos c2, if_pos c2]; exact da
        · rw [if_neg c2, if_neg c2]; exact h k hk c2) (fun k hk hka => by
        show first + (if k = a + 1 then o a else o k) < 72
        by_cases c2 : k = a + 1
        · rw [if_pos c2]; exact oa
        · rw [if_neg c2]; exact ho k hk c2)
      refine ⟨a', d', ?_, q2, fun k hk => ?_⟩
      · rw [← q1]
        unfold X3_sortByDark_L15
        rw [lp_succ, if_neg (nI_nle (by omega) (by omega)), e1, e2, grd_eq _ (inb_nI (by omega) (by decide)), nI_clamp (by omega), gI_A, da, grd_eq _ (inb_nI oa (by decide)), grd_eq _ (inb_nI hi (by decide)), nI_clamp (by omega), nI_clamp (by omega), gI_A_ne (by omega), if_neg (Int32.not_le.mpr c), grd_eq _ (inb_nI (by omega) (by decide)), vthen_eq, nI_clamp (by omega), sI_A]
      · rw [q3 k hk, ins_s, if_pos c]
    · refine ⟨a + 1, d, ?_, ha, fun k hk => ?_⟩
      · unfold X3_sortByDark_L15
        rw [lp_succ, if_neg (nI_nle (by omega) (by omega)), e1, grd_eq _ (inb_nI (by omega) (by decide)), nI_clamp (by omega), gI_A, da, grd_eq _ (inb_nI oa (by decide)), grd_eq _ (inb_nI hi (by decide)), nI_clamp (by omega), nI_clamp (by omega), gI_A_ne (by omega), if_pos (Int32.not_lt.mp c)]
      · rw [ins_s, if_neg c]
        show (if k = a + 1 then nI (first + i) else d k) = nI (first + if k = a + 1 then i else o k)
        by_cases c : k = a + 1
        · rw [if_pos c, if_pos c]
        · rw [if_neg c, if_neg c]; exact h k hk c
theorem sortd {n : Nat} (hn : first + n ≤ 72) : ∃ d, fX3_sortByDark σ (nI first) (nI n) = some (sA σ 52 d) ∧ ∀ k, k < n → d k = nI (first + srt (fun j => gI σ 51 (first + j)) n k) := by
  suffices hh : WP (fX3_sortByDark (sA σ 52 (gI σ 52)) (nI first) (nI n)) (fun r => ∃ d, r = sA σ 52 d ∧ ∀ k, k < n → d k = nI (first + srt (fun j => gI σ 51 (first + j)) n k)) by
    rw [sA_self] at hh
    obtain ⟨r, h1, d, rfl, h2⟩ := hh
    exact ⟨d, h1, h2⟩
  unfold fX3_sortByDark X3_sortByDark_L2
  refine wf_2 n (fun i v s => v = nI i ∧ ∃ d, s = sA σ 52 d ∧ ∀ k, k < i → d k = nI (first + srt (fun j => gI σ 51 (first + j)) i k)) ⟨rfl, _, rfl, fun k hk => absurd hk (by omega)⟩ (by omega) ?_ ?_
  · rintro i _ _ rec hi ⟨rfl, d, rfl, hd⟩ hr
    rw [if_neg (nI_ge hi (by omega)), nI_add]
    refine wp_v ?_
    obtain ⟨a', d', q1, q2, q3⟩ := sortd_i (σ := σ) (i := i) (first := first) (by omega) (k58 := fun v7 σ8 =>
        grd (inb v7 72) <|
        vthen (sI σ8 52 (Int32.toNatClampNeg v7) (nI (first + i))) fun σ10 =>
        rec (nI i + (1 : Int32)) σ10) i (srt (fun j => gI σ 51 (first + j)) i) d fuel (fuel_gt (by omega)) (Nat.le_refl _) (fun k hk hka => hd k (by omega)) (fun k hk hka => by have := srt_lt (key := fun j => gI σ 51 (first + j)) i k (by omega); omega)
    rw [q1, nI_clamp (by omega), nI_1]
    refine wp_grd (inb_nI (by omega) (by decide)) (wp_v ?_)
    rw [sI_A]
    exact hr _ _ ⟨rfl, _, rfl, fun k hk => q3 k (by omega)⟩
  · rintro _ _ rec ⟨rfl, d, rfl, hd⟩
    rw [if_pos (nI_le (Nat.le_refl _) (by omega))]
    exact wp_some ⟨d, rfl, hd⟩
end SORTD

/-! from 52.judge of the class-and-reference proof: what speaks of the class alone -/
/-! One question judged: what it comes to, and the class's half. -/
def ordQ (D : Nat → Nat) (n : Nat) : Nat → Nat := srt (fun i => nI (D i)) n
def atQ (D : Nat → Nat) (P n k : Nat) : Int32 := if k = n then nI P else nI (D (ordQ D n k))
def stQ (D : Nat → Nat) (P n : Nat) : Nat → Nat × Int32
  | 0 => (0, -1)
  | k + 1 => if atQ D P n k - atQ D P n (k + 1) ≤ (stQ D P n k).2 then stQ D P n k else (k + 1, atQ D P n k - atQ D P n (k + 1))
def ahQ (D : Nat → Nat) (P n : Nat) (m : Int32) : Nat := if (stQ D P n n).2 < m then 0 else (stQ D P n n).1
def dbQ (D : Nat → Nat) (P n : Nat) (one : Prop) (m cl : Int32) : Prop := one ∧ 1 < ahQ D P n m ∧ atQ D P n 0 - atQ D P n 1 < cl
def clQ (D : Nat → Nat) (P n : Nat) (one : Prop) (m cl : Int32) : Prop := one ∧ 1 < ahQ D P n m ∧ ¬ atQ D P n 0 - atQ D P n 1 < cl
def syQ (D : Nat → Nat) (P n : Nat) (one : Prop) (m cl : Int32) (y : Nat) : Prop := (clQ D P n one m cl ∧ y = 1) ∨ (¬ clQ D P n one m cl ∧ y = ahQ D P n m)
def seQ (D : Nat → Nat) (P n : Nat) (one : Prop) (m cl v : Int32) : Prop := (dbQ D P n one m cl ∧ v = 2) ∨ (¬ dbQ D P n one m cl ∧ v = if (stQ D P n n).2 < m ∧ ¬ (2 : Int32) * (stQ D P n n).2 < m then 1 else 0)
def anQ (D : Nat → Nat) (n y b : Nat) : Prop := ∃ k, k < n ∧ k < y ∧ ordQ D n k = b
def ruQ (D : Nat → Nat) (P n : Nat) (m rb : Int32) (y b : Nat) : Prop := ∃ k, k < n ∧ ¬ k < y ∧ (k < ahQ D P n m ∨ ¬ nI (D b) - nI P < rb) ∧ ordQ D n k = b
theorem stQ_le {D : Nat → Nat} {P n : Nat} : ∀ k, (stQ D P n k).1 ≤ k
  | 0 => Nat.le_refl _
  | k + 1 => by
    have ih := stQ_le (D := D) (P := P) (n := n) k
    show (if atQ D P n k - atQ D P n (k + 1) ≤ (stQ D P n k).2 then stQ D P n k else (k + 1, atQ D P n k - atQ D P n (k + 1))).1 ≤ k + 1
    split
    · omega
    · exact Nat.le_refl _
theorem syQ_ex (D : Nat → Nat) (P n : Nat) (one : Prop) (m cl : Int32) : ∃ y, syQ D P n one m cl y := by
  by_cases c : clQ D P n one m cl
  · exact ⟨1, Or.inl ⟨c, rfl⟩⟩
  · exact ⟨_, Or.inr ⟨c, rfl⟩⟩
theorem syQ_one {D : Nat → Nat} {P n : Nat} {one : Prop} {m cl : Int32} {y y' : Nat} (h : syQ D P n one m cl y) (h' : syQ D P n one m cl y') : y = y' := by
  rcases h with ⟨h1, h2⟩ | ⟨h1, h2⟩ <;> rcases h' with ⟨k1, k2⟩ | ⟨k1, k2⟩
  · rw [h2, k2]
  · exact absurd h1 k1
  · exact absurd k1 h1
  · rw [h2, k2]
theorem seQ_one {D : Nat → Nat} {P n : Nat} {one : Prop} {m cl v v' : Int32} (h : seQ D P n one m cl v) (h' : seQ D P n one m cl v') : v = v' := by
  rcases h with ⟨h1, h2⟩ | ⟨h1, h2⟩ <;> rcases h' with ⟨k1, k2⟩ | ⟨k1, k2⟩
  · rw [h2, k2]
  · exact absurd h1 k1
  · exact absurd k1 h1
  · rw [h2, k2]
def JQ (D : Nat → Nat) (P n : Nat) (one : Prop) (m cl rb : Int32) (an se ru st : Int32) : Prop := ∃ y, syQ D P n one m cl y ∧ Bs an (anQ D n y) ∧ Bs ru (ruQ D P n m rb y) ∧ seQ D P n one m cl se ∧ st = (stQ D P n n).2
theorem JQ.one {D : Nat → Nat} {P n : Nat} {one : Prop} {m cl rb an se ru st an' se' ru' st' : Int32} (h : JQ D P n one m cl rb an se ru st) (h' : JQ D P n one m cl rb an' se' ru' st') : an = an' ∧ se = se' ∧ ru = ru' ∧ st = st' := by
  obtain ⟨y, h1, h2, h3, h4, h5⟩ := h
  obtain ⟨y', k1, k2, k3, k4, k5⟩ := h'
  have := syQ_one h1 k1
  subst this
  exact ⟨h2.one' k2 fun _ _ => Iff.rfl, seQ_one h4 k4, h3.one' k3 fun _ _ => Iff.rfl, h5.trans k5.symm⟩
section JUDGE7
variable {σ : SS} {f p first n P : Nat} {D : Nat → Nat} {m cl rb : Int32}
theorem judge7 (hf : f = 10 ∨ f = 18) (hp : p < 12) (hn : 1 ≤ n ∧ n ≤ 6) (hfn : first + n ≤ 72) (g2 : gI σ (f + 2) p = nI first) (g3 : gI σ (f + 3) p = nI n) (hD : ∀ i, i < n → gI σ 51 (first + i) = nI (D i)) (hP : gI σ 31 6 = nI P) (e3 : gI σ 32 3 = m) (e4 : gI σ 32 4 = cl) (e5 : gI σ 32 5 = rb) : WP (fX3_judgeQuestion σ f (nI p)) (fun r => gR r = gR σ ∧ (∀ c k, ¬ (52 ≤ c ∧ c ≤ 56) → gI r c k = gI σ c k) ∧ (∀ c k, 53 ≤ c → c ≤ 56 → k ≠ p → gI r c k = gI σ c k) ∧ JQ D P n (gI σ (f + 1) p = 0) m cl rb (gI r 53 p) (gI r 54 p) (gI r 55 p) (gI r 56 p)) := by
  obtain ⟨d, x1, x2⟩ := sortd (σ := σ) hfn
  have hord : ∀ k, k < n → srt (fun j => gI σ 51 (first + j)) n k = ordQ D n k := fun k hk => srt_congr n (fun j hj => hD j hj) k hk
  have olt : ∀ k, k < n → ordQ D n k < n := fun k hk => srt_lt n k hk
  have x3 : ∀ k, k < n → d k = nI (first + ordQ D n k) := fun k hk => by rw [x2 k hk, hord k hk]
  unfold fX3_judgeQuestion
  rw [nI_clamp (by omega), g2, g3]
  refine wp_grd (inb_nI hp (by decide)) (wp_v (wp_v ?_))
  rw [bnd1_of _ x1]
  have q52 : ∀ k, k < n → gI (sA σ 52 d) 52 k = nI (first + ordQ D n k) := fun k hk => by rw [gI_A]; exact x3 k hk
  have q51 : ∀ k, k < n → gI (sA σ 52 d) 51 (first + ordQ D n k) = nI (D (ordQ D n k)) := fun k hk => by rw [gI_A_ne (by omega)]; exact hD _ (olt k hk)
  have qP : gI (sA σ 52 d) 31 6 = nI P := by rw [gI_A_ne (by omega)]; exact hP
  have fr0 : ∀ c k, ¬ (52 ≤ c ∧ c ≤ 56) → gI (sA σ 52 d) c k = gI σ c k := fun c k hc => by rw [gI_A_ne (by omega)]
  have fr1 : ∀ c k, 53 ≤ c → c ≤ 56 → gI (sA σ 52 d) c k = gI σ c k := fun c k c1 c2 => by rw [gI_A_ne (by omega)]
  have fR : gR (sA σ 52 d) = gR σ := rfl
  generalize sA σ 52 d = σ4 at *
  unfold X3_judgeQuestion_L31
  refine wf_3 n (fun i v5 v6 v7 => v5 = nI (stQ D P n i).1 ∧ v6 = (stQ D P n i).2 ∧ v7 = nI i) ⟨rfl, rfl, rfl⟩ (by omega) ?_ ?_
  · rintro i _ _ _ rec hi ⟨rfl, rfl, rfl⟩ hr
    rw [if_neg (nI_ge hi (by omega)), nI_1]
    refine wp_vk1 (fun s => s = atQ D P n (i + 1)) ?_ fun j hj => ?_
    · rintro _ rfl
      have ea : atQ D P n i = nI (D (ordQ D n i)) := if_neg (by omega)
      have oi := olt i hi
      rw [nI_clamp (by omega), q52 i hi, nI_clamp (by omega), q51 i hi, ← ea]
      refine wp_grd (inb_nI (by omega) (by decide)) (wp_grd (inb_nI (by omega) (by decide)) ?_)
      have es : stQ D P n (i + 1) = if atQ D P n i - atQ D P n (i + 1) ≤ (stQ D P n i).2 then stQ D P n i else (i + 1, atQ D P n i - atQ D P n (i + 1)) := rfl
      refine wp_if (fun h => hr _ _ _ ⟨by rw [es, if_pos h], by rw [es, if_pos h], rfl⟩) fun h => wp_v (wp_v (hr _ _ _ ⟨by rw [es, if_neg h], by rw [es, if_neg h], rfl⟩))
    · by_cases c : i + 1 = n
      · rw [if_pos (nI_le (by omega) (by omega)), qP]
        exact hj _ (if_pos c).symm
      · have oi := olt (i + 1) (by omega)
        rw [if_neg (nI_ge (by omega) (by omega)), nI_clamp (by omega), q52 (i + 1) (by omega), nI_clamp (by omega), q51 (i + 1) (by omega)]
        exact wp_grd (inb_nI (by omega) (by decide)) (wp_grd (inb_nI (by omega) (by decide)) (hj _ (if_neg c).symm))
  rintro _ _ _ rec0 ⟨rfl, rfl, rfl⟩
  rw [if_pos (nI_le (Nat.le_refl _) (by omega))]
  have hle := stQ_le (D := D) (P := P) (n := n) n
  generalize hst : (stQ D P n n).2 = step at *
  generalize hah : (stQ D P n n).1 = ah at *
  refine wp_vv ?_; intro σ14 h14
  refine wp_vv ?_; intro σ15 h15
  have base : ∀ c k, ¬ ((c = 54 ∨ c = 56) ∧ k = p) → gI σ15 c k = gI σ4 c k := fun c k hc => by rw [h15, gI_nk (by omega), h14, gI_nk (by omega)]
  have b56 : gI σ15 56 p = step := by rw [h15, gI_ne (by omega), h14, gI_eq]
  have b54 : gI σ15 54 p = 0 := by rw [h15, gI_eq]
  have bR : gR σ15 = gR σ4 := by rw [h15, h14]; rfl
  have c3 : gI σ15 32 3 = m := by rw [base _ _ (by omega), fr0 _ _ (by omega)]; exact e3
  have eah : ahQ D P n m = if step < m then 0 else ah := by unfold ahQ; rw [hst, hah]
  refine wp_vk (fun v16 s => v16 = nI (ahQ D P n m) ∧ gR s = gR σ4 ∧ (∀ c k, ¬ ((c = 54 ∨ c = 56) ∧ k = p) → gI s c k = gI σ4 c k) ∧ gI s 56 p = step ∧ gI s 54 p = if step < m ∧ ¬ (2 : Int32) * step < m then 1 else 0) ?_ fun j172 hj => ?_
  · rintro _ s17 ⟨rfl, r1, r2, r3, r4⟩
    have hah6 : ahQ D P n m ≤ n := by rw [eah]; split <;> omega
    have k52 : ∀ k, k < n → gI s17 52 k = nI (first + ordQ D n k) := fun k hk => by rw [r2 _ _ (by omega)]; exact q52 k hk
    have k51 : ∀ k, k < n → gI s17 51 (first + ordQ D n k) = nI (D (ordQ D n k)) := fun k hk => by rw [r2 _ _ (by omega)]; exact q51 k hk
    have k1 : gI s17 (f + 1) p = gI σ (f + 1) p := by rw [r2 _ _ (by omega), fr0 _ _ (by omega)]
    have k4 : gI s17 32 4 = cl := by rw [r2 _ _ (by omega), fr0 _ _ (by omega)]; exact e4
    refine wp_vk (fun v18 s => ∃ y, v18 = nI y ∧ syQ D P n (gI σ (f + 1) p = 0) m cl y ∧ gR s = gR σ4 ∧ (∀ c k, ¬ ((c = 54 ∨ c = 56) ∧ k = p) → gI s c k = gI σ4 c k) ∧ gI s 56 p = step ∧ seQ D P n (gI σ (f + 1) p = 0) m cl (gI s 54 p)) ?_ fun j236 hj2 => ?_
    · rintro _ s19 ⟨y, rfl, hy, t1, t2, t3, t4⟩
      have hy6 : y ≤ n := by rcases hy with ⟨_, h⟩ | ⟨_, h⟩ <;> omega
      refine wp_vv ?_; intro σ20 h20
      refine wp_vv ?_; intro σ21 h21
      have z : ∀ c k, ¬ (53 ≤ c ∧ c ≤ 56 ∧ k = p) → gI σ21 c k = gI σ4 c k := fun c k hc => by rw [h21, gI_nk (by omega), h20, gI_nk (by omega)]; exact t2 c k (by omega)
      unfold X3_judgeQuestion_L253
      refine wf_2 n (fun i v s => v = nI i ∧ gR s = gR σ4 ∧ (∀ c k, ¬ (53 ≤ c ∧ c ≤ 56 ∧ k = p) → gI s c k = gI σ4 c k) ∧ gI s 54 p = gI s19 54 p ∧ gI s 56 p = step ∧ Bs (gI s 53 p) (fun b => ∃ k, k < i ∧ k < y ∧ ordQ D n k = b) ∧ Bs (gI s 55 p) (fun b => ∃ k, k < i ∧ ¬ k < y ∧ (k < ahQ D P n m ∨ ¬ nI (D b) - nI P < rb) ∧ ordQ D n k = b)) ⟨rfl, by rw [h21, h20]; exact t1, z, by rw [h21, gI_ne (by omega), h20, gI_ne (by omega)], by rw [h21, gI_ne (by omega), h20, gI_ne (by omega)]; exact t3, ?_, ?_⟩ (by omega) ?_ ?_
      · rw [h21, gI_ne (by omega), h20, gI_eq]
        exact Bs.zero.imp fun b _ => ⟨fun h => h.elim, fun ⟨k, k1, _⟩ => by omega⟩
      · rw [h21, gI_eq]
        exact Bs.zero.imp fun b _ => ⟨fun h => h.elim, fun ⟨k, k1, _⟩ => by omega⟩
      · rintro i _ s rec hi ⟨rfl, l1, l2, l3, l4, l5, l6⟩ hr
        have oi := olt i hi
        have w52 : gI s 52 i = nI (first + ordQ D n i) := by rw [l2 _ _ (by omega)]; exact q52 i hi
        have w51 : gI s 51 (first + ordQ D n i) = nI (D (ordQ D n i)) := by rw [l2 _ _ (by omega)]; exact q51 i hi
        have wP : gI s 31 6 = nI P := by rw [l2 _ _ (by omega)]; exact qP
        have w5 : gI s 32 5 = rb := by rw [l2 _ _ (by omega), fr0 _ _ (by omega)]; exact e5
        rw [if_neg (nI_ge hi (by omega)), nI_clamp (by omega), w52, show nI (first + ordQ D n i) - nI first = nI (ordQ D n i) by rw [nI_sub (by omega)]; exact congrArg nI (by omega), nI_clamp (by omega), nI_clamp (by omega), w51, wP, w5, nI_1]
        refine wp_grd (inb_nI (by omega) (by decide)) (wp_v ?_)
        have fresh : ∀ k, k < i → ordQ D n k ≠ ordQ D n i := fun k hk e => by have := srt_inj n k i (by omega) hi e; omega
        refine wp_if (fun h => ?_) fun h => ?_
        · have hyi : ¬ i < y := by have := (nI_leI (by omega) (by omega)).mp h; omega
          have same53 : Bs (gI s 53 p) (fun b => ∃ k, k < i + 1 ∧ k < y ∧ ordQ D n k = b) := l5.imp fun b _ => ⟨fun ⟨k, a1, a2⟩ => ⟨k, by omega, a2⟩, fun ⟨k, a1, a2, a3⟩ => ⟨k, by omega, a2, a3⟩⟩
          refine wp_vk1 (fun _ : Unit => i < ahQ D P n m ∨ ¬ nI (D (ordQ D n i)) - nI P < rb) ?_ fun j327 hj3 => ?_
          · rintro _ hc
            refine wp_grd (inb_nI hp (by decide)) ?_
            refine wp_vv ?_; intro s25 h25
            refine hr _ _ ⟨rfl, by rw [h25]; exact l1, fun c k hc => by rw [h25, gI_nk (by omega)]; exact l2 c k hc, by rw [h25, gI_ne (by omega)]; exact l3, by rw [h25, gI_ne (by omega)]; exact l4, by rw [h25, gI_ne (by omega)]; exact same53, ?_⟩
            rw [h25, gI_eq]
            refine l6.or (by omega) fun b hb => ⟨fun ⟨k, a1, a2, a3, a4⟩ => ?_, fun h => ?_⟩
            · by_cases e : k = i
              · subst e; exact Or.inr a4.symm
              · exact Or.inl ⟨k, by omega, a2, a3, a4⟩
            · rcases h with ⟨k, a1, a2, a3, a4⟩ | rfl
              · exact ⟨k, by omega, a2, a3, a4⟩
              · exact ⟨i, by omega, hyi, hc, rfl⟩
          · refine wp_if (fun h2 => hj3 () (Or.inl ((nI_ltI (by omega) (by omega)).mp h2))) fun h2 => wp_grd (inb_nI (by omega) (by decide)) (wp_if (fun h3 => ?_) fun h3 => hj3 () (Or.inr h3))
            refine hr _ _ ⟨rfl, l1, l2, l3, l4, same53, l6.imp fun b _ => ⟨fun ⟨k, a1, a2⟩ => ⟨k, by omega, a2⟩, fun ⟨k, a1, a2, a3, a4⟩ => ?_⟩⟩
            by_cases e : k = i
            · subst e
              subst a4
              rcases a3 with a3 | a3
              · exact absurd (nI_lt a3 (by omega)) h2
              · exact absurd h3 a3
            · exact ⟨k, by omega, a2, a3, a4⟩
        · have hyi : i < y := Nat.lt_of_not_le fun z => h (nI_le z (by omega))
          refine wp_grd (inb_nI hp (by decide)) ?_
          refine wp_vv ?_; intro s28 h28
          refine hr _ _ ⟨rfl, by rw [h28]; exact l1, fun c k hc => by rw [h28, gI_nk (by omega)]; exact l2 c k hc, by rw [h28, gI_ne (by omega)]; exact l3, by rw [h28, gI_ne (by omega)]; exact l4, ?_, ?_⟩
          · rw [h28, gI_eq]
            refine l5.or (by omega) fun b hb => ⟨fun ⟨k, a1, a2, a4⟩ => ?_, fun h => ?_⟩
            · by_cases e : k = i
              · subst e; exact Or.inr a4.symm
              · exact Or.inl ⟨k, by omega, a2, a4⟩
            · rcases h with ⟨k, a1, a2, a4⟩ | rfl
              · exact ⟨k, by omega, a2, a4⟩
              · exact ⟨i, by omega, hyi, rfl⟩
          · rw [h28, gI_ne (by omega)]
            exact l6.imp fun b _ => ⟨fun ⟨k, a1, a2⟩ => ⟨k, by omega, a2⟩, fun ⟨k, a1, a2, a3⟩ => ⟨k, by omega, a2, a3⟩⟩
      · rintro _ s rec ⟨rfl, l1, l2, l3, l4, l5, l6⟩
        rw [if_pos (nI_le (Nat.le_refl _) (by omega))]
        refine wp_some ⟨l1.trans fR, fun c k hc => by rw [l2 c k (by omega)]; exact fr0 c k hc, fun c k c1 c2 hk => by rw [l2 c k (by omega)]; exact fr1 c k c1 c2, y, hy, l5, l6, by rw [l3]; exact t4, l4.trans hst.symm⟩
    · have se0 : ∀ h : ¬ dbQ D P n (gI σ (f + 1) p = 0) m cl, seQ D P n (gI σ (f + 1) p = 0) m cl (gI s17 54 p) := fun h => Or.inr ⟨h, by rw [hst]; exact r4⟩
      rw [k1]
      refine wp_if (fun h1 => ?_) fun h1 => hj2 _ _ ⟨ahQ D P n m, rfl, Or.inr ⟨fun h => h1 h.1, rfl⟩, r1, r2, r3, se0 fun h => h1 h.1⟩
      refine wp_if (fun h2 => ?_) fun h2 => ?_
      · have hle1 : ¬ 1 < ahQ D P n m := by have := (nI_leI (b := 1) (by omega) (by omega)).mp h2; omega
        exact hj2 _ _ ⟨ahQ D P n m, rfl, Or.inr ⟨fun h => hle1 h.2.1, rfl⟩, r1, r2, r3, se0 fun h => hle1 h.2.1⟩
      · have hgt1 : 1 < ahQ D P n m := Nat.lt_of_not_le fun z => h2 (nI_le (b := 1) z (by omega))
        have o0 := olt 0 (by omega)
        have o1 := olt 1 (by omega)
        have a0 : atQ D P n 0 = nI (D (ordQ D n 0)) := if_neg (by omega)
        have a1 : atQ D P n 1 = nI (D (ordQ D n 1)) := if_neg (by omega)
        rw [k52 0 (by omega), k52 1 (by omega), nI_clamp (by omega), nI_clamp (by omega), k51 0 (by omega), k51 1 (by omega), k4, ← a0, ← a1]
        refine wp_grd (inb_nI (by omega) (by decide)) (wp_grd (inb_nI (by omega) (by decide)) (wp_if (fun h3 => ?_) fun h3 => ?_))
        · refine wp_vv ?_; intro s31 h31
          refine hj2 _ _ ⟨ahQ D P n m, rfl, Or.inr ⟨fun h => h.2.2 h3, rfl⟩, by rw [h31]; exact r1, fun c k hc => by rw [h31, gI_nk (by omega)]; exact r2 c k hc, by rw [h31, gI_ne (by omega)]; exact r3, Or.inl ⟨⟨h1, hgt1, h3⟩, by rw [h31, gI_eq]⟩⟩
        · exact hj2 _ _ ⟨1, rfl, Or.inl ⟨⟨h1, hgt1, h3⟩, rfl⟩, r1, r2, r3, se0 fun h => h3 h.2.2⟩
  · rw [c3]
    refine wp_if (fun h1 => ?_) fun h1 => ?_
    · have h1' : ¬ step < m := Int32.not_lt.mpr h1
      exact hj _ _ ⟨by rw [eah, if_neg h1'], bR, base, b56, by rw [b54, if_neg fun h => h1' h.1]⟩
    · have h1' : step < m := Int32.not_le.mp h1
      refine wp_vk1 (fun v => v = if step < m ∧ ¬ (2 : Int32) * step < m then 1 else 0) ?_ fun j171 hj1 => ?_
      · rintro _ rfl
        refine wp_vv ?_; intro s33 h33
        exact hj _ _ ⟨by rw [eah, if_pos h1']; rfl, by rw [h33]; exact bR, fun c k hc => by rw [h33, gI_nk (by omega)]; exact base c k hc, by rw [h33, gI_ne (by omega)]; exact b56, by rw [h33, gI_eq]⟩
      · refine wp_if (fun h2 => hj1 _ (by rw [if_neg fun h => h.2 h2])) fun h2 => hj1 _ (by rw [if_pos ⟨h1', h2⟩])
end JUDGE7

/-! from 53.judge8 of the class-and-reference proof: what speaks of the class alone -/
/-! One question judged: the reference's half. -/
section ORDER8
variable {σ : SS} {p n i : Nat}
theorem e6p (p i : Nat) : (6 : Int32) * nI p + nI i = nI (6 * p + i) := by rw [show (6 : Int32) = nI 6 from rfl, nI_mul, nI_add]
end ORDER8
section JUDGE8
variable {σ : SS} {b p n P : Nat} {D : Nat → Nat} {m cl rb : Int32}
end JUDGE8

/-! from 54.read of the class-and-reference proof: what speaks of the class alone -/
/-! All questions judged by the class. -/
def gnS (key an se wo pe : Int32) : Int32 := if key = 0 then 0 else if se = 0 then (if an = key then wo else if an = 0 then 0 else -pe) else 0
def F7 (f Q : Nat) (N : Nat → Nat) (σ : SS) : Prop := Q ≤ 12 ∧ gI σ f 5 = nI Q ∧ psum N Q ≤ 72 ∧ ∀ p, p < Q → (1 ≤ N p ∧ N p ≤ 6) ∧ gI σ (f + 2) p = nI (psum N p) ∧ gI σ (f + 3) p = nI (N p)
def R7 (f Q : Nat) (N : Nat → Nat) (D : Nat → Nat) (P : Nat) (σ r : SS) (p : Nat) : Prop := JQ (fun i => D (psum N p + i)) P (N p) (gI σ (f + 1) p = 0) (gI σ 32 3) (gI σ 32 4) (gI σ 32 5) (gI r 53 p) (gI r 54 p) (gI r 55 p) (gI r 56 p) ∧ gI r 57 p = gnS (gI σ (f + 4) p) (gI r 53 p) (gI r 54 p) (gI σ (f + 5) p) (gI σ 32 6)
theorem gain7 {σ : SS} {f p : Nat} (hp : p < 12) : fX3_gainOf σ f (nI p) = some (gnS (gI σ (f + 4) p) (gI σ 53 p) (gI σ 54 p) (gI σ (f + 5) p) (gI σ 32 6)) := by
  unfold fX3_gainOf gnS
  rw [grd_eq _ (inb_nI hp (by decide)), nI_clamp (by omega)]
  by_cases c1 : gI σ (f + 4) p = 0
  · rw [if_pos c1, if_pos c1]
  rw [if_neg c1, if_neg c1]
  by_cases c2 : gI σ 54 p = 0
  · rw [if_pos c2, if_pos c2]
    by_cases c3 : gI σ 53 p = gI σ (f + 4) p
    · rw [if_pos c3, if_pos c3]
    rw [if_neg c3, if_neg c3]
    by_cases c4 : gI σ 53 p = 0
    · rw [if_pos c4, if_pos c4]
    · rw [if_neg c4, if_neg c4]
  · rw [if_neg c2, if_neg c2]
theorem read7 {sc f w q spk : Nat} {lvl mk : Int32} {pic : Nat → Int32} {U V A B Q : Nat} {N cx cy : Nat → Nat} {σ : SS} (h : C7 sc f w q spk lvl mk pic U V A B (psum N Q) cx cy σ) (hF : F7 f Q N σ) : WP (fX3_read σ sc f) (fun r => (r.1 = true ↔ frU (mkB w q spk mk (inkP lvl pic)) 4) ∧ gR r.2 = gR σ ∧ (∀ c k, ¬ (33 ≤ c ∧ c ≤ 57) → ¬ (c = 31 ∧ k = 6) → gI r.2 c k = gI σ c k) ∧ (frU (mkB w q spk mk (inkP lvl pic)) 4 → (∀ k, k < psum N Q → gI r.2 51 k = nI (dkD w q spk lvl mk pic U V A B cx cy k)) ∧ ∀ p, p < Q → R7 f Q N (dkD w q spk lvl mk pic U V A B cx cy) (pN (dkD w q spk lvl mk pic U V A B cx cy) (psum N Q)) σ r.2 p)) := by
  obtain ⟨hQ, f5, hT, hq⟩ := hF
  have hf : f = 10 ∨ f = 18 := h.2.1
  unfold fX3_read
  refine wp_bndp (measure7 h) ?_
  rintro mb r1 ⟨a0, a1, a2, a3⟩
  dsimp only at a0 a1 a2 a3
  refine wp_if (fun hb => ?_) fun hb => wp_some ⟨⟨fun h => absurd (show false = true from h) (by decide), fun h => absurd (a0.mpr h) hb⟩, a1, fun c k c1 c2 => a2 c k (by omega) c2, fun h => absurd (a0.mpr h) hb⟩
  have hm := a0.mp hb
  obtain ⟨d1, d2⟩ := a3 hm
  generalize dkD w q spk lvl mk pic U V A B cx cy = D at *
  unfold X3_read_L13
  refine wf_2 Q (fun p v s => v = nI p ∧ gR s = gR r1 ∧ (∀ c k, ¬ (52 ≤ c ∧ c ≤ 57) → gI s c k = gI r1 c k) ∧ ∀ p', p' < p → R7 f Q N D (pN D (psum N Q)) σ s p') ⟨rfl, rfl, fun _ _ _ => rfl, fun p' hp' => absurd hp' (by omega)⟩ (by omega) ?_ ?_
  · rintro p _ s rec hp ⟨rfl, i1, i2, i3⟩ hr
    obtain ⟨hN, g2, g3⟩ := hq p hp
    have hpT : psum N p + (N p - 1) < psum N Q := psum_lt hp (by omega)
    have fr : ∀ c k, ¬ (33 ≤ c ∧ c ≤ 57) → ¬ (c = 31 ∧ k = 6) → gI s c k = gI σ c k := fun c k c1 c2 => by rw [i2 c k (by omega)]; exact a2 c k (by omega) c2
    rw [fr f 5 (by omega) (by omega), f5, if_neg (nI_ge hp (by omega)), nI_1]
    refine wp_bnd1 (judge7 (σ := s) (f := f) (p := p) (first := psum N p) (n := N p) (P := pN D (psum N Q)) (D := fun i => D (psum N p + i)) hf (by omega) hN (by omega) (by rw [fr _ _ (by omega) (by omega)]; exact g2) (by rw [fr _ _ (by omega) (by omega)]; exact g3) (fun i hi => by rw [i2 _ _ (by omega)]; exact d1 _ (psum_lt hp hi)) (by rw [i2 _ _ (by omega)]; exact d2 (by omega)) rfl rfl rfl) ?_
    rintro s5 ⟨j1, j2, j3, j4⟩
    rw [gain7 (by omega), bnd1_some, nI_clamp (by omega)]
    refine wp_grd (inb_nI (by omega) (by decide)) ?_
    refine wp_vv ?_; intro s10 h10
    have fr5 : ∀ c k, ¬ (33 ≤ c ∧ c ≤ 57) → ¬ (c = 31 ∧ k = 6) → gI s5 c k = gI σ c k := fun c k c1 c2 => by rw [j2 c k (by omega)]; exact fr c k c1 c2
    refine hr _ _ ⟨rfl, by rw [h10]; exact j1.trans i1, fun c k hc => by rw [h10, gI_ne (by omega), j2 c k (by omega)]; exact i2 c k hc, fun p' hp' => ?_⟩
    unfold R7
    by_cases e : p' = p
    · subst e
      rw [h10, gI_ne (by omega), gI_ne (by omega), gI_ne (by omega), gI_ne (by omega), gI_eq]
      rw [fr (f + 1) p' (by omega) (by omega), fr 32 3 (by omega) (by omega), fr 32 4 (by omega) (by omega), fr 32 5 (by omega) (by omega)] at j4
      exact ⟨j4, by rw [fr5 (f + 4) p' (by omega) (by omega), fr5 (f + 5) p' (by omega) (by omega), fr5 32 6 (by omega) (by omega)]⟩
    · have o := i3 p' (by omega)
      unfold R7 at o
      rw [h10, gI_ne (by omega), gI_ne (by omega), gI_ne (by omega), gI_ne (by omega), gI_nk (by omega), j3 53 p' (by omega) (by omega) e, j3 54 p' (by omega) (by omega) e, j3 55 p' (by omega) (by omega) e, j3 56 p' (by omega) (by omega) e, j2 57 p' (by omega)]
      exact o
  · rintro _ s rec ⟨rfl, i1, i2, i3⟩
    rw [i2 f 5 (by omega), a2 f 5 (by omega) (by omega), f5, if_pos (nI_le (Nat.le_refl _) (by omega))]
    exact wp_some ⟨⟨fun _ => hm, fun _ => rfl⟩, i1.trans a1, fun c k c1 c2 => by rw [i2 c k (by omega)]; exact a2 c k (by omega) c2, fun _ => ⟨fun k hk => by rw [i2 _ _ (by omega)]; exact d1 k hk, i3⟩⟩

/-! from 55.judged of the class-and-reference proof: what speaks of the class alone -/
/-! Judged, unlike kept. -/
def Kj (σ s : SS) : Prop := ∀ c k, ¬ (c = 31 ∨ (33 ≤ c ∧ c ≤ 57) ∨ (91 ≤ c ∧ c ≤ 108) ∨ (c = 73 ∧ ¬ (k = 1 ∨ k = 11 ∨ k = 12 ∨ k = 29 ∨ k = 30 ∨ k = 31 ∨ k = 65))) → gI s c k = gI σ c k
section G8S
variable {w q spk : Nat} {lvl mk : Int32} {pic : Nat → Int32} {b U V A B Q : Nat} {N cx cy D : Nat → Nat} {P : Nat} {σ s : SS}
end G8S
/-! from 56.sheet of the class-and-reference proof: what speaks of the class alone -/
/-! Sheet kept. -/
def pop12 (v : Int32) : Int32 := itr (fun k n => n + ((v >>> (nI k &&& 31)) &&& 1)) 0 12
theorem popc (σ : SS) : ∀ m, m < 64 → fJ6_bitCount_0f7a4 σ (nI m) = pop12 (nI m) := by
  unfold fJ6_bitCount_0f7a4 pop12
  simp only [vthen_eq]
  decide +kernel
def shW (r : SS) (what : Nat) (p : Nat) (n : Int32) : Int32 :=
  if what = 0 then n + gI r 57 p else if what = 3 then (if gI r 54 p = 0 then (if gI r 53 p = 0 then n + 1 else n) else n) else if what = 4 then n + pop12 (gI r 55 p) else if gI r 54 p = nI what then n + 1 else n
section SHEET7
variable {r : SS} {f Q : Nat}
theorem gains7 (hQ : Q ≤ 12) (e5 : gI r f 5 = nI Q) : fX3_allGains r f = some (itr (shW r 0) 0 Q) := by
  unfold fX3_allGains X3_allGains_L4
  refine lp_2 (fun i => itr (shW r 0) 0 i) (fun i => nI i) Q _ (fun i hi rec => ?_) (fun rec => ?_) fuel (fuel_gt (by omega))
  · rw [e5, if_neg (nI_ge hi (by omega)), grd_eq _ (inb_nI (by omega) (by decide)), nI_clamp (by omega), nI_1, vthen_q]
    rfl
  · rw [e5, if_pos (nI_le (Nat.le_refl _) (by omega))]
theorem state7 {k : Nat} (hk : k = 1 ∨ k = 2) (hQ : Q ≤ 12) (e5 : gI r f 5 = nI Q) : fX3_inState r f (nI k) = some (itr (shW r k) 0 Q) := by
  unfold fX3_inState X3_inState_L5
  refine lp_2 (fun i => itr (shW r k) 0 i) (fun i => nI i) Q _ (fun i hi rec => ?_) (fun rec => ?_) fuel (fuel_gt (by omega))
  · rw [e5, if_neg (nI_ge hi (by omega)), grd_eq _ (inb_nI (by omega) (by decide)), nI_clamp (by omega), nI_1]
    have es : itr (shW r k) (0 : Int32) (i + 1) = if gI r 54 i = nI k then itr (shW r k) 0 i + 1 else itr (shW r k) 0 i := by
      show shW r k i (itr (shW r k) 0 i) = _
      unfold shW
      rw [if_neg (by omega), if_neg (by omega), if_neg (by omega)]
    rw [es]
    by_cases c : gI r 54 i = nI k
    · rw [if_pos c, if_pos c]
    · rw [if_neg c, if_neg c]
  · rw [e5, if_pos (nI_le (Nat.le_refl _) (by omega))]
theorem empty7 (hQ : Q ≤ 12) (e5 : gI r f 5 = nI Q) : fX3_leftEmpty r f = some (itr (shW r 3) 0 Q) := by
  unfold fX3_leftEmpty X3_leftEmpty_L4
  refine lp_2 (fun i => itr (shW r 3) 0 i) (fun i => nI i) Q _ (fun i hi rec => ?_) (fun rec => ?_) fuel (fuel_gt (by omega))
  · rw [e5, if_neg (nI_ge hi (by omega)), grd_eq _ (inb_nI (by omega) (by decide)), nI_clamp (by omega), nI_1]
    have es : itr (shW r 3) (0 : Int32) (i + 1) = (if gI r 54 i = 0 then (if gI r 53 i = 0 then itr (shW r 3) 0 i + 1 else itr (shW r 3) 0 i) else itr (shW r 3) 0 i) := rfl
    rw [es]
    by_cases c : gI r 54 i = 0
    · rw [if_pos c, if_pos c]
      by_cases c2 : gI r 53 i = 0
      · rw [if_pos c2, if_pos c2]
      · rw [if_neg c2, if_neg c2]
    · rw [if_neg c, if_neg c]
  · rw [e5, if_pos (nI_le (Nat.le_refl _) (by omega))]
theorem rubbed7 (hQ : Q ≤ 12) (e5 : gI r f 5 = nI Q) (hb : ∀ p, p < Q → ∃ m, m < 64 ∧ gI r 55 p = nI m) : fX3_allRubbed r f = some (itr (shW r 4) 0 Q) := by
  unfold fX3_allRubbed X3_allRubbed_L4
  refine lp_2 (fun i => itr (shW r 4) 0 i) (fun i => nI i) Q _ (fun i hi rec => ?_) (fun rec => ?_) fuel (fuel_gt (by omega))
  · obtain ⟨m, hm, em⟩ := hb i hi
    rw [e5, if_neg (nI_ge hi (by omega)), grd_eq _ (inb_nI (by omega) (by decide)), nI_clamp (by omega), nI_1, vthen_q, em, popc r m hm, ← em]
    rfl
  · rw [e5, if_pos (nI_le (Nat.le_refl _) (by omega))]
end SHEET7
def Jd (b Q : Nat) (N D : Nat → Nat) (P : Nat) (σ r1 : SS) : Prop := ∀ p, p < Q → JQ (fun i => D (psum N p + i)) P (N p) (gI σ 76 (12 * b + p) = 1) (gI σ 88 3) (gI σ 88 4) (gI σ 88 5) (gI r1 53 p) (gI r1 54 p) (gI r1 55 p) (gI r1 56 p) ∧ gI r1 57 p = gnS (gI σ 78 (12 * b + p)) (gI r1 53 p) (gI r1 54 p) (gI σ 79 (12 * b + p)) (gI σ 88 6)
