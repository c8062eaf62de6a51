/-! The map: both sides' numbers. -/
def oth (S : Nat → Nat) (k : Nat) : Nat → Nat
  | 0 => 1
  | i + 1 => if i = k then oth S k i else oth S k i * S i
def allS (S : Nat → Nat) : Nat := S 0 * S 1 * S 2 * S 3
def mpN (Z S : Nat → Nat) (A B i j : Nat) : Nat := Z 0 * oth S 0 4 * ((A - i) * (B - j)) + Z 1 * oth S 1 4 * (i * (B - j)) + Z 2 * oth S 2 4 * ((A - i) * j) + Z 3 * oth S 3 4 * (i * j)
def byN (S : Nat → Nat) (A B : Nat) : Nat := allS S * A * B
/-- rounded, and in hundredths -/
def rdV (Z S : Nat → Nat) (A B i j : Nat) : Int32 := Int64.toInt32 ((2 * lN (mpN Z S A B i j) + lN (byN S A B)) / (2 * lN (byN S A B)))
def hdV (Z S : Nat → Nat) (A B i j : Nat) : Int32 := Int64.toInt32 (100 * lN (mpN Z S A B i j) / lN (byN S A B))
theorem oth_e (S : Nat → Nat) : oth S 0 4 = 1 * S 1 * S 2 * S 3 ∧ oth S 1 4 = 1 * S 0 * S 2 * S 3 ∧ oth S 2 4 = 1 * S 0 * S 1 * S 3 ∧ oth S 3 4 = 1 * S 0 * S 1 * S 2 := ⟨rfl, rfl, rfl, rfl⟩
theorem all_div {S : Nat → Nat} (h : ∀ k, k < 4 → 1 ≤ S k) {k : Nat} (hk : k < 4) : allS S / S k = oth S k 4 := by
  have e : allS S = oth S k 4 * S k := by
    obtain ⟨h0, h1, h2, h3⟩ := oth_e S
    unfold allS
    rcases (show k = 0 ∨ k = 1 ∨ k = 2 ∨ k = 3 by omega) with rfl | rfl | rfl | rfl
    · rw [h0]; grind
    · rw [h1]; grind
    · rw [h2]; grind
    · rw [h3]; grind
  rw [e]; exact Nat.mul_div_cancel _ (h k hk)
theorem all_bd {S : Nat → Nat} (h : ∀ k, k < 4 → 1 ≤ S k ∧ S k ≤ 1600) : 1 ≤ allS S ∧ allS S ≤ 6553600000000 := by
  unfold allS
  have h0 := h 0 (by omega)
  have h1 := h 1 (by omega)
  have h2 := h 2 (by omega)
  have h3 := h 3 (by omega)
  constructor
  · exact Nat.mul_pos (Nat.mul_pos (Nat.mul_pos (by omega) (by omega)) (by omega)) (by omega)
  · have := Nat.mul_le_mul (Nat.mul_le_mul (Nat.mul_le_mul h0.2 h1.2) h2.2) h3.2
    omega
theorem by_bd {S : Nat → Nat} {A B : Nat} (h : ∀ k, k < 4 → 1 ≤ S k ∧ S k ≤ 1600) (hA : 1 ≤ A ∧ A ≤ 80) (hB : 1 ≤ B ∧ B ≤ 80) : 1 ≤ byN S A B ∧ 2 * byN S A B < 2 ^ 63 := by
  obtain ⟨h1, h2⟩ := all_bd h
  unfold byN
  constructor
  · exact Nat.mul_pos (Nat.mul_pos h1 hA.1) hB.1
  · have := Nat.mul_le_mul (Nat.mul_le_mul h2 hA.2) hB.2
    omega
section PLACES
variable {σ : SS} {X Y S : Nat → Nat} {U V : Nat}
/-- the class's places, spread for a form -/
def Pl (X Y S : Nat → Nat) (A B : Nat) (σ : SS) : Prop := (∀ k, k < 4 → gL σ 49 k = lN (X k * oth S k 4) ∧ gL σ 50 k = lN (Y k * oth S k 4)) ∧ gL σ 45 5 = lN (byN S A B) ∧ gI σ 45 6 = nI A ∧ gI σ 45 7 = nI B
theorem spread7 (h : ∀ k, k < 4 → gL σ 46 k = lN (X k) ∧ gL σ 47 k = lN (Y k) ∧ gL σ 48 k = lN (S k)) (hU : U ≤ 40) (hV : V ≤ 40) : WP (fX5_spread σ (nI U) (nI V)) (fun r => gR r = gR σ ∧ (∀ c k, c ≠ 45 → gI r c k = gI σ c k) ∧ Pl X Y S (2 * U) (2 * V) r) := by
  unfold fX5_spread X5_spread_L2
  refine wf_2 4 (fun k v s' => v = nI k ∧ gR s' = gR σ ∧ (∀ c j, gI s' c j = gI σ c j) ∧ (∀ c j, c ≠ 49 → c ≠ 50 → gL s' c j = gL σ c j) ∧ ∀ j, j < k → gL s' 49 j = lN (X j * oth S j 4) ∧ gL s' 50 j = lN (Y j * oth S j 4)) ⟨rfl, rfl, fun _ _ => rfl, fun _ _ _ _ => rfl, fun j hj => absurd hj (by omega)⟩ (by omega) ?_ ?_
  · rintro k _ s' rec hk ⟨rfl, i1, i2, i3, i4⟩ hr
    rw [if_neg (by show ¬ nI 4 ≤ nI k; exact nI_ge hk (by decide))]
    unfold X5_spread_L13
    refine wf_2 4 (fun i w v => w = lN (oth S k i) ∧ v = nI i) ⟨rfl, rfl⟩ (by omega) ?_ ?_
    · rintro i _ _ rec2 hi ⟨rfl, rfl⟩ hr2
      rw [if_neg (by show ¬ nI 4 ≤ nI i; exact nI_ge hi (by decide)), nI_clamp (by omega), i3 _ _ (by omega) (by omega), (h i hi).2.2, lN_mul, nI_1]
      have e : oth S k (i + 1) = if i = k then oth S k i else oth S k i * S i := rfl
      refine wp_if (fun hc => hr2 _ _ ⟨?_, rfl⟩) fun hc => wp_grd (inb_nI hi (by decide)) (wp_v (hr2 _ _ ⟨?_, rfl⟩))
      · rw [e, if_pos ((nI_eq (by omega) (by omega)).mp hc)]
      · rw [e, if_neg fun q => hc (by rw [q])]
    · rintro _ _ rec2 ⟨rfl, rfl⟩
      rw [if_pos (by decide), nI_clamp (by omega), nI_1]
      refine wp_grd (inb_nI hk (by decide)) ?_
      refine wp_vv ?_; intro s2 g2
      refine wp_vv ?_; intro s3 g3
      refine hr _ _ ⟨rfl, by rw [g3, g2]; exact i1, fun c j => by rw [g3, g2]; exact i2 c j, fun c j c1 c2 => by rw [g3, gL_sL, if_neg (by omega), g2, gL_sL, if_neg (by omega)]; exact i3 c j c1 c2, fun j hj => ?_⟩
      by_cases e : j = k
      · subst e
        constructor
        · rw [g3, gL_sL, if_neg (by omega), g2, gL_sL, if_pos ⟨rfl, rfl⟩, i3 _ _ (by omega) (by omega), (h j hk).1, lN_mul]
        · rw [g3, gL_sL, if_pos ⟨rfl, rfl⟩, g2, gL_sL, if_neg (by omega), i3 _ _ (by omega) (by omega), (h j hk).2.1, lN_mul]
      · obtain ⟨k1, k2⟩ := i4 j (by omega)
        constructor
        · rw [g3, gL_sL, if_neg (by omega), g2, gL_sL, if_neg (by omega)]; exact k1
        · rw [g3, gL_sL, if_neg (by omega), g2, gL_sL, if_neg (by omega)]; exact k2
  · rintro _ s' rec ⟨rfl, i1, i2, i3, i4⟩
    rw [if_pos (by decide)]
    refine wp_vv ?_; intro s2 g2
    refine wp_vv ?_; intro s3 g3
    have eU : (2 : Int32) * nI U = nI (2 * U) := nI_mul 2 U
    have eV : (2 : Int32) * nI V = nI (2 * V) := nI_mul 2 V
    have k6 : gI s3 45 6 = nI (2 * U) := by rw [g3, gI_nk (by omega), g2, gI_eq, eU]
    have k7 : gI s3 45 7 = nI (2 * V) := by rw [g3, gI_eq, eV]
    have kL : ∀ c j, gL s3 c j = gL s' c j := fun c j => by rw [g3, g2]; rfl
    refine wp_vv ?_; intro s4 g4
    refine wp_some ⟨by rw [g4, g3, g2]; exact i1, fun c j hc => by rw [g4, gI_sL, g3, gI_ne hc, g2, gI_ne hc]; exact i2 c j, ?_, ?_, by rw [g4, gI_sL]; exact k6, by rw [g4, gI_sL]; exact k7⟩
    · intro k hk
      rw [g4, gL_sL, if_neg (by omega), gL_sL, if_neg (by omega), kL, kL]
      exact i4 k hk
    · rw [g4, gL_sL, if_pos ⟨rfl, rfl⟩, kL, kL, kL, kL, i3 _ _ (by omega) (by omega), i3 _ _ (by omega) (by omega), i3 _ _ (by omega) (by omega), i3 _ _ (by omega) (by omega), (h 0 (by omega)).2.2, (h 1 (by omega)).2.2, (h 2 (by omega)).2.2, (h 3 (by omega)).2.2, k6, k7, nI_l (by omega), nI_l (by omega), lN_mul, lN_mul, lN_mul, lN_mul, lN_mul]
      rfl
theorem weigh7 {A B i j : Nat} {Z : Nat → Nat} {c : Nat} (h6 : gI σ 45 6 = nI A) (h7 : gI σ 45 7 = nI B) (hZ : ∀ k, k < 4 → gL σ c k = lN (Z k * oth S k 4)) (hA : A ≤ 80) (hB : B ≤ 80) (hi : i ≤ A) (hj : j ≤ B) : fX5_weighed σ c (nI i) (nI j) = some (lN (mpN Z S A B i j)) := by
  have m1 : (A - i) * (B - j) ≤ 80 * 80 := Nat.mul_le_mul (by omega) (by omega)
  have m2 : i * (B - j) ≤ 80 * 80 := Nat.mul_le_mul (by omega) (by omega)
  have m3 : (A - i) * j ≤ 80 * 80 := Nat.mul_le_mul (by omega) (by omega)
  have m4 : i * j ≤ 80 * 80 := Nat.mul_le_mul (by omega) (by omega)
  unfold fX5_weighed
  rw [h6, h7, nI_sub hi, nI_sub hj, nI_mul, nI_mul, nI_mul, nI_mul, nI_l (by omega), nI_l (by omega), nI_l (by omega), nI_l (by omega), hZ 0 (by omega), hZ 1 (by omega), hZ 2 (by omega), hZ 3 (by omega), lN_mul, lN_mul, lN_mul, lN_mul, lN_add, lN_add, lN_add]
  rfl
theorem lg_pos {n : Nat} (h : 1 ≤ n) (h2 : n < 2 ^ 63) : ¬ lg_cmp (lN n) (0 : Int64) ≤ 0 := by
  rw [lg_cmp_le, show (0 : Int64) = lN 0 from rfl, pk_lLE h2 (by omega)]; omega
theorem nzl_lN {n : Nat} (h : 1 ≤ n) (h2 : n < 2 ^ 63) : nzl (lN n) = true := decide_eq_true fun e => by
  rw [show (0 : Int64) = lN 0 from rfl, pk_lEQ h2 (by omega)] at e; omega
theorem two_by {n : Nat} : (2 : Int64) * lN n = lN (2 * n) := lN_mul 2 n
theorem dots7 {A B i j : Nat} (hP : Pl X Y S A B σ) (hS : ∀ k, k < 4 → 1 ≤ S k ∧ S k ≤ 1600) (hA : 1 ≤ A ∧ A ≤ 80) (hB : 1 ≤ B ∧ B ≤ 80) (hi : i ≤ A) (hj : j ≤ B) : fX5_dotX σ (nI i) (nI j) = some (rdV X S A B i j) ∧ fX5_dotY σ (nI i) (nI j) = some (rdV Y S A B i j) ∧ fX5_hundredthsX σ (nI i) (nI j) = some (hdV X S A B i j) ∧ fX5_hundredthsY σ (nI i) (nI j) = some (hdV Y S A B i j) := by
  obtain ⟨p1, p2, p3, p4⟩ := hP
  obtain ⟨b1, b2⟩ := by_bd hS hA hB
  have wx := weigh7 (Z := X) (S := S) p3 p4 (fun k hk => (p1 k hk).1) hA.2 hB.2 hi hj
  have wy := weigh7 (Z := Y) (S := S) p3 p4 (fun k hk => (p1 k hk).2) hA.2 hB.2 hi hj
  have rd : ∀ v : Int64, fX5_rounded σ v = some (Int64.toInt32 ((2 * v + lN (byN S A B)) / (2 * lN (byN S A B)))) := fun v => by
    unfold fX5_rounded
    rw [p2, if_neg (lg_pos b1 (by omega)), grd_eq _ (by rw [two_by]; exact nzl_lN (by omega) b2)]
  have hu : ∀ v : Int64, fX5_hundredths σ v = some (Int64.toInt32 (100 * v / lN (byN S A B))) := fun v => by
    unfold fX5_hundredths
    rw [p2, if_neg (lg_pos b1 (by omega)), grd_eq _ (nzl_lN b1 (by omega))]
  unfold fX5_dotX fX5_dotY fX5_hundredthsX fX5_hundredthsY
  rw [wx, wy, bnd1_some, bnd1_some, bnd1_some, bnd1_some, rd, rd, hu, hu]
  exact ⟨rfl, rfl, rfl, rfl⟩
end PLACES
theorem head8 {σ : SS} {b k v : Nat} (h12 : gI σ 73 12 = 1) (h11 : gI σ 73 11 = nI b) (hb : b < 2) (hk : k < 5) (h : gI σ 75 (5 * b + k) = nI v) : fX8_headOf σ (nI k) = some (nI v) := by
  unfold fX8_headOf
  have e5 : (5 : Int32) * nI b + nI k = nI (5 * b + k) := by rw [show (5 : Int32) = nI 5 from rfl, nI_mul, nI_add]
  rw [h12, if_neg (by decide), h11, e5, grd_eq _ (inb_nI (by omega) (by decide)), nI_clamp (by omega), h]
section MAPS8
variable {σ : SS} {X Y S : Nat → Nat} {U V b : Nat}
def Hd (b U V A B Q : Nat) (σ : SS) : Prop := b < 2 ∧ gI σ 73 12 = 1 ∧ gI σ 73 11 = nI b ∧ gI σ 75 (5 * b) = nI U ∧ gI σ 75 (5 * b + 1) = nI V ∧ gI σ 75 (5 * b + 2) = nI A ∧ gI σ 75 (5 * b + 3) = nI B ∧ gI σ 75 (5 * b + 4) = nI Q
def acN (Z S : Nat → Nat) (A B i j : Nat) : Nat → Nat
  | 0 => 0
  | k + 1 => acN Z S A B i j k + ((if k % 2 = 0 then A - i else i) * (if k < 2 then B - j else j)) * Z k * oth S k 4
theorem ac_mp (Z S : Nat → Nat) (A B i j : Nat) : acN Z S A B i j 4 = mpN Z S A B i j := by
  have e : acN Z S A B i j 4 = 0 + ((A - i) * (B - j)) * Z 0 * oth S 0 4 + (i * (B - j)) * Z 1 * oth S 1 4 + ((A - i) * j) * Z 2 * oth S 2 4 + (i * j) * Z 3 * oth S 3 4 := rfl
  rw [e]
  unfold mpN
  generalize A - i = a
  generalize B - j = c
  generalize oth S 0 4 = o0
  generalize oth S 1 4 = o1
  generalize oth S 2 4 = o2
  generalize oth S 3 4 = o3
  grind
theorem maps8 {A0 B0 Q i j : Nat} (isX : Bool) (hH : Hd b U V A0 B0 Q σ) (hL : ∀ k, k < 4 → gL σ 103 k = lN (X k) ∧ gL σ 104 k = lN (Y k) ∧ gL σ 105 k = lN (S k)) (hS : ∀ k, k < 4 → 1 ≤ S k ∧ S k ≤ 1600) (hU : U ≤ 40) (hV : V ≤ 40) (hi : i ≤ 2 * U) (hj : j ≤ 2 * V) : WP (fX8_maps σ (nI i) (nI j) isX) (fun r => gR r = gR σ ∧ (∀ c k, gI r c k = gI σ c k) ∧ (∀ c k, c ≠ 73 → gL r c k = gL σ c k) ∧ gL r 73 50 = lN (mpN (if isX = true then X else Y) S (2 * U) (2 * V) i j) ∧ gL r 73 51 = lN (byN S (2 * U) (2 * V))) := by
  obtain ⟨hb, h12, h11, g0, g1, -⟩ := hH
  obtain ⟨b1, b2⟩ := all_bd hS
  have eU : (2 : Int32) * nI U - nI i = nI (2 * U - i) := by rw [show (2 : Int32) = nI 2 from rfl, nI_mul, nI_sub hi]
  have eV : (2 : Int32) * nI V - nI j = nI (2 * V - j) := by rw [show (2 : Int32) = nI 2 from rfl, nI_mul, nI_sub hj]
  have hd0 : ∀ s', (∀ c k, gI s' c k = gI σ c k) → fX8_headOf s' (0 : Int32) = some (nI U) := fun s' h => head8 (k := 0) (by rw [h]; exact h12) (by rw [h]; exact h11) hb (by omega) (by rw [h]; exact g0)
  have hd1 : ∀ s', (∀ c k, gI s' c k = gI σ c k) → fX8_headOf s' (1 : Int32) = some (nI V) := fun s' h => head8 (k := 1) (by rw [h]; exact h12) (by rw [h]; exact h11) hb (by omega) (by rw [h]; exact g1)
  unfold fX8_maps
  rw [hd0 σ fun _ _ => rfl, hd1 σ fun _ _ => rfl, bnd1_some, eU, nI_l (by omega)]
  refine wp_v ?_
  rw [bnd1_some, eV, nI_l (by omega), (hL 0 (by omega)).2.2, (hL 1 (by omega)).2.2, (hL 2 (by omega)).2.2, (hL 3 (by omega)).2.2, lN_mul, lN_mul, lN_mul]
  refine wp_v (wp_v ?_)
  refine wp_vv ?_; intro s1 g1'
  unfold X8_maps_L61
  refine wf_2 4 (fun k v s' => v = nI k ∧ gR s' = gR σ ∧ (∀ c j, gI s' c j = gI σ c j) ∧ (∀ c j, c ≠ 73 → gL s' c j = gL σ c j) ∧ gL s' 73 50 = lN (acN (if isX = true then X else Y) S (2 * U) (2 * V) i j k)) ⟨rfl, by rw [g1']; rfl, fun c j => by rw [g1']; rfl, fun c j hc => by rw [g1', gL_sL, if_neg (by omega)], by rw [g1', gL_sL, if_pos ⟨rfl, rfl⟩]; rfl⟩ (by omega) ?_ ?_
  · rintro k _ s' rec hk ⟨rfl, i1, i2, i3, i4⟩ hr
    have hl := hL k hk
    rw [if_neg (by show ¬ nI 4 ≤ nI k; exact nI_ge hk (by decide)), show irm (nI k) (2 : Int32) = nI (k % 2) from rem_nI (w := 2) (by omega) (by omega) (by omega), nI_clamp (by omega), i3 105 k (by omega), i3 103 k (by omega), i3 104 k (by omega), hl.1, hl.2.1, hl.2.2, i4, nI_l (by omega), nI_l (by omega), nI_1]
    refine wp_vk1 (fun v => v = lN (if k % 2 = 0 then 2 * U - i else i)) ?_ fun j' hj' => ?_
    · rintro _ rfl
      refine wp_vk1 (fun v => v = lN (if k < 2 then 2 * V - j else j)) ?_ fun j' hj' => ?_
      · rintro _ rfl
        refine wp_v ?_
        refine wp_vk1 (fun v => v = lN ((if isX = true then X else Y) k)) ?_ fun j' hj' => ?_
        · rintro _ rfl
          have hs := hS k hk
          rw [show lN (S 0 * S 1 * S 2 * S 3) / lN (S k) = lN (oth S k 4) by rw [pk_lDiv (by unfold allS at b2; omega) (by omega) (by omega)]; exact congrArg lN (all_div (fun k hk => (hS k hk).1) hk), lN_mul, lN_mul, lN_mul, lN_add]
          refine wp_grd (inb_nI hk (by decide)) (wp_grd (nzl_lN hs.1 (by omega)) ?_)
          refine wp_vv ?_; intro s2 g2
          refine hr _ _ ⟨rfl, by rw [g2]; exact i1, fun c j => by rw [g2]; exact i2 c j, fun c j hc => by rw [g2, gL_sL, if_neg (by omega)]; exact i3 c j hc, by rw [g2, gL_sL, if_pos ⟨rfl, rfl⟩]; rfl⟩
        · refine wp_if (fun h => wp_grd (inb_nI hk (by decide)) (hj' _ (by rw [if_pos h]))) fun h => wp_grd (inb_nI hk (by decide)) (hj' _ (by rw [if_neg h]))
      · by_cases c : k < 2
        · rw [if_neg (by show ¬ nI 2 ≤ nI k; exact nI_ge c (by omega))]; exact hj' _ (by rw [if_pos c])
        · rw [if_pos (by show nI 2 ≤ nI k; exact nI_le (by omega) (by omega))]; exact hj' _ (by rw [if_neg c])
    · by_cases c : k % 2 = 0
      · rw [if_pos (by rw [c]; rfl)]; exact hj' _ (by rw [if_pos c])
      · rw [if_neg (nI_ne0 (by omega) (by omega))]; exact hj' _ (by rw [if_neg c])
  · rintro _ s' rec ⟨rfl, i1, i2, i3, i4⟩
    rw [if_pos (by decide)]
    dsimp only
    rw [hd0 s' i2, bnd1_some, hd1 s' i2, bnd1_some, nI_l (by omega), nI_l (by omega), show (4 : Int64) = lN 4 from rfl, lN_mul, lN_mul, lN_mul]
    refine wp_vv ?_; intro s2 g2
    refine wp_some ⟨by rw [g2]; exact i1, fun c j => by rw [g2]; exact i2 c j, fun c j hc => by rw [g2, gL_sL, if_neg (by omega)]; exact i3 c j hc, ?_, ?_⟩
    · rw [g2, gL_sL, if_neg (by omega), i4, ac_mp]
    · rw [g2, gL_sL, if_pos ⟨rfl, rfl⟩]
      refine congrArg lN ?_
      unfold byN allS
      grind
theorem mapped8 {A0 B0 Q i j : Nat} (isX : Bool) (hH : Hd b U V A0 B0 Q σ) (hL : ∀ k, k < 4 → gL σ 103 k = lN (X k) ∧ gL σ 104 k = lN (Y k) ∧ gL σ 105 k = lN (S k)) (hS : ∀ k, k < 4 → 1 ≤ S k ∧ S k ≤ 1600) (hU : 1 ≤ U ∧ U ≤ 40) (hV : 1 ≤ V ∧ V ≤ 40) (hi : i ≤ 2 * U) (hj : j ≤ 2 * V) : WP (fX8_mapped σ (nI i) (nI j) isX) (fun r => r.1 = rdV (if isX = true then X else Y) S (2 * U) (2 * V) i j ∧ gR r.2 = gR σ ∧ (∀ c k, gI r.2 c k = gI σ c k) ∧ ∀ c k, c ≠ 73 → gL r.2 c k = gL σ c k) := by
  obtain ⟨b1, b2⟩ := by_bd (A := 2 * U) (B := 2 * V) hS (by omega) (by omega)
  unfold fX8_mapped
  refine wp_bnd1 (maps8 isX hH hL hS hU.2 hV.2 hi hj) ?_
  rintro r ⟨h1, h2, h3, h4, h5⟩
  rw [h4, h5]
  refine wp_grd (by rw [two_by]; exact nzl_lN (by omega) b2) (wp_some ⟨rfl, h1, h2, h3⟩)
end MAPS8
