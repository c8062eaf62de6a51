/-! from 57.lay of the class-and-reference proof: what speaks of the class alone -/
/-! Lay kept: one sheet more on the pile. -/
theorem pN_ge {D : Nat → Nat} : ∀ T k, k < T → pN D T ≤ D k
  | 0, k, h => absurd h (by omega)
  | T + 1, k, h => by
    show (if T = 0 then D 0 else min (pN D T) (D T)) ≤ D k
    by_cases c : T = 0
    · rw [if_pos c, show k = 0 by omega]; exact Nat.le_refl _
    · rw [if_neg c]
      by_cases c2 : k = T
      · rw [c2]; omega
      · have := pN_ge (D := D) T k (by omega)
        omega
def btW (r : SS) (j p : Nat) (v : Int32) : Int32 := if gI r 54 p = nI j then v ||| ((1 : Int32) <<< (nI p &&& 31)) else v
theorem btW_y {r : SS} {j p : Nat} (h : gI r 54 p = nI j) : itr (btW r j) (0 : Int32) (p + 1) = itr (btW r j) (0 : Int32) p ||| ((1 : Int32) <<< (nI p &&& 31)) := by
  show btW r j p (itr (btW r j) 0 p) = _
  generalize itr (btW r j) (0 : Int32) p = v
  exact if_pos h
theorem btW_n {r : SS} {j p : Nat} (h : ¬ gI r 54 p = nI j) : itr (btW r j) (0 : Int32) (p + 1) = itr (btW r j) (0 : Int32) p := by
  show btW r j p (itr (btW r j) 0 p) = _
  generalize itr (btW r j) (0 : Int32) p = v
  exact if_neg h
def LR (r s0 s : SS) (x S i : Nat) (g : Int32) : Prop := gI s x S = g ∧ (∀ k, k ≠ S → gI s x k = gI s0 x k) ∧ gI s (x + 1) S = itr (btW r 1) 0 i ∧ (∀ k, k ≠ S → gI s (x + 1) k = gI s0 (x + 1) k) ∧ gI s (x + 2) S = itr (btW r 2) 0 i ∧ (∀ k, k ≠ S → gI s (x + 2) k = gI s0 (x + 2) k) ∧ (∀ q, q < i → gI s (x + 3) (12 * S + q) = gI r 53 q) ∧ ∀ k, k < 12 * S → gI s (x + 3) k = gI s0 (x + 3) k
section ADD7
variable {r s : SS} {f Q S : Nat}
theorem LR.put {s0 s' : SS} {x i : Nat} {g g' : Int32} (h : LR r s0 s x S i g)
    (h0 : gI s' x S = g' ∧ ∀ k, k ≠ S → gI s' x k = gI s x k)
    (h1 : gI s' (x + 1) S = itr (btW r 1) 0 (i + 1) ∧ ∀ k, k ≠ S → gI s' (x + 1) k = gI s (x + 1) k)
    (h2 : gI s' (x + 2) S = itr (btW r 2) 0 (i + 1) ∧ ∀ k, k ≠ S → gI s' (x + 2) k = gI s (x + 2) k)
    (h3 : gI s' (x + 3) (12 * S + i) = gI r 53 i ∧ ∀ k, k ≠ 12 * S + i → gI s' (x + 3) k = gI s (x + 3) k) : LR r s0 s' x S (i + 1) g' := by
  obtain ⟨a0, b0, a1, b1, a2, b2, a3, b3⟩ := h
  refine ⟨h0.1, fun k hk => (h0.2 k hk).trans (b0 k hk), h1.1, fun k hk => (h1.2 k hk).trans (b1 k hk), h2.1, fun k hk => (h2.2 k hk).trans (b2 k hk), fun q hq => ?_, fun k hk => (h3.2 k (by omega)).trans (b3 k hk)⟩
  by_cases c : q = i
  · rw [c]; exact h3.1
  · rw [h3.2 _ (by omega)]; exact a3 q (by omega)
theorem add7 (hQ : Q ≤ 12) (hS : S < 16) (hf : f = 10 ∨ f = 18) (e5 : gI r f 5 = nI Q) (e58 : gI r 58 0 = nI S) : WP (fX4_add r f) (fun w => w.1 = nI S ∧ gR w.2 = gR r ∧ (∀ c k, ¬ (58 ≤ c ∧ c ≤ 62) → gI w.2 c k = gI r c k) ∧ gI w.2 58 0 = nI (S + 1) ∧ LR r r w.2 59 S Q (itr (shW r 0) 0 Q)) := by
  have eg : fX3_allGains (sI r 58 0 (nI S + 1)) f = some (itr (shW r 0) 0 Q) := by
    rw [gains7 hQ (by rw [gI_ne (by omega)]; exact e5)]
    refine congrArg some (itr_congr fun i hi v => ?_)
    unfold shW
    rw [if_pos rfl, if_pos rfl, gI_ne (by decide)]
  unfold fX4_add
  rw [e58]
  refine wp_v (wp_v ?_)
  rw [bnd1_of _ eg]
  refine wp_grd (inb_nI (by omega) (by decide)) (wp_v (wp_v (wp_v ?_)))
  rw [nI_clamp (by omega)]
  unfold X4_add_L43
  refine wf_2 Q (fun i v t => v = nI i ∧ gR t = gR r ∧ (∀ c k, ¬ (58 ≤ c ∧ c ≤ 62) → gI t c k = gI r c k) ∧ gI t 58 0 = nI (S + 1) ∧ LR r r t 59 S i (itr (shW r 0) 0 Q)) ⟨rfl, rfl, fun c k hc => ?_, ?_, ?_⟩ (by omega) ?_ ?_
  · rw [gI_nk (by omega), gI_nk (by omega), gI_nk (by omega), gI_nk (by omega)]
  · rw [gI_nk (by omega), gI_nk (by omega), gI_nk (by omega), gI_sI, if_pos ⟨rfl, rfl⟩, nI_1]
  · refine ⟨?_, fun k hk => ?_, ?_, fun k hk => ?_, ?_, fun k hk => ?_, fun q hq => absurd hq (by omega), fun k hk => ?_⟩
    · rw [gI_nk (by omega), gI_nk (by omega), gI_sI, if_pos ⟨rfl, rfl⟩]
    · rw [gI_nk (by omega), gI_nk (by omega), gI_nk (by omega), gI_nk (by omega)]
    · rw [gI_nk (by omega), gI_sI, if_pos ⟨rfl, rfl⟩]; rfl
    · rw [gI_nk (by omega), gI_nk (by omega), gI_nk (by omega), gI_nk (by omega)]
    · rw [gI_sI, if_pos ⟨rfl, rfl⟩]; rfl
    · rw [gI_nk (by omega), gI_nk (by omega), gI_nk (by omega), gI_nk (by omega)]
    · rw [gI_nk (by omega), gI_nk (by omega), gI_nk (by omega), gI_nk (by omega)]
  · rintro i _ t rec hi ⟨rfl, g1, g2, g3, g4⟩ hr
    rw [g2 f 5 (by omega), e5, if_neg (nI_ge hi (by omega))]
    have ek : nI S * (12 : Int32) + nI i = nI (12 * S + i) := by rw [show (12 : Int32) = nI 12 from rfl, nI_mul, nI_add, Nat.mul_comm]
    rw [ek, nI_clamp (by omega), nI_clamp (by omega), nI_clamp (by omega), nI_1, g2 53 _ (by omega)]
    refine wp_grd (inb_nI (by omega) (by decide)) (wp_grd (inb_nI (by omega) (by decide)) (wp_v ?_))
    have e54 : gI (sI t 62 (12 * S + i) (gI r 53 i)) 54 i = gI r 54 i := by rw [gI_nk (by omega), g2 54 _ (by omega)]
    rw [e54]
    refine wp_if (fun c1 => wp_grd (inb_nI (by omega) (by decide)) (wp_v (hr _ _ ⟨rfl, g1, fun c k hc => ?_, ?_, ?_⟩))) fun c1 => wp_if (fun c2 => wp_grd (inb_nI (by omega) (by decide)) (wp_v (hr _ _ ⟨rfl, g1, fun c k hc => ?_, ?_, ?_⟩))) fun c2 => hr _ _ ⟨rfl, g1, fun c k hc => ?_, ?_, ?_⟩
    · rw [gI_nk (by omega), gI_nk (by omega)]; exact g2 c k hc
    · rw [gI_nk (by omega), gI_nk (by omega)]; exact g3
    · have c2 : ¬ gI r 54 i = nI 2 := by rw [c1]; decide
      refine g4.put ⟨?_, fun k hk => ?_⟩ ⟨?_, fun k hk => ?_⟩ ⟨?_, fun k hk => ?_⟩ ⟨?_, fun k hk => ?_⟩
      · rw [gI_nk (by omega), gI_nk (by omega)]; exact g4.1
      · rw [gI_nk (by omega), gI_nk (by omega)]
      · rw [gI_sI, if_pos ⟨rfl, rfl⟩, gI_nk (by omega), g4.2.2.1, btW_y c1]
      · rw [gI_nk (by omega), gI_nk (by omega)]
      · rw [gI_nk (by omega), gI_nk (by omega), btW_n c2]; exact g4.2.2.2.2.1
      · rw [gI_nk (by omega), gI_nk (by omega)]
      · rw [gI_nk (by omega), gI_sI, if_pos ⟨rfl, rfl⟩]
      · rw [gI_nk (by omega), gI_nk (by omega)]
    · rw [gI_nk (by omega), gI_nk (by omega)]; exact g2 c k hc
    · rw [gI_nk (by omega), gI_nk (by omega)]; exact g3
    · refine g4.put ⟨?_, fun k hk => ?_⟩ ⟨?_, fun k hk => ?_⟩ ⟨?_, fun k hk => ?_⟩ ⟨?_, fun k hk => ?_⟩
      · rw [gI_nk (by omega), gI_nk (by omega)]; exact g4.1
      · rw [gI_nk (by omega), gI_nk (by omega)]
      · rw [gI_nk (by omega), gI_nk (by omega), btW_n c1]; exact g4.2.2.1
      · rw [gI_nk (by omega), gI_nk (by omega)]
      · rw [gI_sI, if_pos ⟨rfl, rfl⟩, gI_nk (by omega), g4.2.2.2.2.1, btW_y c2]
      · rw [gI_nk (by omega), gI_nk (by omega)]
      · rw [gI_nk (by omega), gI_sI, if_pos ⟨rfl, rfl⟩]
      · rw [gI_nk (by omega), gI_nk (by omega)]
    · rw [gI_nk (by omega)]; exact g2 c k hc
    · rw [gI_nk (by omega)]; exact g3
    · refine g4.put ⟨?_, fun k hk => ?_⟩ ⟨?_, fun k hk => ?_⟩ ⟨?_, fun k hk => ?_⟩ ⟨?_, fun k hk => ?_⟩
      · rw [gI_nk (by omega)]; exact g4.1
      · rw [gI_nk (by omega)]
      · rw [gI_nk (by omega), btW_n c1]; exact g4.2.2.1
      · rw [gI_nk (by omega)]
      · rw [gI_nk (by omega), btW_n c2]; exact g4.2.2.2.2.1
      · rw [gI_nk (by omega)]
      · rw [gI_sI, if_pos ⟨rfl, rfl⟩]
      · rw [gI_nk (by omega)]
  · rintro _ t rec ⟨rfl, g1, g2, g3, g4⟩
    rw [g2 f 5 (by omega), e5, if_pos (nI_le (Nat.le_refl _) (by omega))]
    exact wp_some ⟨rfl, g1, g2, g3, g4⟩
end ADD7

/-! from 58.lay8 of the class-and-reference proof: what speaks of the class alone -/
/-! Lay kept: the reference's half, and both. -/
def Kw (σ s : SS) : Prop := ∀ c k, ¬ (c = 31 ∨ (33 ≤ c ∧ c ≤ 62) ∨ (91 ≤ c ∧ c ≤ 112) ∨ (c = 73 ∧ ¬ (k = 1 ∨ k = 11 ∨ k = 12 ∨ k = 29 ∨ k = 30 ∨ k = 31))) → gI s c k = gI σ c k
def G9 (Q : Nat) (N D : Nat → Nat) (P : Nat) (σ s : SS) : Prop := Kw σ s ∧ (∀ p, p < Q → ∀ i, i < N p → gI s 106 (6 * p + i) = nI (D (psum N p + i))) ∧ (0 < psum N Q → gI s 73 54 = nI P)
section LAY8
variable {w q spk : Nat} {lvl mk : Int32} {pic : Nat → Int32} {b U V A B Q : Nat} {N cx cy D : Nat → Nat} {P : Nat} {σ s r1 : SS} {S : Nat}
end LAY8

/-! from 59.laykept of the class-and-reference proof: what speaks of the class alone -/
/-! Lay kept. -/
theorem nI_ltN {a b : Nat} (h : nI a < nI b) (ha : a < 2 ^ 31) (hb : b < 2 ^ 31) : a < b := by
  rw [lt_i, nI_toInt ha, nI_toInt hb] at h; omega
theorem nI_injN {a b : Nat} (ha : a < 2 ^ 31) (hb : b < 2 ^ 31) (h : nI a = nI b) : a = b := by
  have h := congrArg Int32.toInt h
  rw [nI_toInt ha, nI_toInt hb] at h; omega
/-! from 60.rank of the class-and-reference proof: what speaks of the class alone -/
/-! Rank kept. -/
def rkW (D : Nat → Nat) (k0 k : Nat) (n : Int32) : Int32 := if nI (D k) ≤ nI (D k0) then n else n + 1
theorem rankQ7 {r : SS} {f T k0 : Nat} {D : Nat → Nat} (hT : T ≤ 72) (hk : k0 < T) (e6 : gI r f 6 = nI T) (hD : ∀ k, k < T → gI r 51 k = nI (D k)) : fX3_rankOf r f (nI k0) = some (itr (rkW D k0) 1 T) := by
  unfold fX3_rankOf X3_rankOf_L5
  refine lp_2 (fun i => itr (rkW D k0) 1 i) (fun i => nI i) T _ (fun i hi rec => ?_) (fun rec => ?_) fuel (fuel_gt (by omega))
  · rw [e6, if_neg (nI_ge hi (by omega)), grd_eq _ (inb_nI (by omega) (by decide)), grd_eq _ (inb_nI (by omega) (by decide)), nI_clamp (by omega), nI_clamp (by omega), hD i hi, hD k0 hk, nI_1]
    show _ = rec (if nI (D i) ≤ nI (D k0) then _ else _) _
    by_cases c : nI (D i) ≤ nI (D k0)
    · rw [if_pos c, if_pos c]
    · rw [if_neg c, if_neg c]
  · rw [e6, if_pos (nI_le (Nat.le_refl _) (by omega))]
/-! from 61.steady of the class-and-reference proof: what speaks of the class alone -/
/-! Steady kept: a question's answer and state by one margin and by another. -/
theorem Bs.iff {v : Int32} {T T' : Nat → Prop} (h : Bs v T) (h' : Bs v T') {b : Nat} (hb : b < 6) : T b ↔ T' b := by
  obtain ⟨m, h1, h2, h3⟩ := h
  obtain ⟨m', k1, k2, k3⟩ := h'
  have := nI_injN (by omega) (by omega) (h2.symm.trans k2)
  subst this
  exact (h3 b hb).symm.trans (k3 b hb)
def zN (t m : Nat) : Nat := if m ≤ t then 0 else if m ≤ 2 * t then 1 else 2
theorem zn_c (t m : Nat) : (m ≤ t ∧ zN t m = 0) ∨ (t < m ∧ m ≤ 2 * t ∧ zN t m = 1) ∨ (t < m ∧ 2 * t < m ∧ zN t m = 2) := by
  unfold zN
  by_cases c : m ≤ t
  · rw [if_pos c]; omega
  · rw [if_neg c]
    by_cases c2 : m ≤ 2 * t
    · rw [if_pos c2]; omega
    · rw [if_neg c2]; omega
theorem zn_lo {t m c : Nat} (h1 : 1 ≤ c) (h2 : c ≤ m) (hm : m ≤ 200) (h3 : zN t c = zN t m) (h4 : ¬ (1 ≤ c - 1 ∧ c - 1 ≤ 200 ∧ zN t (c - 1) = zN t m)) : c = if t < m then (if 2 * t < m then 2 * t + 1 else t + 1) else 1 := by
  have a := zn_c t c
  have b := zn_c t m
  have d := zn_c t (c - 1)
  split
  · split <;> omega
  · omega
theorem zn_hi {t m c : Nat} (h1 : c ≤ 200) (h2 : m ≤ c) (hm : 1 ≤ m) (h3 : zN t c = zN t m) (h4 : ¬ (1 ≤ c + 1 ∧ c + 1 ≤ 200 ∧ zN t (c + 1) = zN t m)) : c = if t < m then (if 2 * t < m then 200 else min (2 * t) 200) else min t 200 := by
  have a := zn_c t c
  have b := zn_c t m
  have d := zn_c t (c + 1)
  split
  · split <;> omega
  · omega
section STEP
variable {D : Nat → Nat} {P n : Nat}
theorem atQ_n (hD : ∀ k, D k ≤ 324) (hP : P ≤ 324) (k : Nat) : ∃ d, d ≤ 324 ∧ atQ D P n k = nI d := by
  unfold atQ
  by_cases c : k = n
  · rw [if_pos c]; exact ⟨P, hP, rfl⟩
  · rw [if_neg c]; exact ⟨_, hD _, rfl⟩
theorem sub_i {a b : Nat} (ha : a ≤ 324) (hb : b ≤ 324) : (nI a - nI b).toInt = (a : Int) - b := by
  rw [Int32.toInt_sub, nI_toInt (by omega), nI_toInt (by omega)]
  simp only [Int.bmod]
  split <;> omega
theorem stQ_b (hD : ∀ k, D k ≤ 324) (hP : P ≤ 324) : ∀ k, -1 ≤ (stQ D P n k).2.toInt ∧ (stQ D P n k).2.toInt ≤ 324 ∧ (0 ≤ (stQ D P n k).2.toInt → 1 ≤ (stQ D P n k).1)
  | 0 => ⟨by show -1 ≤ (-1 : Int32).toInt; decide, by show (-1 : Int32).toInt ≤ 324; decide, fun h => absurd h (by show ¬ (0 ≤ (-1 : Int32).toInt); decide)⟩
  | k + 1 => by
    have ih := stQ_b hD hP k
    obtain ⟨d, d1, d2⟩ := atQ_n (n := n) hD hP k
    obtain ⟨e, e1, e2⟩ := atQ_n (n := n) hD hP (k + 1)
    have es : stQ D P n (k + 1) = if atQ D P n k - atQ D P n (k + 1) ≤ (stQ D P n k).2 then stQ D P n k else (k + 1, atQ D P n k - atQ D P n (k + 1)) := rfl
    rw [es]
    by_cases c : atQ D P n k - atQ D P n (k + 1) ≤ (stQ D P n k).2
    · rw [if_pos c]; exact ih
    · rw [if_neg c]
      rw [d2, e2, le_i, sub_i d1 e1] at c
      show -1 ≤ (atQ D P n k - atQ D P n (k + 1)).toInt ∧ (atQ D P n k - atQ D P n (k + 1)).toInt ≤ 324 ∧ (0 ≤ (atQ D P n k - atQ D P n (k + 1)).toInt → 1 ≤ k + 1)
      rw [d2, e2, sub_i d1 e1]
      omega
theorem stQ_n (hD : ∀ k, D k ≤ 324) (hP : P ≤ 324) (hn : 1 ≤ n) (hPD : ∀ k, k < n → P ≤ D k) : ∃ t : Nat, t ≤ 324 ∧ (stQ D P n n).2 = nI t ∧ 1 ≤ (stQ D P n n).1 := by
  obtain ⟨b1, b2, b3⟩ := stQ_b (n := n) hD hP n
  suffices h0 : 0 ≤ (stQ D P n n).2.toInt by
    obtain ⟨t, ht, e⟩ := in_of (x := (stQ D P n n).2) (w := 325) (by decide) (by omega)
    exact ⟨t, by omega, e, b3 h0⟩
  obtain ⟨k, rfl⟩ : ∃ k, n = k + 1 := ⟨n - 1, by omega⟩
  have es : stQ D P (k + 1) (k + 1) = if atQ D P (k + 1) k - atQ D P (k + 1) (k + 1) ≤ (stQ D P (k + 1) k).2 then stQ D P (k + 1) k else (k + 1, atQ D P (k + 1) k - atQ D P (k + 1) (k + 1)) := rfl
  have ea : (atQ D P (k + 1) k - atQ D P (k + 1) (k + 1)).toInt = (D (ordQ D (k + 1) k) : Int) - P := by
    have e1 : atQ D P (k + 1) k = nI (D (ordQ D (k + 1) k)) := if_neg (by omega)
    have e2 : atQ D P (k + 1) (k + 1) = nI P := if_pos rfl
    rw [e1, e2, sub_i (hD _) hP]
  have hp := hPD (ordQ D (k + 1) k) (srt_lt _ _ (by omega))
  rw [es]
  by_cases c : atQ D P (k + 1) k - atQ D P (k + 1) (k + 1) ≤ (stQ D P (k + 1) k).2
  · rw [if_pos c]
    rw [le_i, ea] at c
    omega
  · rw [if_neg c]
    show 0 ≤ (atQ D P (k + 1) k - atQ D P (k + 1) (k + 1)).toInt
    rw [ea]; omega
end STEP
section ZONE
variable {D : Nat → Nat} {P n t m m' : Nat} {one : Prop} {cl rb an se ru st an' se' ru' st' : Int32}
theorem JQ.off (ht : t ≤ 324) (hst : (stQ D P n n).2 = nI t) (hm : m ≤ 1000) (h : JQ D P n one (nI m) cl rb an se ru st) (c : t < m) : Bs an (fun _ => False) ∧ se = if 2 * t < m then 0 else 1 := by
  obtain ⟨y, y1, y2, y3, y4, y5⟩ := h
  have l1 : (stQ D P n n).2 < nI m := by rw [hst]; exact nI_lt c (by omega)
  have a0 : ahQ D P n (nI m) = 0 := if_pos l1
  have nc : ¬ clQ D P n one (nI m) cl := fun k => by have := k.2.1; omega
  have nd : ¬ dbQ D P n one (nI m) cl := fun k => by have := k.2.1; omega
  have ey : y = 0 := by
    rcases y1 with ⟨k, -⟩ | ⟨-, k⟩
    · exact absurd k nc
    · omega
  subst ey
  refine ⟨y2.imp fun b _ => ⟨fun ⟨k, _, k2, _⟩ => by omega, fun k => k.elim⟩, ?_⟩
  rcases y4 with ⟨k, -⟩ | ⟨-, k⟩
  · exact absurd k nd
  · rw [k, hst, show (2 : Int32) * nI t = nI (2 * t) by rw [show (2 : Int32) = nI 2 from rfl, nI_mul]]
    rw [hst] at l1
    by_cases c2 : 2 * t < m
    · rw [if_pos c2, if_neg fun q => q.2 (nI_lt c2 (by omega))]
    · rw [if_neg c2, if_pos ⟨l1, fun q => c2 (nI_ltN q (by omega) (by omega))⟩]
theorem JQ.on (hn : 1 ≤ n) (ht : t ≤ 324) (hst : (stQ D P n n).2 = nI t) (h1 : 1 ≤ (stQ D P n n).1) (h : JQ D P n one (nI m) cl rb an se ru st) (hm : m ≤ 1000) (c : ¬ t < m) : ∃ T, Bs an T ∧ T (ordQ D n 0) := by
  obtain ⟨y, y1, y2, y3, y4, y5⟩ := h
  have a0 : ahQ D P n (nI m) = (stQ D P n n).1 := if_neg fun q => c (by rw [hst] at q; exact nI_ltN q (by omega) (by omega))
  refine ⟨_, y2, 0, by omega, ?_, rfl⟩
  rcases y1 with ⟨-, k⟩ | ⟨-, k⟩ <;> omega
theorem JQ.on2 (ht : t ≤ 324) (hst : (stQ D P n n).2 = nI t) (hm : m ≤ 1000) (hm' : m' ≤ 1000) (h : JQ D P n one (nI m) cl rb an se ru st) (h' : JQ D P n one (nI m') cl rb an' se' ru' st') (c : ¬ t < m) (c' : ¬ t < m') : an' = an ∧ se' = se := by
  obtain ⟨y, y1, y2, y3, y4, y5⟩ := h
  obtain ⟨y', z1, z2, z3, z4, z5⟩ := h'
  have l : ∀ m, m ≤ 1000 → ¬ t < m → ¬ (stQ D P n n).2 < nI m := fun m hm c q => c (by rw [hst] at q; exact nI_ltN q (by omega) (by omega))
  have a0 : ahQ D P n (nI m) = (stQ D P n n).1 := if_neg (l m hm c)
  have a1 : ahQ D P n (nI m') = (stQ D P n n).1 := if_neg (l m' hm' c')
  have q1 : clQ D P n one (nI m') cl = clQ D P n one (nI m) cl := by unfold clQ; rw [a0, a1]
  have q2 : dbQ D P n one (nI m') cl = dbQ D P n one (nI m) cl := by unfold dbQ; rw [a0, a1]
  have z1' : syQ D P n one (nI m) cl y' := by
    unfold syQ at *; rw [q1, a1] at z1; rw [a0]; exact z1
  have := syQ_one y1 z1'
  subst this
  refine ⟨z2.one' y2 fun _ _ => Iff.rfl, ?_⟩
  unfold seQ at *
  rw [q2, if_neg fun q => l m' hm' c' q.1] at z4
  rw [if_neg fun q => l m hm c q.1] at y4
  rcases y4 with ⟨k1, k2⟩ | ⟨k1, k2⟩ <;> rcases z4 with ⟨k3, k4⟩ | ⟨k3, k4⟩
  · rw [k2, k4]
  · exact absurd k1 k3
  · exact absurd k3 k1
  · rw [k2, k4]
theorem JQ.zone (hn : 1 ≤ n ∧ n ≤ 6) (ht : t ≤ 324) (hst : (stQ D P n n).2 = nI t) (h1 : 1 ≤ (stQ D P n n).1) (hm : m ≤ 1000) (hm' : m' ≤ 1000) (h : JQ D P n one (nI m) cl rb an se ru st) (h' : JQ D P n one (nI m') cl rb an' se' ru' st') : (an' = an ∧ se' = se) ↔ zN t m' = zN t m := by
  have z := zn_c t m
  have z' := zn_c t m'
  have o0 : ordQ D n 0 < 6 := by have := srt_lt (key := fun i => nI (D i)) n 0 (by omega); unfold ordQ; omega
  by_cases c : t < m
  · obtain ⟨e1, e2⟩ := h.off ht hst hm c
    by_cases c' : t < m'
    · obtain ⟨f1, f2⟩ := h'.off ht hst hm' c'
      have ean : an' = an := f1.one' e1 fun _ _ => Iff.rfl
      by_cases d : 2 * t < m
      · rw [if_pos d] at e2
        by_cases d' : 2 * t < m'
        · rw [if_pos d'] at f2
          exact ⟨fun _ => by omega, fun _ => ⟨ean, by rw [e2, f2]⟩⟩
        · rw [if_neg d'] at f2
          exact ⟨fun q => absurd q.2 (by rw [e2, f2]; decide), fun q => by omega⟩
      · rw [if_neg d] at e2
        by_cases d' : 2 * t < m'
        · rw [if_pos d'] at f2
          exact ⟨fun q => absurd q.2 (by rw [e2, f2]; decide), fun q => by omega⟩
        · rw [if_neg d'] at f2
          exact ⟨fun _ => by omega, fun _ => ⟨ean, by rw [e2, f2]⟩⟩
    · obtain ⟨T, f1, f2⟩ := h'.on hn.1 ht hst h1 hm' c'
      refine ⟨fun q => ?_, fun q => by omega⟩
      rw [q.1] at f1
      exact ((f1.iff e1 o0).mp f2).elim
  · by_cases c' : t < m'
    · obtain ⟨T, f1, f2⟩ := h.on hn.1 ht hst h1 hm c
      obtain ⟨e1, e2⟩ := h'.off ht hst hm' c'
      refine ⟨fun q => ?_, fun q => by omega⟩
      rw [q.1] at e1
      exact ((f1.iff e1 o0).mp f2).elim
    · exact ⟨fun _ => by omega, fun _ => h.on2 ht hst hm hm' h' c c'⟩
end ZONE
section MARGIN7
variable {r : SS} {p t m : Nat}
theorem two_t (t : Nat) : (2 : Int32) * nI t = nI (2 * t) := by rw [show (2 : Int32) = nI 2 from rfl, nI_mul]
theorem least7 (hp : p < 12) (e : gI r 56 p = nI t) (e3 : gI r 32 3 = nI m) (ht : t ≤ 324) (hm : m ≤ 200) : fX3_leastMargin r (nI p) = some (nI (if t < m then (if 2 * t < m then 2 * t + 1 else t + 1) else 1)) := by
  unfold fX3_leastMargin
  rw [grd_eq _ (inb_nI hp (by decide)), nI_clamp (by omega), e, e3, vthen_q, two_t, nI_1, nI_1]
  by_cases c : t < m
  · rw [if_pos (nI_lt c (by omega)), if_pos c]
    by_cases c2 : 2 * t < m
    · rw [if_pos (nI_lt c2 (by omega)), if_pos c2]
    · rw [if_neg fun q => c2 (nI_ltN q (by omega) (by omega)), if_neg c2]
  · rw [if_neg fun q => c (nI_ltN q (by omega) (by omega)), if_neg c]; rfl
theorem great7 (hp : p < 12) (e : gI r 56 p = nI t) (e3 : gI r 32 3 = nI m) (ht : t ≤ 324) (hm : m ≤ 200) : fX3_greatestMargin r (nI p) = some (nI (if t < m then (if 2 * t < m then 200 else min (2 * t) 200) else min t 200)) := by
  unfold fX3_greatestMargin
  rw [grd_eq _ (inb_nI hp (by decide)), nI_clamp (by omega), e, e3, vthen_q, two_t, show (200 : Int32) = nI 200 from rfl, min_nI (by omega) (by omega), min_nI (by omega) (by omega)]
  by_cases c : t < m
  · rw [if_pos (nI_lt c (by omega)), if_pos c]
    by_cases c2 : 2 * t < m
    · rw [if_pos (nI_lt c2 (by omega)), if_pos c2]
    · rw [if_neg fun q => c2 (nI_ltN q (by omega) (by omega)), if_neg c2]
  · rw [if_neg fun q => c (nI_ltN q (by omega) (by omega)), if_neg c]
end MARGIN7

/-! from 62.steadykept of the class-and-reference proof: what speaks of the class alone -/
/-! Steady kept: the reference's walk, and both. -/
section WALK
variable {w q spk : Nat} {lvl mk : Int32} {pic : Nat → Int32} {b U V A B Q : Nat} {N cx cy D : Nat → Nat} {P : Nat} {σ s : SS} {p : Nat}
end WALK
theorem nI_dn {c : Nat} (h : 1 ≤ c) : nI c + (-1 : Int32) = nI (c - 1) := by
  obtain ⟨k, rfl⟩ : ∃ k, c = k + 1 := ⟨c - 1, by omega⟩
  rw [show nI (k + 1) = nI k + 1 from (nI_1 k).symm, Int32.add_assoc, show (1 : Int32) + (-1) = 0 by decide, Int32.add_zero]
  rfl
/-! from 63.up of the class-and-reference proof: what speaks of the class alone -/
/-! Up kept. -/
def UV (M : Nat → Prop) (G : Nat → Int32 → Prop) : Nat → Int32 → Int32 → Prop
  | 0, v1, v2 => v1 = -2 ∧ v2 = 0
  | i + 1, v1, v2 => ∃ u1 u2, UV M G i u1 u2 ∧ ((M i ∧ ∃ g, G i g ∧ ((¬ u1 < 0 ∧ g ≤ u2 ∧ v1 = u1 ∧ v2 = u2) ∨ (¬ (¬ u1 < 0 ∧ g ≤ u2) ∧ v1 = nI i ∧ v2 = g))) ∨ (¬ M i ∧ v1 = u1 ∧ v2 = u2))
theorem UV_one {M : Nat → Prop} {G : Nat → Int32 → Prop} (hG : ∀ i g g', G i g → G i g' → g = g') : ∀ i v1 v2 w1 w2, UV M G i v1 v2 → UV M G i w1 w2 → v1 = w1 ∧ v2 = w2
  | 0, _, _, _, _, h, h' => ⟨h.1.trans h'.1.symm, h.2.trans h'.2.symm⟩
  | i + 1, _, _, _, _, ⟨u1, u2, hu, h⟩, ⟨x1, x2, hx, h'⟩ => by
    obtain ⟨rfl, rfl⟩ := UV_one hG i _ _ _ _ hu hx
    rcases h with ⟨a1, g, a2, a3⟩ | ⟨a1, a2, a3⟩ <;> rcases h' with ⟨b1, g', b2, b3⟩ | ⟨b1, b2, b3⟩
    · have := hG i g g' a2 b2
      subst this
      rcases a3 with ⟨c1, c2, c3, c4⟩ | ⟨c1, c3, c4⟩ <;> rcases b3 with ⟨d1, d2, d3, d4⟩ | ⟨d1, d3, d4⟩
      · exact ⟨c3.trans d3.symm, c4.trans d4.symm⟩
      · exact absurd ⟨c1, c2⟩ d1
      · exact absurd ⟨d1, d2⟩ c1
      · exact ⟨c3.trans d3.symm, c4.trans d4.symm⟩
    · exact absurd a1 b1
    · exact absurd b1 a1
    · exact ⟨a2.trans b2.symm, a3.trans b3.symm⟩
theorem vis_pic {d : Nat → Int32} {W H : Nat} {F : Nat → Nat → Int32} (h : Vis d W H F fun _ _ => True) (hW : 1 ≤ W) {j : Nat} (hj : j < W * H) : d j = F (j % W) (j / W) := by
  have e := h (j % W) (j / W) (Nat.mod_lt _ (by omega)) (Nat.div_lt_of_lt_mul hj) trivial
  rw [Nat.mul_comm, Nat.div_add_mod] at e
  exact e
def picK (src : Nat → Int32) (w q k j : Nat) : Int32 := tF src w q k (j % tW w q k) (j / tW w q k)
def Ku (s t : Nat) (σ τ : SS) : Prop := ∀ c k, ¬ (c = t ∨ c = t + 1 ∨ c = s + 2 ∨ (33 ≤ c ∧ c ≤ 57) ∨ (c = 31 ∧ k = 6)) → gI τ c k = gI σ c k
def Kt (s t : Nat) (σ τ : SS) : Prop := ∀ c k, ¬ (c = t ∨ c = t + 1 ∨ c = s + 2 ∨ c = 31 ∨ (33 ≤ c ∧ c ≤ 57) ∨ c = 83 ∨ c = 84 ∨ (91 ≤ c ∧ c ≤ 108) ∨ (c = 73 ∧ ¬ (k = 1 ∨ k = 11 ∨ k = 12 ∨ k = 31 ∨ k = 65))) → gI τ c k = gI σ c k
section UP
variable {s t f w q spk : Nat} {lvl mk : Int32} {b U V A B Q : Nat} {N cx cy : Nat → Nat} {σ : SS}
def Jk (w q spk : Nat) (lvl mk : Int32) (b U V A B Q : Nat) (N cx cy : Nat → Nat) (σ : SS) (k : Nat) (r : SS) : Prop := Jd b Q N (dkD (tW w q k) (tW q w k) spk lvl mk (picK (gI σ 83) w q k) U V A B cx cy) (pN (dkD (tW w q k) (tW q w k) spk lvl mk (picK (gI σ 83) w q k) U V A B cx cy) (psum N Q)) σ r
def Mk (w q spk : Nat) (lvl mk : Int32) (σ : SS) (k : Nat) : Prop := frU (mkB (tW w q k) (tW q w k) spk mk (inkP lvl (picK (gI σ 83) w q k))) 4
def Gk (w q spk : Nat) (lvl mk : Int32) (b U V A B Q : Nat) (N cx cy : Nat → Nat) (σ : SS) (k : Nat) (g : Int32) : Prop := ∃ r, Jk w q spk lvl mk b U V A B Q N cx cy σ k r ∧ g = itr (shW r 0) 0 Q
theorem Gk_one {k : Nat} {g g' : Int32} (h : Gk w q spk lvl mk b U V A B Q N cx cy σ k g) (h' : Gk w q spk lvl mk b U V A B Q N cx cy σ k g') : g = g' := by
  obtain ⟨r, h1, rfl⟩ := h
  obtain ⟨r', h2, rfl⟩ := h'
  refine itr_congr fun p hp v => ?_
  obtain ⟨j1, j2⟩ := h1 p hp
  obtain ⟨j3, j4⟩ := h2 p hp
  obtain ⟨z1, z2, -⟩ := j1.one j3
  unfold shW
  rw [if_pos rfl, if_pos rfl, j2, j4, z1, z2]
theorem up7_k (hst : s = 3 ∧ t = 6 ∨ s = 6 ∧ t = 3) (h7 : C7 s f w q spk lvl mk (gI σ 83) U V A B (psum N Q) cx cy σ) (hF : F7 f Q N σ) (hset : ∀ k, k < 7 → gI σ 32 k = gI σ 88 k)
    (hq : ∀ p, p < Q → gI σ (f + 4) p = gI σ 78 (12 * b + p) ∧ gI σ (f + 5) p = gI σ 79 (12 * b + p) ∧ (gI σ (f + 1) p = 0) = (gI σ 76 (12 * b + p) = 1))
    {k : Nat} (hk : k < 4) {τ : SS} (hR : gR τ = gR σ) (hK : Ku s t σ τ) : WP (fX6_takeTurned τ t s (nI k)) (fun τ' => gR τ' = gR σ ∧ WP (fX3_read τ' t f) fun r => (r.1 = true ↔ Mk w q spk lvl mk σ k) ∧ gR r.2 = gR σ ∧ Ku s t σ r.2 ∧ (Mk w q spk lvl mk σ k → Jk w q spk lvl mk b U V A B Q N cx cy σ k r.2)) := by
  obtain ⟨hs, hf, hw, hh, hspk, e1, e2, hp, el, es, em, hU, hV, hA, hB, hT, g1, g2, g3, g4, g6, gx⟩ := id h7
  obtain ⟨hQ, f5, -, hq7⟩ := id hF
  have a1 := tW_le (k := k) hw hh
  have a2 := tW_le (k := k) hh hw
  refine wp_imp (turned7 (σ := τ) (w := w) (q := q) hst ⟨by omega, hw.2⟩ ⟨by omega, hh.2⟩ (by rw [hK s 0 (by omega)]; exact e1) (by rw [hK s 1 (by omega)]; exact e2) hk) ?_
  rintro τ' ⟨y1, y2, y3, y4, y5⟩
  have fr : ∀ c k, ¬ (c = t ∨ c = t + 1 ∨ c = s + 2 ∨ (33 ≤ c ∧ c ≤ 57) ∨ (c = 31 ∧ k = 6)) → gI τ' c k = gI σ c k := fun c k hc => (y5 c k (by omega) (by omega) (by omega)).trans (hK c k hc)
  have hpic : ∀ j, j < tW w q k * tW q w k → gI τ' (t + 1) j = picK (gI σ 83) w q k j ∧ inR (picK (gI σ 83) w q k j) 0 9 := fun j hj => by
    have m1 : j % tW w q k < tW w q k := Nat.mod_lt _ (by omega)
    have m2 : j / tW w q k < tW q w k := Nat.div_lt_of_lt_mul hj
    have e := vis_pic y4 (by omega) hj
    refine ⟨e.trans (tF_congr hk m1 m2 fun i hi => ?_), tF_rng hk m1 m2 fun i hi => (hp i hi).2⟩
    rw [hK (s + 1) i (by omega)]; exact (hp i hi).1
  have h7' : C7 t f (tW w q k) (tW q w k) spk lvl mk (picK (gI σ 83) w q k) U V A B (psum N Q) cx cy τ' :=
    ⟨by omega, hf, a1, a2, hspk, y2, y3, hpic, by rw [fr _ _ (by omega)]; exact el, by rw [fr _ _ (by omega)]; exact es, by rw [fr _ _ (by omega)]; exact em, hU, hV, hA, hB, hT, by rw [fr _ _ (by omega)]; exact g1, by rw [fr _ _ (by omega)]; exact g2, by rw [fr _ _ (by omega)]; exact g3, by rw [fr _ _ (by omega)]; exact g4, by rw [fr _ _ (by omega)]; exact g6, fun k hk => by rw [fr _ _ (by omega), fr _ _ (by omega)]; exact gx k hk⟩
  have hF' : F7 f Q N τ' := ⟨hQ, by rw [fr _ _ (by omega)]; exact f5, hT, fun p hp => by rw [fr _ _ (by omega), fr _ _ (by omega)]; exact hq7 p hp⟩
  refine ⟨y1.trans hR, wp_imp (read7 h7' hF') ?_⟩
  rintro ⟨mb, r⟩ ⟨m1, m2, m3, m4⟩
  dsimp only at m1 m2 m3 m4 ⊢
  refine ⟨m1, m2.trans (y1.trans hR), fun c k hc => by rw [m3 c k (by omega) (by omega)]; exact fr c k hc, fun hm p hp => ?_⟩
  obtain ⟨j1, j2⟩ := (m4 hm).2 p hp
  obtain ⟨q4, q5, q1⟩ := hq p hp
  rw [fr 32 3 (by omega), fr 32 4 (by omega), fr 32 5 (by omega), fr (f + 1) p (by omega), hset 3 (by omega), hset 4 (by omega), hset 5 (by omega), q1] at j1
  rw [fr 32 6 (by omega), fr (f + 4) p (by omega), fr (f + 5) p (by omega), hset 6 (by omega), q4, q5] at j2
  exact ⟨j1, j2⟩
theorem up7 (hst : s = 3 ∧ t = 6 ∨ s = 6 ∧ t = 3) (h7 : C7 s f w q spk lvl mk (gI σ 83) U V A B (psum N Q) cx cy σ) (hF : F7 f Q N σ) (hset : ∀ k, k < 7 → gI σ 32 k = gI σ 88 k)
    (hq : ∀ p, p < Q → gI σ (f + 4) p = gI σ 78 (12 * b + p) ∧ gI σ (f + 5) p = gI σ 79 (12 * b + p) ∧ (gI σ (f + 1) p = 0) = (gI σ 76 (12 * b + p) = 1)) (r2 : gR σ 1 2 = s) (r3 : gR σ 1 3 = t) (r5 : gR σ 1 5 = f) :
    WP (X7_up_L19 fuel (-2 : Int32) (0 : Int32) (0 : Int32) σ) (fun r => (∃ v2, UV (Mk w q spk lvl mk σ) (Gk w q spk lvl mk b U V A B Q N cx cy σ) 4 r.1 v2) ∧ gR r.2 = gR σ ∧ Ku s t σ r.2 ∧ ∀ k, k < 4 → Mk w q spk lvl mk σ k → ∃ r, Jk w q spk lvl mk b U V A B Q N cx cy σ k r) := by
  unfold X7_up_L19
  refine wf_4 4 (fun i v1 v2 v3 τ => v3 = nI i ∧ UV (Mk w q spk lvl mk σ) (Gk w q spk lvl mk b U V A B Q N cx cy σ) i v1 v2 ∧ gR τ = gR σ ∧ Ku s t σ τ ∧ ∀ k, k < i → Mk w q spk lvl mk σ k → ∃ r, Jk w q spk lvl mk b U V A B Q N cx cy σ k r) ⟨rfl, ⟨rfl, rfl⟩, rfl, fun c k hc => rfl, fun k hk => absurd hk (by omega)⟩ (by omega) ?_ ?_
  · rintro i v1 v2 _ τ rec hi ⟨rfl, hu, hR, hK, hJ⟩ hr
    rw [if_neg (by show ¬ nI 4 ≤ nI i; exact nI_ge hi (by omega)), hR, r2, r3, nI_1]
    refine wp_bnd1 (up7_k hst h7 hF hset hq hi hR hK) ?_
    rintro τ' ⟨y1, ⟨mb, r⟩, x1, m1, m2, m3, m4⟩
    dsimp only at m1 m2 m3 m4
    rw [y1, r3, r5, bnd_of _ x1]
    have hQ : Q ≤ 12 := hF.1
    have e5 : gI r f 5 = nI Q := by rw [m3 f 5 (by have := h7.2.1; omega)]; exact hF.2.1
    refine wp_if (fun c => ?_) fun c => ?_
    · have hm := m1.mp c
      have hJ' : ∀ k, k < i + 1 → Mk w q spk lvl mk σ k → ∃ r, Jk w q spk lvl mk b U V A B Q N cx cy σ k r := fun k hk hm' => by
        by_cases ck : k = i
        · subst ck; exact ⟨r, m4 hm⟩
        · exact hJ k (by omega) hm'
      rw [m2, r5, bnd1_of _ (gains7 hQ e5)]
      refine wp_vk1 (fun _ : Unit => ¬ (¬ v1 < 0 ∧ itr (shW r 0) (0 : Int32) Q ≤ v2)) ?_ fun j hj => ?_
      · intro _ hc
        exact hr _ _ _ _ ⟨rfl, ⟨v1, v2, hu, Or.inl ⟨hm, _, ⟨r, m4 hm, rfl⟩, Or.inr ⟨hc, rfl, rfl⟩⟩⟩, m2, m3, hJ'⟩
      · refine wp_if (fun c1 => hj _ fun q => q.1 c1) fun c1 => wp_if (fun c2 => hr _ _ _ _ ⟨rfl, ⟨v1, v2, hu, Or.inl ⟨hm, _, ⟨r, m4 hm, rfl⟩, Or.inl ⟨c1, c2, rfl, rfl⟩⟩⟩, m2, m3, hJ'⟩) fun c2 => hj _ fun q => c2 q.2
    · have hm : ¬ Mk w q spk lvl mk σ i := fun q => c (m1.mpr q)
      refine hr _ _ _ _ ⟨rfl, ⟨v1, v2, hu, Or.inr ⟨hm, rfl, rfl⟩⟩, m2, m3, fun k hk hm' => ?_⟩
      by_cases ck : k = i
      · subst ck; exact absurd hm' hm
      · exact hJ k (by omega) hm'
  · rintro v1 v2 _ τ rec ⟨rfl, hu, hR, hK, hJ⟩
    rw [if_pos (show (4 : Int32) ≤ nI 4 by decide)]
    exact wp_some ⟨⟨v2, hu⟩, hR, hK, hJ⟩
end UP

/-! from 64.upkept of the class-and-reference proof: what speaks of the class alone -/
/-! Up kept: the reference's half, and both. -/
section UP8
variable {s t f w q spk : Nat} {lvl mk : Int32} {b U V A B Q : Nat} {N cx cy : Nat → Nat} {σ : SS}
def Ut (s t w q : Nat) (σ : SS) (k : Nat) (τ : SS) : Prop := gR τ = gR σ ∧ Kt s t σ τ ∧ gI τ 73 29 = nI (tW w q k) ∧ gI τ 73 30 = nI (tW q w k) ∧ Vis (gI τ 83) (tW w q k) (tW q w k) (tF (gI σ 83) w q k) fun _ _ => True
theorem Ut.kj {k : Nat} {τ r : SS} (h : Ut s t w q σ k τ) (hR : gR r = gR τ) (hK : Kj τ r) : Ut s t w q σ k r := by
  obtain ⟨h1, h2, h3, h4, h5⟩ := h
  refine ⟨hR.trans h1, fun c k hc => (hK c k (by omega)).trans (h2 c k hc), by rw [hK _ _ (by omega)]; exact h3, by rw [hK _ _ (by omega)]; exact h4, ?_⟩
  rw [show gI r 83 = gI τ 83 from funext fun k => hK _ _ (by omega)]; exact h5
end UP8
/-! from 65.apart of the class-and-reference proof: what speaks of the class alone -/
/-! Apart kept: the orders, and the widest gap. -/
def Ef (N : Nat → Nat) : Nat → Nat → Nat
  | 0, _ => 0
  | Q + 1, k => if k < psum N Q then Ef N Q k else 6 * Q + (k - psum N Q)
theorem Ef_at {N : Nat → Nat} : ∀ Q p i, p < Q → i < N p → Ef N Q (psum N p + i) = 6 * p + i
  | 0, _, _, h, _ => absurd h (by omega)
  | Q + 1, p, i, h, hi => by
    show (if psum N p + i < psum N Q then Ef N Q (psum N p + i) else 6 * Q + (psum N p + i - psum N Q)) = _
    by_cases c : p = Q
    · subst c; rw [if_neg (by omega)]; omega
    · rw [if_pos (psum_lt (by omega) hi)]; exact Ef_at Q p i (by omega) hi
def gpW (D O : Nat → Nat) : Nat → Nat × Int32
  | 0 => (0, 0)
  | k + 1 => if nI (D (O k)) - nI (D (O (k + 1))) ≤ (gpW D O k).2 then gpW D O k else (k + 1, nI (D (O k)) - nI (D (O (k + 1))))
theorem gpW_p {D O : Nat → Nat} (hD : ∀ k, D k ≤ 324) : ∀ k, (gpW D O k).1 ≤ k ∧ 0 ≤ (gpW D O k).2.toInt ∧ ((gpW D O k).1 = 0 ∨ D (O (gpW D O k).1) < D (O ((gpW D O k).1 - 1)))
  | 0 => ⟨Nat.le_refl _, by show 0 ≤ (0 : Int32).toInt; decide, Or.inl rfl⟩
  | k + 1 => by
    have ih := gpW_p (O := O) hD k
    have es : gpW D O (k + 1) = if nI (D (O k)) - nI (D (O (k + 1))) ≤ (gpW D O k).2 then gpW D O k else (k + 1, nI (D (O k)) - nI (D (O (k + 1)))) := rfl
    rw [es]
    by_cases c : nI (D (O k)) - nI (D (O (k + 1))) ≤ (gpW D O k).2
    · rw [if_pos c]; exact ⟨by omega, ih.2⟩
    · rw [if_neg c]
      rw [le_i, sub_i (hD _) (hD _)] at c
      refine ⟨Nat.le_refl _, ?_, Or.inr ?_⟩
      · show 0 ≤ (nI (D (O k)) - nI (D (O (k + 1)))).toInt
        rw [sub_i (hD _) (hD _)]; omega
      · show D (O (k + 1)) < D (O (k + 1 - 1))
        rw [Nat.add_sub_cancel]; omega
section GAP
variable {s : SS} {T : Nat} {D O : Nat → Nat}
theorem gap7 {f : Nat} {k100 : Int32 → Int32 → Option (Int32 × SS)} (hT : T ≤ 72) (e6 : gI s f 6 = nI T) (h52 : ∀ k, k < T → gI s 52 k = nI (O k)) (hO : ∀ k, k < T → O k < T) (h51 : ∀ k, k < T → gI s 51 k = nI (D k)) : X3_partedBy_L17 s f k100 fuel (0 : Int32) (0 : Int32) (0 : Int32) = k100 (nI (gpW D O (T - 1)).1) (gpW D O (T - 1)).2 := by
  unfold X3_partedBy_L17
  refine lp_3 (fun k => nI (gpW D O k).1) (fun k => (gpW D O k).2) (fun k => nI k) (T - 1) _ (fun k hk rec => ?_) (fun rec => ?_) fuel (fuel_gt (by omega))
  · have o1 := hO k (by omega)
    have o2 := hO (k + 1) (by omega)
    simp only [nI_1]
    rw [e6, if_neg (nI_ge (by omega) (by omega)), grd_eq _ (inb_nI (by omega) (by decide)), nI_clamp (by omega), h52 k (by omega), grd_eq _ (inb_nI (by omega) (by decide)), grd_eq _ (inb_nI (by omega) (by decide)), nI_clamp (by omega), h52 (k + 1) (by omega), grd_eq _ (inb_nI (by omega) (by decide)), nI_clamp (by omega), nI_clamp (by omega), h51 _ o1, h51 _ o2]
    have es : gpW D O (k + 1) = if nI (D (O k)) - nI (D (O (k + 1))) ≤ (gpW D O k).2 then gpW D O k else (k + 1, nI (D (O k)) - nI (D (O (k + 1)))) := rfl
    rw [es]
    by_cases c : nI (D (O k)) - nI (D (O (k + 1))) ≤ (gpW D O k).2
    · rw [if_pos c, if_pos c]
    · rw [if_neg c, if_neg c, vthen_q, vthen_q]
  · rw [e6, nI_1, if_pos (nI_le (by omega) (by omega))]
end GAP
section SORT8
variable {σ : SS} {p i j : Nat} {E : Nat → Nat}
end SORT8

/-! from 66.else of the class-and-reference proof: what speaks of the class alone -/
/-! Apart kept: the boxes judged otherwise than by the gap. -/
noncomputable def dfW (HB AH : Nat → Prop) (k : Nat) : Nat := @ite _ (HB k ↔ AH k) (Classical.propDecidable _) 0 1
theorem dfW_y {HB AH : Nat → Prop} {k : Nat} (h : HB k ↔ AH k) : dfW HB AH k = 0 := by unfold dfW; rw [if_pos h]
theorem dfW_n {HB AH : Nat → Prop} {k : Nat} (h : ¬ (HB k ↔ AH k)) : dfW HB AH k = 1 := by unfold dfW; rw [if_neg h]
def HbW (s : SS) (E : Nat → Nat) (k : Nat) : Prop := (gI s 53 (E k / 6) >>> (nI (E k % 6) &&& 31)) &&& 1 = (1 : Int32)
def AhW (D O : Nat → Nat) (u k : Nat) : Prop := 0 < u ∧ ¬ nI (D k) < nI (D (O (u - 1)))
theorem bit_at (n q i : Nat) (h : n = 6 * q + i) (hi : i < 6) : n / 6 = q ∧ n % 6 = i := by omega
theorem Bs.bit {v : Int32} {T : Nat → Prop} (h : Bs v T) {b : Nat} (hb : b < 6) : ((v >>> (nI b &&& 31)) &&& 1 = (1 : Int32)) ↔ T b := by
  obtain ⟨m, h1, rfl, h3⟩ := h
  exact (bit_has m h1 b hb).trans (h3 b hb)
section ELSE7
variable {s : SS} {f Q T u : Nat} {N D O : Nat → Nat}
theorem else7 (hQ : Q ≤ 12) (e5 : gI s f 5 = nI Q) (hT : psum N Q ≤ 72) (hN : ∀ p, p < Q → N p ≤ 6 ∧ gI s (f + 2) p = nI (psum N p) ∧ gI s (f + 3) p = nI (N p)) (hu : u ≤ psum N Q) (h52 : ∀ k, k < psum N Q → gI s 52 k = nI (O k)) (hO : ∀ k, k < psum N Q → O k < psum N Q) (h51 : ∀ k, k < psum N Q → gI s 51 k = nI (D k)) : fX3_judgedElse s f (nI u) = some (nI (gs (fun _ => True) (dfW (HbW s (Ef N Q)) (AhW D O u)) (psum N Q))) := by
  unfold fX3_judgedElse X3_judgedElse_L5
  refine lp_2 (fun q => nI (gs (fun _ => True) (dfW (HbW s (Ef N Q)) (AhW D O u)) (psum N q))) (fun q => nI q) Q _ (fun q hq rec => ?_) (fun rec => ?_) fuel (fuel_gt (by omega))
  · obtain ⟨n6, g2, g3⟩ := hN q hq
    rw [e5, if_neg (nI_ge hq (by omega))]
    unfold X3_judgedElse_L17
    refine lp_2 (fun i => nI (gs (fun _ => True) (dfW (HbW s (Ef N Q)) (AhW D O u)) (psum N q + i))) (fun i => nI i) (N q) (rec (nI (gs (fun _ => True) (dfW (HbW s (Ef N Q)) (AhW D O u)) (psum N q + N q))) (nI (q + 1))) (fun i hi rec2 => ?_) (fun rec2 => ?_) fuel (fuel_gt (by omega))
    · have hlt := psum_lt hq hi
      obtain ⟨b1, b2⟩ := bit_at _ q i (Ef_at Q q i hq hi) (by omega)
      have eb : HbW s (Ef N Q) (psum N q + i) = ((gI s 53 q >>> (nI i &&& 31)) &&& 1 = (1 : Int32)) := by unfold HbW; rw [b1, b2]
      have eg : gs (fun _ => True) (dfW (HbW s (Ef N Q)) (AhW D O u)) (psum N q + (i + 1)) = gs (fun _ => True) (dfW (HbW s (Ef N Q)) (AhW D O u)) (psum N q + i) + dfW (HbW s (Ef N Q)) (AhW D O u) (psum N q + i) := gs_t trivial
      simp only [eg, vthen_q, nI_1]
      rw [grd_eq _ (inb_nI (by omega) (by decide)), nI_clamp (by omega), g3, if_neg (nI_ge hi (by omega))]
      rcases (show u = 0 ∨ ∃ m, u = m + 1 from by rcases u with _ | m; exact Or.inl rfl; exact Or.inr ⟨m, rfl⟩) with rfl | ⟨m, rfl⟩
      · have na : ¬ AhW D O 0 (psum N q + i) := fun h => absurd h.1 (by omega)
        simp only [if_pos (show nI 0 ≤ (0 : Int32) by decide)]
        by_cases hb : (gI s 53 q >>> (nI i &&& 31)) &&& 1 = (1 : Int32)
        · rw [if_pos hb, if_neg (show ¬ (1 : Int32) = 0 by decide), dfW_n (fun h => na (h.mp (by rw [eb]; exact hb)))]
        · rw [if_neg hb, if_pos trivial, dfW_y (iff_of_false (by rw [eb]; exact hb) na)]; try rfl
      · have om := hO m (by omega)
        have ea : AhW D O (m + 1) (psum N q + i) ↔ ¬ nI (D (psum N q + i)) < nI (D (O m)) := ⟨fun h => h.2, fun h => ⟨by omega, h⟩⟩
        simp only [if_neg (show ¬ nI (m + 1) ≤ (0 : Int32) from nI_nle (by omega) (by omega)), show nI (m + 1) - (1 : Int32) = nI m from nI_pred m, g2, nI_add, nI_clamp (show m < 2 ^ 31 by omega), nI_clamp (show psum N q + i < 2 ^ 31 by omega), h52 m (by omega), nI_clamp (show O m < 2 ^ 31 by omega), h51 _ hlt, h51 _ om, grd_eq _ (show inb (nI (psum N q + i)) 72 = true from inb_nI (by omega) (by decide)), grd_eq _ (show inb (nI m) 72 = true from inb_nI (by omega) (by decide)), grd_eq _ (show inb (nI (O m)) 72 = true from inb_nI (by omega) (by decide))]
        by_cases hb : (gI s 53 q >>> (nI i &&& 31)) &&& 1 = (1 : Int32)
        · have hb' : HbW s (Ef N Q) (psum N q + i) := by rw [eb]; exact hb
          rw [if_pos hb]
          by_cases hl : nI (D (psum N q + i)) < nI (D (O m))
          · rw [if_pos hl, if_neg (show ¬ (1 : Int32) = 0 by decide), dfW_n (fun h => ea.mp (h.mp hb') hl)]
          · rw [if_neg hl, if_pos trivial, dfW_y (iff_of_true hb' (ea.mpr hl))]; try rfl
        · have hb' : ¬ HbW s (Ef N Q) (psum N q + i) := by rw [eb]; exact hb
          rw [if_neg hb]
          by_cases hl : nI (D (psum N q + i)) < nI (D (O m))
          · rw [if_pos hl, if_pos trivial, dfW_y (iff_of_false hb' fun h => ea.mp h hl)]; try rfl
          · rw [if_neg hl, if_neg (show ¬ (0 : Int32) = 1 by decide), dfW_n (fun h => hb' (h.mpr (ea.mpr hl)))]
    · rw [grd_eq _ (inb_nI (by omega) (by decide)), nI_clamp (by omega), g3, if_pos (nI_le (Nat.le_refl _) (by omega)), nI_1]
  · rw [e5, if_pos (nI_le (Nat.le_refl _) (by omega))]
end ELSE7
section ELSE8
variable {w q spk : Nat} {lvl mk : Int32} {pic : Nat → Int32} {b U V A B Q : Nat} {N cx cy D : Nat → Nat} {P : Nat} {σ s r1 : SS} {u : Nat} {O : Nat → Nat}
end ELSE8

/-! from 67.apartkept of the class-and-reference proof: what speaks of the class alone -/
/-! Apart kept. -/
theorem srt_down {D : Nat → Nat} {T : Nat} (hD : ∀ k, D k ≤ 324) : ∀ d j, j + d < T → D (srt (fun l => nI (D l)) T (j + d)) ≤ D (srt (fun l => nI (D l)) T j)
  | 0, j, _ => Nat.le_refl _
  | d + 1, j, h => by
    have ih := srt_down (T := T) hD d j (by omega)
    have s1 : nI (D (srt (fun l => nI (D l)) T (j + d + 1))) ≤ nI (D (srt (fun l => nI (D l)) T (j + d))) := srt_sorted (key := fun l => nI (D l)) T (j + d) (by omega)
    have h1 := hD (srt (fun l => nI (D l)) T (j + d + 1))
    have h2 := hD (srt (fun l => nI (D l)) T (j + d))
    rw [le_i, nI_toInt (by omega), nI_toInt (by omega)] at s1
    rw [show j + (d + 1) = j + d + 1 from rfl]
    omega
theorem ls_sum {HB AH : Nat → Prop} {O : Nat → Nat} {u : Nat} : ∀ T, (∀ k, k < T → (AH (O k) ↔ k < u)) → gs (fun _ => True) (dfW (fun k => HB (O k)) fun k => k < u) T = ls O (dfW HB AH) T
  | 0, _ => rfl
  | T + 1, h => by
    have ih := ls_sum (HB := HB) T fun k hk => h k (by omega)
    rw [gs_t trivial, ih]
    show _ = ls O (dfW HB AH) T + dfW HB AH (O T)
    have hT := h T (by omega)
    by_cases c : HB (O T) ↔ T < u
    · rw [dfW_y (HB := fun k => HB (O k)) c, dfW_y (c.trans hT.symm)]
    · rw [dfW_n (HB := fun k => HB (O k)) c, dfW_n fun q => c (q.trans hT)]
/-! from 68.shape of the class-and-reference proof: what speaks of the class alone -/
/-! Shape kept: signs and areas in long. -/
theorem l_mul (x y : Int) : Int64.ofInt x * Int64.ofInt y = Int64.ofInt (x * y) := (Int64.ofInt_mul x y).symm
theorem l_add (x y : Int) : Int64.ofInt x + Int64.ofInt y = Int64.ofInt (x + y) := (Int64.ofInt_add x y).symm
theorem l_sub (x y : Int) : Int64.ofInt x - Int64.ofInt y = Int64.ofInt (x - y) := (Int64.ofInt_sub x y).symm
theorem l_val {n : Int} (h : n.natAbs ≤ 9000000000000000000) : (Int64.ofInt n).toInt = n := Int64.toInt_ofInt_of_le (by omega) (by omega)
theorem l_nat (n : Nat) : lN n = Int64.ofInt n := rfl
theorem cmp_le (x y : Int64) : (lg_cmp x y ≤ 0) = (x.toInt ≤ y.toInt) := by rw [lg_cmp_le]; exact propext Int64.le_iff_toInt_le
theorem cmp_ge (x y : Int64) : (0 ≤ lg_cmp x y) = (y.toInt ≤ x.toInt) := by
  have h : (0 ≤ lg_cmp x y) ↔ ¬ lg_cmp x y < 0 := Int32.not_lt.symm
  rw [h, lg_cmp_lt]
  exact propext ⟨fun q => by rw [Int64.lt_iff_toInt_lt] at q; omega, fun q => by rw [Int64.lt_iff_toInt_lt]; omega⟩
theorem cmp0 {n : Int} (h : n.natAbs ≤ 9000000000000000000) : (lg_cmp (Int64.ofInt n) 0 ≤ 0 ↔ n ≤ 0) ∧ (0 ≤ lg_cmp (Int64.ofInt n) 0 ↔ 0 ≤ n) := by
  have z : (0 : Int64).toInt = 0 := rfl
  have e1 := cmp_le (Int64.ofInt n) 0
  have e2 := cmp_ge (Int64.ofInt n) 0
  rw [l_val h, z] at e1 e2
  exact ⟨by rw [e1], by rw [e2]⟩
def sg (n : Int) : Int32 := if n ≤ 0 then (if 0 ≤ n then 0 else -1) else 1
section SHAPE
variable {X Y S : Nat → Nat} {r : SS}
def sdI (X Y S : Nat → Nat) (a b c : Nat) : Int := ((S c : Int) * (((X a * Y b : Nat) : Int) - ((X b * Y a : Nat) : Int)) + (S a : Int) * (((X b * Y c : Nat) : Int) - ((X c * Y b : Nat) : Int))) + (S b : Int) * (((X c * Y a : Nat) : Int) - ((X a * Y c : Nat) : Int))
theorem pr_le {p q : Nat} (hp : p ≤ 64000) (hq : q ≤ 64000) : p * q ≤ 4096000000 := Nat.mul_le_mul hp hq
theorem mul_abs {s : Nat} {d : Int} {M K : Nat} (hs : s ≤ M) (hd : d.natAbs ≤ K) : ((s : Int) * d).natAbs ≤ M * K := by
  rw [Int.natAbs_mul]
  exact Nat.mul_le_mul (by omega) hd
theorem sdI_b (hX : ∀ k, k < 4 → X k ≤ 64000 ∧ Y k ≤ 64000) (hS : ∀ k, k < 4 → 1 ≤ S k ∧ S k ≤ 1600) {a b c : Nat} (ha : a < 4) (hb : b < 4) (hc : c < 4) : (sdI X Y S a b c).natAbs ≤ 19660800000000 := by
  have d : ∀ i j, i < 4 → j < 4 → (((X i * Y j : Nat) : Int) - ((X j * Y i : Nat) : Int)).natAbs ≤ 4096000000 := fun i j hi hj => by
    have h1 := pr_le (hX i hi).1 (hX j hj).2
    have h2 := pr_le (hX j hj).1 (hX i hi).2
    generalize X i * Y j = p at *
    generalize X j * Y i = q at *
    omega
  have t1 := mul_abs (hS c hc).2 (d a b ha hb)
  have t2 := mul_abs (hS a ha).2 (d b c hb hc)
  have t3 := mul_abs (hS b hb).2 (d c a hc ha)
  unfold sdI
  generalize (S c : Int) * (((X a * Y b : Nat) : Int) - ((X b * Y a : Nat) : Int)) = p at *
  generalize (S a : Int) * (((X b * Y c : Nat) : Int) - ((X c * Y b : Nat) : Int)) = q at *
  generalize (S b : Int) * (((X c * Y a : Nat) : Int) - ((X a * Y c : Nat) : Int)) = t at *
  omega
end SHAPE

/-! from 69.oneway of the class-and-reference proof: what speaks of the class alone -/
/-! Shape kept. -/
def cyc (k : Nat) : Nat := if k = 2 then 3 else if k = 3 then 2 else k
theorem cyc_r : ∀ k, k < 4 → cyc k < 4 ∧ irm (nI k + 1) 4 = nI ((k + 1) % 4) ∧ irm (nI k + 2) 4 = nI ((k + 2) % 4) ∧ irm (nI k + 3) 4 = nI ((k + 3) % 4) ∧ roV 1003 (nI k).toNatClampNeg = nI (cyc k) := by decide +kernel
theorem sg_r (n : Int) : sg n = 0 ∨ sg n = 1 ∨ sg n = -1 := by
  unfold sg
  by_cases c : n ≤ 0
  · rw [if_pos c]
    by_cases c2 : 0 ≤ n
    · rw [if_pos c2]; exact Or.inl rfl
    · rw [if_neg c2]; exact Or.inr (Or.inr rfl)
  · rw [if_neg c]; exact Or.inr (Or.inl rfl)
def pcS (s : Nat → Int32) : Nat → Int32 := itr (fun k n => if s k = 1 then n + 1 else n) 0
def ncS (s : Nat → Int32) : Nat → Int32 := itr (fun k n => if s k = -1 then n + 1 else n) 0
theorem ow4 (a b c d : Int32) (ha : a = 0 ∨ a = 1 ∨ a = -1) (hb : b = 0 ∨ b = 1 ∨ b = -1) (hc : c = 0 ∨ c = 1 ∨ c = -1) (hd : d = 0 ∨ d = 1 ∨ d = -1) : ((if d = 1 then (if c = 1 then (if b = 1 then (if a = 1 then (0 : Int32) + 1 else 0) + 1 else (if a = 1 then (0 : Int32) + 1 else 0)) + 1 else (if b = 1 then (if a = 1 then (0 : Int32) + 1 else 0) + 1 else (if a = 1 then (0 : Int32) + 1 else 0))) + 1 else (if c = 1 then (if b = 1 then (if a = 1 then (0 : Int32) + 1 else 0) + 1 else (if a = 1 then (0 : Int32) + 1 else 0)) + 1 else (if b = 1 then (if a = 1 then (0 : Int32) + 1 else 0) + 1 else (if a = 1 then (0 : Int32) + 1 else 0)))) = 4 ↔ (a = 1 ∧ b = 1 ∧ c = 1 ∧ d = 1)) := by
  rcases ha with rfl | rfl | rfl <;> rcases hb with rfl | rfl | rfl <;> rcases hc with rfl | rfl | rfl <;> rcases hd with rfl | rfl | rfl <;> decide
theorem ow5 (a b c d : Int32) (ha : a = 0 ∨ a = 1 ∨ a = -1) (hb : b = 0 ∨ b = 1 ∨ b = -1) (hc : c = 0 ∨ c = 1 ∨ c = -1) (hd : d = 0 ∨ d = 1 ∨ d = -1) : ((if d = -1 then (if c = -1 then (if b = -1 then (if a = -1 then (0 : Int32) + 1 else 0) + 1 else (if a = -1 then (0 : Int32) + 1 else 0)) + 1 else (if b = -1 then (if a = -1 then (0 : Int32) + 1 else 0) + 1 else (if a = -1 then (0 : Int32) + 1 else 0))) + 1 else (if c = -1 then (if b = -1 then (if a = -1 then (0 : Int32) + 1 else 0) + 1 else (if a = -1 then (0 : Int32) + 1 else 0)) + 1 else (if b = -1 then (if a = -1 then (0 : Int32) + 1 else 0) + 1 else (if a = -1 then (0 : Int32) + 1 else 0)))) = 4 ↔ (a = -1 ∧ b = -1 ∧ c = -1 ∧ d = -1)) := by
  rcases ha with rfl | rfl | rfl <;> rcases hb with rfl | rfl | rfl <;> rcases hc with rfl | rfl | rfl <;> rcases hd with rfl | rfl | rfl <;> decide
theorem ow {s : Nat → Int32} (h : ∀ k, s k = 0 ∨ s k = 1 ∨ s k = -1) : (pcS s 4 = 4 ∨ ncS s 4 = 4) ↔ (¬ s 0 = 0 ∧ s 1 = s 0 ∧ s 2 = s 0 ∧ s 3 = s 0) := by
  have h1 : pcS s 4 = 4 ↔ (s 0 = 1 ∧ s 1 = 1 ∧ s 2 = 1 ∧ s 3 = 1) := ow4 (s 0) (s 1) (s 2) (s 3) (h 0) (h 1) (h 2) (h 3)
  have h2 : ncS s 4 = 4 ↔ (s 0 = -1 ∧ s 1 = -1 ∧ s 2 = -1 ∧ s 3 = -1) := ow5 (s 0) (s 1) (s 2) (s 3) (h 0) (h 1) (h 2) (h 3)
  rw [h1, h2]
  constructor
  · rintro (⟨a, b, c, d⟩ | ⟨a, b, c, d⟩)
    · rw [a, b, c, d]; decide
    · rw [a, b, c, d]; decide
  · rintro ⟨a, b, c, d⟩
    rcases h 0 with e | e | e
    · exact absurd e a
    · exact Or.inl ⟨e, b.trans e, c.trans e, d.trans e⟩
    · exact Or.inr ⟨e, b.trans e, c.trans e, d.trans e⟩
section SHAPE7
variable {X Y S : Nat → Nat} {r : SS}
def sgs (X Y S : Nat → Nat) (k : Nat) : Int32 := sg (sdI X Y S (cyc k) (cyc ((k + 1) % 4)) (cyc ((k + 2) % 4)))
end SHAPE7

/-! from 70.area of the class-and-reference proof: what speaks of the class alone -/
/-! Shape kept: area, slope, and all. -/
section SHAPE9
variable {X Y S : Nat → Nat} {r : SS}
def qT (X Y S : Nat → Nat) (k : Nat) : Int64 := (((lN (X (cyc k)) * lN (Y (cyc ((k + 1) % 4)))) - (lN (X (cyc ((k + 1) % 4))) * lN (Y (cyc k)))) * lN (S (cyc ((k + 2) % 4)))) * lN (S (cyc ((k + 3) % 4)))
def arS (X Y S : Nat → Nat) : Nat → Int64 := itr (fun k n => n + qT X Y S k) 0
theorem den_b (hS : ∀ k, k < 4 → 1 ≤ S k ∧ S k ≤ 1600) : 1 ≤ 2 * S 0 * S 1 * S 2 * S 3 ∧ 2 * S 0 * S 1 * S 2 * S 3 ≤ 2 * 1600 * 1600 * 1600 * 1600 := by
  obtain ⟨a1, a2⟩ := hS 0 (by omega)
  obtain ⟨b1, b2⟩ := hS 1 (by omega)
  obtain ⟨c1, c2⟩ := hS 2 (by omega)
  obtain ⟨d1, d2⟩ := hS 3 (by omega)
  exact ⟨Nat.mul_pos (Nat.mul_pos (Nat.mul_pos (Nat.mul_pos (by omega) a1) b1) c1) d1, Nat.mul_le_mul (Nat.mul_le_mul (Nat.mul_le_mul (Nat.mul_le_mul (Nat.le_refl _) a2) b2) c2) d2⟩
theorem l_swap (x y z : Int64) : x * y * z = x * z * y := by rw [Int64.mul_assoc, Int64.mul_comm y z, ← Int64.mul_assoc]
theorem ar_4 : arS X Y S 4 = (((((lN (X 0) * lN (Y 1)) - (lN (X 1) * lN (Y 0))) * lN (S 2)) * lN (S 3) + (((lN (X 1) * lN (Y 3)) - (lN (X 3) * lN (Y 1))) * lN (S 0)) * lN (S 2)) + (((lN (X 3) * lN (Y 2)) - (lN (X 2) * lN (Y 3))) * lN (S 0)) * lN (S 1)) + (((lN (X 2) * lN (Y 0)) - (lN (X 0) * lN (Y 2))) * lN (S 1)) * lN (S 3) := by
  show ((((0 : Int64) + (((lN (X 0) * lN (Y 1)) - (lN (X 1) * lN (Y 0))) * lN (S 3)) * lN (S 2)) + (((lN (X 1) * lN (Y 3)) - (lN (X 3) * lN (Y 1))) * lN (S 2)) * lN (S 0)) + (((lN (X 3) * lN (Y 2)) - (lN (X 2) * lN (Y 3))) * lN (S 0)) * lN (S 1)) + (((lN (X 2) * lN (Y 0)) - (lN (X 0) * lN (Y 2))) * lN (S 1)) * lN (S 3) = _
  rw [Int64.zero_add, l_swap _ (lN (S 3)) (lN (S 2)), l_swap _ (lN (S 2)) (lN (S 0))]
end SHAPE9

/-! from 71.shapekept of the class-and-reference proof: what speaks of the class alone -/
/-! Shape kept. -/
theorem slope_l {a b : Nat} (ha : a ≤ 102400000) (hb : b ≤ 102400000) (σ : SS) : (if lg_cmp (lN a) (lN b) = 0 then some (0 : Int32) else if lg_cmp (lN b) (lN a) ≤ 0 then some 2 else some 1) = some (if a = b then 0 else if b ≤ a then 2 else 1) ∧ (if lg_cmp (lN b - lN a) (0 : Int64) = 0 then some ((0 : Int32), σ) else if lg_cmp (lN b - lN a) (0 : Int64) ≤ 0 then some (2, σ) else some (1, σ)) = some (if a = b then 0 else if b ≤ a then 2 else 1, σ) := by
  have va : (lN a).toInt = a := l_val (n := a) (by omega)
  have vb : (lN b).toInt = b := l_val (n := b) (by omega)
  have z : (0 : Int64).toInt = 0 := rfl
  have ed : lN b - lN a = Int64.ofInt ((b : Int) - a) := by rw [l_nat, l_nat, l_sub]
  have vd : (lN b - lN a).toInt = (b : Int) - a := by rw [ed, l_val (by omega)]
  have e1 : lg_cmp (lN a) (lN b) = 0 ↔ a = b := by
    rw [lg_cmp_eq]
    exact ⟨fun q => by have := congrArg Int64.toInt q; omega, fun q => by rw [q]⟩
  have e2 : lg_cmp (lN b) (lN a) ≤ 0 ↔ b ≤ a := by rw [cmp_le, va, vb]; omega
  have e3 : lg_cmp (lN b - lN a) 0 = 0 ↔ a = b := by
    rw [lg_cmp_eq]
    exact ⟨fun q => by have := congrArg Int64.toInt q; omega, fun q => by apply Int64.toInt_inj.mp; omega⟩
  have e4 : lg_cmp (lN b - lN a) 0 ≤ 0 ↔ b ≤ a := by rw [cmp_le, vd, z]; omega
  by_cases c : a = b
  · rw [if_pos (e1.mpr c), if_pos (e3.mpr c), if_pos c]; exact ⟨rfl, rfl⟩
  · rw [if_neg (fun q => c (e1.mp q)), if_neg (fun q => c (e3.mp q)), if_neg c]
    by_cases c2 : b ≤ a
    · rw [if_pos (e2.mpr c2), if_pos (e4.mpr c2), if_pos c2]; exact ⟨rfl, rfl⟩
    · rw [if_neg (fun q => c2 (e2.mp q)), if_neg (fun q => c2 (e4.mp q)), if_neg c2]; exact ⟨rfl, rfl⟩
