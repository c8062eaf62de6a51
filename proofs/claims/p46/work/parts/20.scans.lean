/-! 20: the law's scans: its steps, one by one. -/
theorem bv_nI (x : Int32) : x = nI x.toBitVec.toNat := by
  apply Int32.toBitVec_inj.mp
  apply BitVec.eq_of_toNat_eq
  show x.toBitVec.toNat = (BitVec.ofNat 32 x.toBitVec.toNat).toNat
  rw [BitVec.toNat_ofNat, Nat.mod_eq_of_lt x.toBitVec.isLt]
def Kn (c0 : Nat) (σ τ : SS) : Prop := gR τ = gR σ ∧ ∀ c k, ¬ (c = c0 ∧ k = 0) → gI τ c k = gI σ c k
theorem next_s {σ : SS} {c : Nat} (hv : lav σ c = true) (hl : gR σ c 0 = 1) : WP (fL_next σ c) (fun r => (∃ n, n < 8388608 ∧ r.1 = nI n) ∧ Kn c σ r.2) := by
  have hin : ∀ τ : SS, gR τ = gR σ → lin τ c (0 : Int32) = true := fun τ e => by
    have h1 : lav τ c = true := by unfold lav at *; rw [e]; exact hv
    exact lin_of (n := 1) (k := 0) h1 (by rw [e]; exact hl) (by decide) (by decide)
  unfold fL_next
  refine wp_grd (hin _ rfl) ?_
  refine wp_vv fun τ1 e1 => ?_
  have r1 : gR τ1 = gR σ := by rw [e1]; rfl
  refine wp_grd (hin _ r1) ?_
  refine wp_vv fun τ2 e2 => ?_
  have r2 : gR τ2 = gR σ := by rw [e2]; exact r1
  refine wp_grd (hin _ r2) ⟨_, rfl, ⟨_, ?_, bv_nI _⟩, r2, fun c' k hc => ?_⟩
  · rw [pk_ushr _ (9 : Int32) 9 rfl]
    have := (gI τ2 c 0).toBitVec.isLt
    omega
  · rw [e2, gI_nk hc, e1, gI_nk hc]
/-- what the law's scans may change -/
def Sf (rr : Nat) (σ τ : SS) : Prop := (∀ c k, c ≠ 0 → c < 2000 + gR σ 0 0 → ¬ (c = 1 ∧ (k = 2 ∨ k = 3)) → gR τ c k = gR σ c k) ∧ (∀ c k, c < 2000 + gR σ 0 0 → ¬ Sk c k → ¬ (3 ≤ c ∧ c ≤ 8) → ¬ (c = 64 ∨ c = 65) → ¬ (c = 1 ∧ k = 8) → ¬ (c = rr ∧ k = 0) → gI τ c k = gI σ c k) ∧ gR σ 0 0 ≤ gR τ 0 0
theorem Sf.rf (rr : Nat) (σ : SS) : Sf rr σ σ := ⟨fun _ _ _ _ _ => rfl, fun _ _ _ _ _ _ _ _ => rfl, Nat.le_refl _⟩
theorem Sf.tr {rr : Nat} {a b c : SS} (h : Sf rr a b) (h' : Sf rr b c) : Sf rr a c := ⟨fun q k h1 h2 h3 => (h'.1 q k h1 (by have := h.2.2; omega) h3).trans (h.1 q k h1 h2 h3), fun q k h1 h2 h3 h4 h5 h6 => (h'.2.1 q k (by have := h.2.2; omega) h2 h3 h4 h5 h6).trans (h.2.1 q k h1 h2 h3 h4 h5 h6), Nat.le_trans h.2.2 h'.2.2⟩
theorem Kf.sf {rr : Nat} {β σ : SS} (h : Kf β σ) : Sf rr β σ := ⟨fun c k h1 h2 _ => h.1 c k h1 h2, fun c k h1 h2 _ _ _ _ => h.2.1 c k h1 h2, h.2.2⟩
theorem Kn.sf {rr : Nat} {σ τ : SS} (h : Kn rr σ τ) : Sf rr σ τ := ⟨fun c k _ _ _ => by rw [h.1], fun c k _ _ _ _ _ h6 => h.2 c k h6, by rw [h.1]; exact Nat.le_refl _⟩
/-- the drawer holds it -/
def Dw (W H : Nat) (F : Nat → Nat → Int32) (τ : SS) : Prop := gI τ 64 0 = nI W ∧ gI τ 64 1 = nI H ∧ ∀ x y, x < W → y < H → gI τ 65 (y * W + x) = F x y
theorem Dw.fr {W H : Nat} {F : Nat → Nat → Int32} {τ τ' : SS} (h : Dw W H F τ) (h1 : ∀ k, gI τ' 64 k = gI τ 64 k) (h2 : ∀ k, gI τ' 65 k = gI τ 65 k) : Dw W H F τ' := ⟨(h1 0).trans h.1, (h1 1).trans h.2.1, fun x y hx hy => (h2 _).trans (h.2.2 x y hx hy)⟩
theorem Pc.fr {W H : Nat} {F : Nat → Nat → Int32} {τ τ' : SS} (h : Pc W H F τ) (hs : sO τ' = sO τ) (h1 : ∀ k, gI τ' (sO τ) k = gI τ (sO τ) k) (h2 : ∀ k, gI τ' (sO τ + 1) k = gI τ (sO τ + 1) k) : Pc W H F τ' := by
  unfold Pc; rw [hs]
  exact ⟨(h1 0).trans h.1, (h1 1).trans h.2.1, fun x y hx hy => (h2 _).trans (h.2.2 x y hx hy)⟩
section STEPS
variable {W H : Nat} {F : Nat → Nat → Int32} {σ τ : SS}
theorem keep_s (hs : sO σ = 3 ∨ sO σ = 6) (h9 : gR σ 9 0 = 64) (hP : Pc W H F σ) (hW : W ≤ 40) (hH : H ≤ 40) : WP (fX7_keep σ (0 : Int32)) (fun r => r.1 = true ∧ gR r.2 = gR σ ∧ Dw W H F r.2 ∧ ∀ c k, ¬ (c = 64 ∨ c = 65) → gI r.2 c k = gI σ c k) := by
  unfold fX7_keep
  rw [if_neg (by decide), if_pos (by decide), grd_eq _ (show inb (0 : Int32) 3 = true by decide), show ((0 : Int32)).toNatClampNeg = 0 from rfl, h9, show gR σ 1 2 = sO σ from rfl, bnd1_of _ (takeAll_eq (by omega))]
  refine ⟨_, rfl, rfl, rfl, ⟨?_, ?_, fun x y hx hy => ?_⟩, fun c k hc => ?_⟩
  · dsimp only; rw [gI_A_ne (by decide), gI_nk (by decide), gI_eq]; exact hP.1
  · dsimp only; rw [gI_A_ne (by decide), gI_eq]; exact hP.2.1
  · dsimp only
    rw [gI_A, if_pos (by have := cell_lt hx hy; have := area_le hW hH; omega)]
    exact hP.2.2 x y hx hy
  · dsimp only; rw [gI_A_ne (by omega), gI_ne (by omega), gI_ne (by omega)]
theorem back_s (hs : sO τ = 3 ∨ sO τ = 6) (h9 : gR τ 9 0 = 64) (hD : Dw W H F τ) (hW : 8 ≤ W ∧ W ≤ 40) (hH : H ≤ 40) : WP (fX7_back τ (0 : Int32)) (fun r => r.1 = true ∧ gR r.2 = gR τ ∧ Pc W H F r.2 ∧ ∀ c k, ¬ (3 ≤ c ∧ c ≤ 8) → gI r.2 c k = gI τ c k) := by
  unfold fX7_back
  rw [if_neg (by decide), if_neg (by decide), grd_eq _ (show inb (0 : Int32) 3 = true by decide), show ((0 : Int32)).toNatClampNeg = 0 from rfl, h9, show gR τ 1 2 = sO τ from rfl]
  have hn : ¬ fX6_isNothing τ 64 = true := by
    unfold fX6_isNothing
    rw [hD.1, if_neg (nI_ne0 (by omega) (by omega))]
    decide
  rw [if_neg hn, bnd1_of _ (takeAll_eq (by omega))]
  have r0 : sO (sA (sI (sI τ (sO τ) 0 (gI τ 64 0)) (sO τ) 1 (gI τ 64 1)) (sO τ + 1) (fun k => if k < 1600 then gI τ (64 + 1) k else gI τ (sO τ + 1) k)) = sO τ := rfl
  refine ⟨_, rfl, rfl, rfl, ⟨?_, ?_, fun x y hx hy => ?_⟩, fun c k hc => ?_⟩
  · dsimp only; rw [r0, gI_A_ne (by omega), gI_nk (by omega), gI_eq]; exact hD.1
  · dsimp only; rw [r0, gI_A_ne (by omega), gI_eq]; exact hD.2.1
  · dsimp only
    rw [r0, gI_A, if_pos (by have := cell_lt hx hy; have := area_le hW.2 hH; omega)]
    exact hD.2.2 x y hx hy
  · dsimp only; rw [gI_A_ne (by omega), gI_ne (by omega), gI_ne (by omega)]
theorem dot_s (hP : Pc W H F τ) (hW : W ≤ 40) (hH : H ≤ 40) {x y : Nat} (hx : x < W) (hy : y < H) : fX7_dot τ (nI x) (nI y) = some (F x y) := by
  have ha := area_le hW hH
  have hk := cell_lt hx hy
  have c7 := has_eq (σ := τ) hP.1 hP.2.1 hW hH (nI x) (nI y)
  unfold fX7_dot fX6_at
  rw [show gR τ 1 2 = sO τ from rfl, if_pos (by rw [c7, nI_toInt (by omega), nI_toInt (by omega)]; omega), if_pos (by rw [c7, nI_toInt (by omega), nI_toInt (by omega)]; omega), hP.1, ix_c, grd_eq _ (inb_nI (by omega) (by omega)), nI_clamp (by omega), hP.2.2 x y hx hy]
  rfl
theorem count01 (hP : Pc W H F τ) : fX7_count τ (0 : Int32) = some (nI W) ∧ fX7_count τ (1 : Int32) = some (nI H) := by
  unfold fX7_count
  refine ⟨?_, ?_⟩
  · rw [if_pos rfl]; exact congrArg some hP.1
  · rw [if_neg (by decide), if_pos rfl]; exact congrArg some hP.2.1
theorem count7 (τ : SS) : fX7_count τ (7 : Int32) = some (gI τ 1 8) := by
  unfold fX7_count
  rw [if_neg (by decide), if_neg (by decide), if_neg (by decide), if_neg (by decide), if_neg (by decide), if_neg (by decide), if_neg (by decide), if_pos rfl]
/-- the darkness of all dots -/
def sumF (W H : Nat) (d : Nat → Int32) : Int32 := itr (fun i n => if d i < 0 then n else n + d i) 0 (W * H)
theorem sumF_congr {d d' : Nat → Int32} (h : ∀ k, k < W * H → d k = d' k) : sumF W H d = sumF W H d' := itr_congr fun i hi n => by rw [h i hi]
theorem count10 (hP : Pc W H F τ) (hW : W ≤ 40) (hH : H ≤ 40) : fX7_count τ (10 : Int32) = some (sumF W H (gI τ (sO τ + 1))) := by
  unfold fX7_count
  rw [if_neg (by decide), if_neg (by decide), if_neg (by decide), if_neg (by decide), if_neg (by decide), if_neg (by decide), if_neg (by decide), if_neg (by decide), if_neg (by decide), if_neg (by decide), if_pos rfl, show gR τ 1 2 = sO τ from rfl, bnd1_of _ (sumNotBelow_eq hW hH hP.1 hP.2.1 0)]
  rfl
theorem sumF_nn {d : Nat → Int32} (h : ∀ k, k < W * H → inR (d k) 0 9) (hW : W ≤ 40) (hH : H ≤ 40) : ∃ n, n ≤ 14400 ∧ sumF W H d = nI n := by
  have ha := area_le hW hH
  have key : ∀ N, N ≤ W * H → ∃ n, n ≤ 9 * N ∧ itr (fun i n => if d i < 0 then n else n + d i) (0 : Int32) N = nI n := by
    intro N
    induction N with
    | zero => intro _; exact ⟨0, by omega, rfl⟩
    | succ i ih =>
      intro hi
      obtain ⟨n, h1, h2⟩ := ih (by omega)
      obtain ⟨m, m1, m2⟩ := rng_nat (h i (by omega))
      have hr := h i (by omega)
      refine ⟨n + m, by omega, ?_⟩
      show (if d i < 0 then _ else _) = _
      rw [h2, if_neg (by rw [lt_i]; have := hr.1; simp; omega), m2, nI_add]
  obtain ⟨n, h1, h2⟩ := key (W * H) (Nat.le_refl _)
  exact ⟨n, by omega, h2⟩
theorem nsN_nn {w q X : Nat} {d : Nat → Int32} : ∀ i, ∃ n, n ≤ i ∧ nsN w q X d i = nI n
  | 0 => ⟨0, Nat.le_refl _, rfl⟩
  | i + 1 => by
    obtain ⟨n, h1, h2⟩ := nsN_nn (w := w) (q := q) (X := X) (d := d) i
    unfold nsN
    split
    · exact ⟨n, by omega, h2⟩
    · exact ⟨n + 1, by omega, by rw [h2, nI_1]⟩
theorem noise_s (hs : sO τ = 3 ∨ sO τ = 6) (hP : Pc W H F τ) (hW : 8 ≤ W ∧ W ≤ 40) (hH : 8 ≤ H ∧ H ≤ 40) (hF : ∀ x y, x < W → y < H → inR (F x y) 0 9) {X K : Nat} (hX : gI τ 1 8 = nI X) (hX2 : X < 65536) (hK : K ≤ 500) :
    WP (fX7_noise τ (nI K)) (fun r => r.1 = nsN W H X (gI τ (sO τ + 1)) K ∧ gR r.2 = gR τ ∧ gI r.2 1 8 = nI (nsS X K) ∧ gI r.2 (sO τ + 1) = nsD W H X (gI τ (sO τ + 1)) K ∧ ∀ c k, c ≠ sO τ + 1 → ¬ (c = 1 ∧ k = 8) → gI r.2 c k = gI τ c k) := by
  unfold fX7_noise
  simp only [lt_i, le_i, Int32.reduceToInt, nI_toInt (show K < 2 ^ 31 by omega)]
  rw [if_neg (by omega), if_pos (by omega)]
  refine noise7 hs rfl (by omega) (by omega) hP.1 hP.2.1 hX hX2 (fun k hk => ?_) hK
  have m1 : k % W < W := Nat.mod_lt _ (by omega)
  have m2 : k / W < H := Nat.div_lt_of_lt_mul hk
  have e := hP.2.2 _ _ m1 m2
  rw [Nat.mul_comm, Nat.div_add_mod] at e
  rw [e]; exact hF _ _ m1 m2
end STEPS
