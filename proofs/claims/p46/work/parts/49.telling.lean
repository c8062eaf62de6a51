/-! 49: the law tells the text. -/
def pq (B : Nat → Nat) (b : Nat) : Nat → Nat
  | 0 => 0
  | c + 1 => pq B b c * 256 + B (b + c)
section PACK
variable {B : Nat → Nat}
theorem pq_lt (hB : ∀ j, B j < 128) (b : Nat) : pq B b 1 < 128 ∧ pq B b 2 < 32768 ∧ pq B b 3 < 8388608 ∧ pq B b 4 < 2147483648 := by
  have h0 := hB (b + 0)
  have h1 := hB (b + 1)
  have h2 := hB (b + 2)
  have h3 := hB (b + 3)
  have e1 : pq B b 1 = 0 * 256 + B (b + 0) := rfl
  have e2 : pq B b 2 = pq B b 1 * 256 + B (b + 1) := rfl
  have e3 : pq B b 3 = pq B b 2 * 256 + B (b + 2) := rfl
  have e4 : pq B b 4 = pq B b 3 * 256 + B (b + 3) := rfl
  omega
theorem pq_s (hB : ∀ j, B j < 128) (b : Nat) {c : Nat} (hc : c < 4) : pq B b c < 8388608 := by
  obtain ⟨h1, h2, h3, h4⟩ := pq_lt hB b
  rcases (show c = 0 ∨ c = 1 ∨ c = 2 ∨ c = 3 by omega) with rfl | rfl | rfl | rfl
  · show 0 < _; decide
  · omega
  · omega
  · exact h3
theorem or_nI {N c : Nat} (hN : N < 8388608) (hc : c < 256) : (nI N <<< ((8 : Int32) &&& 31)) ||| nI c = nI (N * 256 + c) := by
  have e : nI N <<< ((8 : Int32) &&& 31) = nI (N * 256) := pk_shlN _ 8 (by decide) (by omega)
  rw [e]
  have e2 : N * 256 + c = N * 256 ||| c := by
    have := Nat.shiftLeft_add_eq_or_of_lt (show c < 2 ^ 8 by omega) N
    rw [Nat.shiftLeft_eq] at this
    exact this
  rw [e2]
  apply Int32.toBitVec_inj.mp
  apply BitVec.eq_of_toNat_eq
  show (BitVec.ofNat 32 (N * 256) ||| BitVec.ofNat 32 c).toNat = (BitVec.ofNat 32 (N * 256 ||| c)).toNat
  rw [BitVec.toNat_or, BitVec.toNat_ofNat, BitVec.toNat_ofNat, BitVec.toNat_ofNat, ← e2, Nat.mod_eq_of_lt (show N * 256 < 2 ^ 32 by omega), Nat.mod_eq_of_lt (show c < 2 ^ 32 by omega), Nat.mod_eq_of_lt (show N * 256 + c < 2 ^ 32 by omega), e2]
theorem b7_at (hB : ∀ j, B j < 128) (b : Nat) {i : Nat} (hi : i < 4) : b7 (nI (pq B b 4)) i = nI (B (b + i)) := by
  have h0 := hB (b + 0)
  have h1 := hB (b + 1)
  have h2 := hB (b + 2)
  have h3 := hB (b + 3)
  have h4 := (pq_lt hB b).2.2.2
  have e4 : pq B b 4 = (((0 * 256 + B (b + 0)) * 256 + B (b + 1)) * 256 + B (b + 2)) * 256 + B (b + 3) := rfl
  unfold b7
  have key : ∀ k, ((x7 i &&& 31).toBitVec.smod 32).toNat = k → (nI (pq B b 4) >>> (x7 i &&& 31)) &&& (255 : Int32) = nI (pq B b 4 / 2 ^ k % 2 ^ 8) := fun k hk => by
    rw [pk_shrN h4 _ k hk]
    exact pk_andN (Nat.lt_of_le_of_lt (Nat.div_le_self _ _) (by omega)) 8 (by decide)
  rcases (show i = 0 ∨ i = 1 ∨ i = 2 ∨ i = 3 by omega) with rfl | rfl | rfl | rfl
  · rw [key 24 (by decide), e4]; exact congrArg nI (by omega)
  · rw [key 16 (by decide), e4]; exact congrArg nI (by omega)
  · rw [key 8 (by decide), e4]; exact congrArg nI (by omega)
  · rw [key 0 (by decide), e4]; exact congrArg nI (by omega)
end PACK
section TELLS
variable {B : Nat → Nat} {σ τ τ0 : SS} {ct n : Nat} {T : Nat → Nat}
/-- on the tape up to M -/
def Tp (B : Nat → Nat) (b M : Nat) (σ τ : SS) (L : Nat) : Prop := gR τ = gR σ ∧ gI τ 1 1 = nI (M + L) ∧ (∀ j, j < L → gI τ 2 (M + j) = nI (B (b + j))) ∧ ∀ c k, ¬ (c = 1 ∧ k = 1) → ¬ (c = 2 ∧ M ≤ k) → gI τ c k = gI σ c k
theorem Tp.put {b M L : Nat} (hB : ∀ j, B j < 128) (h : Tp B b M σ τ L) (hM : M + L + 4 ≤ 480) : ∃ τ', fX7_putOnTape τ (nI (pq B (b + L) 4)) = some τ' ∧ Tp B b M σ τ' (L + 4) := by
  obtain ⟨h1, h2, h3, h4⟩ := h
  refine ⟨_, put4 h2 hM, (y7_R _ _ _ 4).trans h1, y7_1 h2 4, fun j hj => ?_, fun c k c1 c2 => ?_⟩
  · rw [y7_c 4]
    by_cases c : j < L
    · rw [if_neg (by omega)]; exact h3 j c
    · rw [if_pos (by omega), show M + j - (M + L) = j - L by omega, b7_at hB _ (by omega), show b + L + (j - L) = b + j by omega]
  · by_cases e2 : c = 2
    · rw [e2, y7_c 4, if_neg (by omega)]
      exact h4 2 k (by omega) (by omega)
    · rw [y7_o c1 e2 4]; exact h4 c k c1 c2
theorem feed_s {b M : Nat} (hB : ∀ j, B j < 128) (hM : gI σ 1 1 = nI M) (hM2 : M + 20 ≤ 480) : WP (fX7_feed σ (nI (pq B b 4)) (nI (pq B (b + 4) 4)) (nI (pq B (b + 8) 4)) (nI (pq B (b + 12) 4)) (nI (pq B (b + 16) 4))) (fun r => Tp B b M σ r.2 20) := by
  have t0 : Tp B b M σ σ 0 := ⟨rfl, hM, fun j hj => absurd hj (Nat.not_lt_zero _), fun _ _ _ _ => rfl⟩
  obtain ⟨s1, q1, t1⟩ := t0.put hB (by omega)
  obtain ⟨s2, q2, t2⟩ := t1.put hB (by omega)
  obtain ⟨s3, q3, t3⟩ := t2.put hB (by omega)
  obtain ⟨s4, q4, t4⟩ := t3.put hB (by omega)
  obtain ⟨s5, q5, t5⟩ := t4.put hB (by omega)
  unfold fX7_feed
  rw [hM, show (20 : Int32) = nI 20 from rfl, nI_add, if_pos (by rw [show (480 : Int32) = nI 480 from rfl, lenN (by omega) (by omega)]; exact hM2)]
  have q1 : fX7_putOnTape σ (nI (pq B b 4)) = some s1 := q1
  have q2 : fX7_putOnTape s1 (nI (pq B (b + 4) 4)) = some s2 := q2
  have q3 : fX7_putOnTape s2 (nI (pq B (b + 8) 4)) = some s3 := q3
  have q4 : fX7_putOnTape s3 (nI (pq B (b + 12) 4)) = some s4 := q4
  have q5 : fX7_putOnTape s4 (nI (pq B (b + 16) 4)) = some s5 := q5
  rw [bnd1_of _ q1, bnd1_of _ q2, bnd1_of _ q3, bnd1_of _ q4, bnd1_of _ q5]
  exact ⟨_, rfl, t5⟩
theorem four_q : ∀ i, i < 20 → nI i / (4 : Int32) = nI (i / 4) := by decide +kernel
/-- twenty signs are packed -/
theorem pack_s {c3 k0 : Nat} {k88 : SS → Option SS} {Z : SS → Prop} (hB : ∀ j, B j < 128) (hBT : ∀ j, B j = if j < n then T j else 0) (hvt : lav τ ct = true) (hlt : gR τ ct 0 = 600) (hv3 : lav τ c3 = true) (hl3 : gR τ c3 0 = 5) (hne : c3 ≠ ct) (hn : n ≤ 400) (hk0 : k0 ≤ 400) (hT : Tx ct τ T n) (hz : ∀ k, k < 5 → gI τ c3 k = 0)
    (hk : ∀ τ', gR τ' = gR τ → (∀ c k, c ≠ c3 → gI τ' c k = gI τ c k) → (∀ m, m < 5 → gI τ' c3 m = nI (pq B (k0 + 4 * m) 4)) → WP (k88 τ') Z) : WP (L_tell_L35 ct (nI n) (nI k0) c3 k88 fuel (0 : Int32) τ) Z := by
  unfold L_tell_L35
  refine wf_2 20 (fun i a t => a = nI i ∧ gR t = gR τ ∧ (∀ c k, c ≠ c3 → gI t c k = gI τ c k) ∧ ∀ m, m < 5 → gI t c3 m = nI (pq B (k0 + 4 * m) (min (i - 4 * m) 4))) ⟨rfl, rfl, fun _ _ _ => rfl, fun m hm => by rw [hz m hm, show 0 - 4 * m = 0 by omega]; rfl⟩ (by decide) (fun i a t rec hi hI ih => ?_) (fun a t rec hI => ?_)
  · obtain ⟨rfl, h1, h2, h3⟩ := hI
    rw [if_neg (c := (20 : Int32) ≤ nI i) (nI_ge hi (by decide)), four_q i hi, nI_clamp (by omega), nI_add, nI_clamp (by omega)]
    refine wp_grd (lin_of (n := 5) (by unfold lav at *; rw [h1]; exact hv3) (by rw [h1]; exact hl3) (by omega) (by decide)) ?_
    have hb := hB (k0 + i)
    refine wp_vk1 (fun s => s = nI (B (k0 + i))) (fun s15 e15 => ?_) (fun j hj => ?_)
    · subst e15
      have hw := h3 (i / 4) (by omega)
      have hmin : min (i - 4 * (i / 4)) 4 = i % 4 := by omega
      rw [hmin] at hw
      have hp := pq_s hB (k0 + 4 * (i / 4)) (show i % 4 < 4 by omega)
      have e2 : k0 + 4 * (i / 4) + i % 4 = k0 + i := by omega
      have e3 : pq B (k0 + 4 * (i / 4)) (i % 4) * 256 + B (k0 + i) = pq B (k0 + 4 * (i / 4)) (i % 4 + 1) := by
        show _ = pq B (k0 + 4 * (i / 4)) (i % 4) * 256 + B (k0 + 4 * (i / 4) + i % 4)
        rw [e2]
      rw [hw, or_nI hp (by omega), e3, nI_1]
      refine wp_v (ih _ _ ⟨rfl, h1, fun c k hc => by rw [gI_ne hc]; exact h2 c k hc, fun m hm => ?_⟩)
      by_cases em : m = i / 4
      · subst em
        rw [gI_eq, show min (i + 1 - 4 * (i / 4)) 4 = i % 4 + 1 by omega]
      · rw [gI_nk (by omega), h3 m hm, show min (i + 1 - 4 * m) 4 = min (i - 4 * m) 4 by omega]
    · by_cases c : n ≤ k0 + i
      · rw [if_pos (by rw [lenN (by omega) (by omega)]; exact c)]
        exact hj _ (by rw [hBT, if_neg (by omega)]; rfl)
      · rw [if_neg (by rw [lenN (by omega) (by omega)]; exact c)]
        have hx := hT (k0 + i) (by omega)
        refine wp_grd (lin_of (n := 600) (by unfold lav at *; rw [h1]; exact hvt) (by rw [h1]; exact hlt) (by omega) (by decide)) (hj _ ?_)
        rw [h2 _ _ (by omega), hx.1, hBT, if_pos (by omega)]
        have e5 := pk_andN (n := T (k0 + i)) (by omega) (m := (255 : Int32)) 8 (by decide)
        rw [e5, Nat.mod_eq_of_lt (by omega)]
  · obtain ⟨rfl, h1, h2, h3⟩ := hI
    rw [if_pos (by decide)]
    refine hk t h1 h2 fun m hm => ?_
    rw [h3 m hm, show min (20 - 4 * m) 4 = 4 by omega]
/-- the text is told -/
theorem tell_s (hvt : lav τ0 ct = true) (hlt : gR τ0 ct 0 = 600) (hn : n ≤ 400) (hT : Tx ct τ0 T n) (h0 : gI τ0 1 1 = nI 0) : WP (fL_tell τ0 ct (nI n)) (fun r => (∃ M, n ≤ M ∧ M ≤ 480 ∧ gI r 1 1 = nI M) ∧ (∀ j, j < n → gI r 2 j = nI (T j)) ∧ (∀ c k, c ≠ 0 → c < 2000 + gR τ0 0 0 → gR r c k = gR τ0 c k) ∧ (∀ c k, c < 2000 + gR τ0 0 0 → ¬ (c = 1 ∧ k = 1) → c ≠ 2 → gI r c k = gI τ0 c k) ∧ gR τ0 0 0 ≤ gR r 0 0) := by
  have gt : 2000 ≤ ct ∧ ct < 2000 + gR τ0 0 0 := of_decide_eq_true hvt
  have hBT : ∀ j, (fun j => if j < n then T j else 0) j = if j < n then T j else 0 := fun j => rfl
  have hB : ∀ j, (fun j => if j < n then T j else 0) j < 128 := fun j => by
    dsimp only
    by_cases c : j < n
    · rw [if_pos c]; exact (hT j c).2
    · rw [if_neg c]; decide
  generalize (fun j => if j < n then T j else 0) = B at hBT hB
  unfold fL_tell L_tell_L2
  refine wf_2 ((n + 19) / 20) (fun i a t => a = nI (20 * i) ∧ gI t 1 1 = nI (20 * i) ∧ (∀ j, j < 20 * i → gI t 2 j = nI (B j)) ∧ (∀ c k, c ≠ 0 → c < 2000 + gR τ0 0 0 → gR t c k = gR τ0 c k) ∧ (∀ c k, c < 2000 + gR τ0 0 0 → ¬ (c = 1 ∧ k = 1) → c ≠ 2 → gI t c k = gI τ0 c k) ∧ gR τ0 0 0 ≤ gR t 0 0) ⟨rfl, h0, fun j hj => absurd hj (Nat.not_lt_zero _), fun _ _ _ _ => rfl, fun _ _ _ _ _ => rfl, Nat.le_refl _⟩ (by omega) (fun i a t rec hi hI ih => ?_) (fun a t rec hI => ?_)
  · obtain ⟨rfl, h1, h2, h3, h4, h5⟩ := hI
    refine wp_grd (inb_nI (by omega) (by decide)) ?_
    rw [if_neg (nI_ge (by omega) (by omega))]
    refine wp_grd (inb_nI (by omega) (by decide)) (wp_v (wp_v ?_))
    have mv : lav (mkL t 5) (2000 + gR t 0 0) = true := lav_mk t 5
    have ml : gR (mkL t 5) (2000 + gR t 0 0) 0 = 5 := by rw [gR_mkL, if_neg (by omega), if_pos rfl]
    have mI : ∀ c k, c ≠ 2000 + gR t 0 0 → gI (mkL t 5) c k = gI t c k := fun c k h => by rw [gI_mkL, if_neg h]
    have mR : ∀ c k, c ≠ 0 → c < 2000 + gR τ0 0 0 → gR (mkL t 5) c k = gR τ0 c k := fun c k c1 c2 => by rw [gR_mkL, if_neg c1, if_neg (by omega)]; exact h3 c k c1 c2
    have m0 : gR (mkL t 5) 0 0 = gR t 0 0 + 1 := by rw [gR_mkL, if_pos rfl, if_pos rfl]
    generalize ec : 2000 + gR t 0 0 = c3 at mv ml mI
    generalize mkL t 5 = t2 at mv ml mI mR m0
    have l2 : ∀ (t' : SS) (k : Nat), gR t' = gR t2 → k < 5 → lin t' c3 (nI k) = true := fun t' k h hk => lin_of (n := 5) (by unfold lav at *; rw [h]; exact mv) (by rw [h]; exact ml) hk (by decide)
    refine wp_grd (l2 t2 0 rfl (by decide)) (wp_v (wp_grd (l2 (sI t2 c3 0 0) 1 rfl (by decide)) (wp_v (wp_grd (l2 (sI (sI t2 c3 0 0) c3 1 0) 2 rfl (by decide)) (wp_v (wp_grd (l2 (sI (sI (sI t2 c3 0 0) c3 1 0) c3 2 0) 3 rfl (by decide)) (wp_v (wp_grd (l2 (sI (sI (sI (sI t2 c3 0 0) c3 1 0) c3 2 0) c3 3 0) 4 rfl (by decide)) (wp_v ?_)))))))))
    have z13 : ∀ k, k < 5 → gI (sI (sI (sI (sI (sI t2 c3 0 0) c3 1 0) c3 2 0) c3 3 0) c3 4 0) c3 k = 0 := fun k hk => by
      rcases (show k = 0 ∨ k = 1 ∨ k = 2 ∨ k = 3 ∨ k = 4 by omega) with rfl | rfl | rfl | rfl | rfl
      · rw [gI_nk (by omega), gI_nk (by omega), gI_nk (by omega), gI_nk (by omega), gI_eq]
      · rw [gI_nk (by omega), gI_nk (by omega), gI_nk (by omega), gI_eq]
      · rw [gI_nk (by omega), gI_nk (by omega), gI_eq]
      · rw [gI_nk (by omega), gI_eq]
      · rw [gI_eq]
    have o13 : ∀ c k, c ≠ c3 → gI (sI (sI (sI (sI (sI t2 c3 0 0) c3 1 0) c3 2 0) c3 3 0) c3 4 0) c k = gI t c k := fun c k h => by rw [gI_ne h, gI_ne h, gI_ne h, gI_ne h, gI_ne h]; exact mI c k h
    have r13 : gR (sI (sI (sI (sI (sI t2 c3 0 0) c3 1 0) c3 2 0) c3 3 0) c3 4 0) = gR t2 := rfl
    generalize sI (sI (sI (sI (sI t2 c3 0 0) c3 1 0) c3 2 0) c3 3 0) c3 4 0 = t13 at z13 o13 r13
    refine pack_s (τ := t13) (T := T) hB hBT (decide_eq_true ⟨gt.1, by rw [r13, m0]; omega⟩) (by rw [r13, mR _ _ (by omega) gt.2]; exact hlt) (by unfold lav at *; rw [r13]; exact mv) (by rw [r13]; exact ml) (by omega) hn (by omega) (hT.kn fun k => by rw [o13 _ _ (by omega)]; exact h4 _ _ gt.2 (by omega) (by omega)) z13 fun t18 r18 o18 w18 => ?_
    have r18' : gR t18 = gR t2 := r18.trans r13
    have w0 := w18 0 (by decide)
    have w1 := w18 1 (by decide)
    have w2 := w18 2 (by decide)
    have w3 := w18 3 (by decide)
    have w4 := w18 4 (by decide)
    refine wp_grd (l2 t18 0 r18' (by decide)) (wp_grd (l2 t18 1 r18' (by decide)) (wp_grd (l2 t18 2 r18' (by decide)) (wp_grd (l2 t18 3 r18' (by decide)) (wp_grd (l2 t18 4 r18' (by decide)) ?_))))
    rw [w0, w1, w2, w3, w4]
    refine wp_bndp (feed_s (b := 20 * i) (M := 20 * i) hB (by rw [o18 _ _ (by omega), o13 _ _ (by omega)]; exact h1) (by omega)) fun v24 t27 ht => ?_
    obtain ⟨k1, k2, k3, k4⟩ := ht
    have k1 : gR t27 = gR t18 := k1
    have k2 : gI t27 1 1 = nI (20 * i + 20) := k2
    have k3 : ∀ j, j < 20 → gI t27 2 (20 * i + j) = nI (B (20 * i + j)) := k3
    have k4 : ∀ c k, ¬ (c = 1 ∧ k = 1) → ¬ (c = 2 ∧ 20 * i ≤ k) → gI t27 c k = gI t18 c k := k4
    rw [show (20 : Int32) = nI 20 from rfl, nI_add]
    refine ih _ _ ⟨congrArg nI (by omega), by rw [k2]; exact congrArg nI (by omega), fun j hj => ?_, fun c k c1 c2 => ?_, fun c k c1 c2 c4 => ?_, by rw [k1, r18', m0]; omega⟩
    · by_cases c : j < 20 * i
      · rw [k4 _ _ (by omega) (by omega), o18 _ _ (by omega), o13 _ _ (by omega)]; exact h2 j c
      · have := k3 (j - 20 * i) (by omega)
        rw [show 20 * i + (j - 20 * i) = j by omega] at this
        exact this
    · rw [k1, r18']; exact mR c k c1 c2
    · rw [k4 _ _ c2 (by omega), o18 _ _ (by omega), o13 _ _ (by omega)]; exact h4 c k c1 c2 c4
  · obtain ⟨rfl, h1, h2, h3, h4, h5⟩ := hI
    refine wp_grd (inb_nI (by omega) (by decide)) ?_
    rw [if_pos (nI_le (by omega) (by omega))]
    refine ⟨_, rfl, ⟨20 * ((n + 19) / 20), by omega, by omega, h1⟩, fun j hj => ?_, h3, h4, h5⟩
    rw [h2 j (by omega), hBT j, if_pos hj]
end TELLS
