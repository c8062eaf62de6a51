/-! 47: the law draws the questions: one closed. -/
def Wc7 (cw : Nat) (L : List Nat) (τ : SS) : Prop := lav τ cw = true ∧ gR τ cw 0 = L.length ∧ L.length ≤ 6 ∧ ∀ k, k < L.length → gI τ cw k = nI (L.getD k 0) ∧ L.getD k 0 < 128
def IlQ (ii : Nat) (d : Nat → Nat → Nat) (q : Nat) (τ : SS) : Prop := (gI τ ii 1 = nI (d 0 2) ∧ gI τ ii 2 = nI (d 0 3)) ∧ ∀ p, p < q → gI τ ii (16 + 16 * p) = nI (1 + d 6 p) ∧ gI τ ii (17 + 16 * p) = nI (d 1 p) ∧ gI τ ii (18 + 16 * p) = nI (d 4 p) ∧ gI τ ii (19 + 16 * p) = nI (d 5 p) ∧ ∀ b, b < d 1 p → gI τ ii (20 + 16 * p + 2 * b) = nI (d 2 (psum (d 1) p + b)) ∧ gI τ ii (21 + 16 * p + 2 * b) = nI (d 3 (psum (d 1) p + b))
def Vq (d : Nat → Nat → Nat) (q : Nat) : Prop := ∀ p, p < q → (1 ≤ d 1 p ∧ d 1 p ≤ 5) ∧ d 4 p < 2 ^ d 1 p ∧ d 5 p ≤ 9 ∧ d 6 p ≤ 1
/-- the text of q questions -/
def Tq (d : Nat → Nat → Nat) (T E : Nat → Nat) (q e : Nat) : Prop := Hd T d (E 0) ∧ (∀ p, p < q → Qt T d p (E p) (E (p + 1))) ∧ E q = e ∧ (∀ p, p ≤ q → E p ≤ e)
/-- the data with a question closed -/
def dQ (d : Nat → Nat → Nat) (q m K w kd : Nat) (r p : Nat) : Nat := if p = q ∧ r = 1 then m else if p = q ∧ r = 4 then K else if p = q ∧ r = 5 then w else if p = q ∧ r = 6 then kd else d r p
section CLOSING
variable {ii ct q m K w kd : Nat} {d d1 : Nat → Nat → Nat} {T T6 E P R : Nat → Nat} {e e2 e3 e4 : Nat} {σ σ' : SS}
theorem dQ_o {r p : Nat} (h : p ≠ q ∨ r = 0 ∨ r = 2 ∨ r = 3) : dQ d q m K w kd r p = d r p := by
  unfold dQ
  rw [if_neg (by omega), if_neg (by omega), if_neg (by omega), if_neg (by omega)]
theorem dQ_1 : dQ d q m K w kd 1 q = m ∧ dQ d q m K w kd 4 q = K ∧ dQ d q m K w kd 5 q = w ∧ dQ d q m K w kd 6 q = kd := by
  unfold dQ
  refine ⟨if_pos ⟨rfl, rfl⟩, ?_, ?_, ?_⟩
  · rw [if_neg (by omega), if_pos ⟨rfl, rfl⟩]
  · rw [if_neg (by omega), if_neg (by omega), if_pos ⟨rfl, rfl⟩]
  · rw [if_neg (by omega), if_neg (by omega), if_neg (by omega), if_pos ⟨rfl, rfl⟩]
theorem dQ_ps {p : Nat} (hp : p ≤ q) : psum (dQ d q m K w kd 1) p = psum (d 1) p := psum_c p fun p' hp' => dQ_o (Or.inl (by omega))
theorem dQ_pq : psum (dQ d q m K w kd 1) (q + 1) = psum (d 1) q + m := by
  show psum (dQ d q m K w kd 1) q + dQ d q m K w kd 1 q = _
  rw [dQ_ps (Nat.le_refl _), dQ_1.1]
theorem dQ_23 (k : Nat) : dQ d q m K w kd 2 k = d 2 k ∧ dQ d q m K w kd 3 k = d 3 k := ⟨dQ_o (Or.inr (Or.inr (Or.inl rfl))), dQ_o (Or.inr (Or.inr (Or.inr rfl)))⟩
theorem dQ_0 (k : Nat) : dQ d q m K w kd 0 k = d 0 k := dQ_o (Or.inr (Or.inl rfl))
theorem Wc7.fr {cw : Nat} {L : List Nat} {τ τ' : SS} (h : Wc7 cw L τ) (hR : gR τ' = gR τ) (hI : ∀ k, gI τ' cw k = gI τ cw k) : Wc7 cw L τ' := by
  obtain ⟨h1, h2, h3, h4⟩ := h
  exact ⟨by unfold lav at *; rw [hR]; exact h1, by rw [hR]; exact h2, h3, fun k hk => by rw [hI]; exact h4 k hk⟩
theorem putw_s {cw e : Nat} {L : List Nat} {τ : SS} {T : Nat → Nat} (hvt : lav τ ct = true) (hlt : gR τ ct 0 = 600) (hw : Wc7 cw L τ) (hne : cw ≠ ct) (he : e + 6 ≤ 600) (hT : Tx ct τ T e) : WP (fL_put τ ct (nI e) cw) (fun r => r.1 = nI (e + L.length) ∧ Wr ct e τ r.2 ∧ ∃ T', Ar T T' e ∧ Tx ct r.2 T' (e + L.length) ∧ ∀ k, k < L.length → T' (e + k) = L.getD k 0) := by
  obtain ⟨h1, h2, h3, h4⟩ := hw
  refine wp_imp (put_s hvt hlt h1 h2 hne h3 (by omega) (fun k hk => ⟨_, (h4 k hk).2, (h4 k hk).1⟩) hT) fun r hr => ?_
  obtain ⟨r1, r2, T', r3, r4, r5⟩ := hr
  exact ⟨r1, r2, T', r3, r4, fun k hk => r5 k _ hk (h4 k hk).2 (h4 k hk).1⟩
theorem IlQ.of (h : Il ii d q m σ) : IlQ ii d q σ := ⟨h.1, h.2.1⟩
/-- the law's numbers of a question closed -/
theorem IlQ.close (hN : ∀ p, p < q → d 1 p ≤ 5) (h : Il ii d q m σ) (hm : m ≤ 5) (g : ∀ k, k ≠ 18 + 16 * q → gI σ' ii k = gI σ ii k) (g16 : gI σ ii (16 + 16 * q) = nI (1 + kd)) (g18 : gI σ' ii (18 + 16 * q) = nI K) (g19 : gI σ ii (19 + 16 * q) = nI w) : IlQ ii (dQ d q m K w kd) (q + 1) σ' := by
  obtain ⟨⟨h1, h2⟩, h3, h4, h5⟩ := h
  obtain ⟨y1, y4, y5, y6⟩ := dQ_1 (d := d) (q := q) (m := m) (K := K) (w := w) (kd := kd)
  refine ⟨⟨?_, ?_⟩, fun p hp => ?_⟩
  · rw [dQ_0, g _ (by omega)]; exact h1
  · rw [dQ_0, g _ (by omega)]; exact h2
  · by_cases ep : p = q
    · rw [ep, y1, y4, y5, y6, dQ_ps (Nat.le_refl _), g (16 + 16 * q) (by omega), g (17 + 16 * q) (by omega), g (19 + 16 * q) (by omega)]
      refine ⟨g16, h4, g18, g19, fun b hb => ?_⟩
      rw [g _ (by omega), g _ (by omega), (dQ_23 _).1, (dQ_23 _).2]
      exact h5 b hb
    · have hpq : p < q := by omega
      obtain ⟨z1, z2, z3, z4, z5⟩ := h3 p hpq
      have hN5 := hN p hpq
      rw [dQ_o (Or.inl ep), dQ_o (Or.inl ep), dQ_o (Or.inl ep), dQ_o (Or.inl ep), dQ_ps (show p ≤ q by omega), g _ (by omega), g _ (by omega), g _ (by omega), g _ (by omega)]
      refine ⟨z1, z2, z3, z4, fun b hb => ?_⟩
      rw [g _ (by omega), g _ (by omega), (dQ_23 _).1, (dQ_23 _).2]
      exact z5 b hb
/-- its text -/
theorem Tq.close {o : Nat} (h : Tq d T E q e) (hVq : Vq d q) (hDA : DA d d1 (psum (d 1) q)) (B0 : Ar T T6 e) (ho : (kd = 0 ∧ o = 3) ∨ (kd = 1 ∧ o = 2)) (wd : Wd T6 e o) (hP : Pls T6 d1 q m P) (hP0 : P 0 = e + (wL o).length) (hPm : P m = e2) (hPe : ∀ i, i ≤ m → P i ≤ e2) (l3 : e2 ≤ e3) (hee : e ≤ e2) (hR : (K = 0 ∧ e3 = e2) ∨ (K ≠ 0 ∧ T6 e2 = 32 ∧ Wd T6 (e2 + 1) 4 ∧ R 0 = e2 + 4 ∧ Kys T6 K m R ∧ e3 = R m)) (h32 : T6 e3 = 32) (h5 : Wd T6 (e3 + 1) 5) (hw : Nm T6 (e3 + 6) w e4) (h59 : T6 e4 = 59) : Tq (dQ d1 q m K w kd) T6 (fun p => if p ≤ q then E p else e4 + 1) (q + 1) (e4 + 1) := by
  obtain ⟨hHd, hQt, hEq, hEe⟩ := h
  obtain ⟨y1, y4, y5, y6⟩ := dQ_1 (d := d1) (q := q) (m := m) (K := K) (w := w) (kd := kd)
  have d1e := hDA.one
  have hl4 := hw.lt
  refine ⟨?_, fun p hp => ?_, ?_, fun p hp => ?_⟩
  · dsimp only
    rw [if_pos (Nat.zero_le _)]
    exact hHd.cg B0 (hEe 0 (Nat.zero_le _)) fun k => (dQ_0 k).trans (hDA.1 0 k (by decide) (by decide))
  · dsimp only
    by_cases ep : p = q
    · rw [ep, if_pos (Nat.le_refl _), if_neg (by omega), hEq]
      refine ⟨P, R, e3, e4, ?_, ?_, ?_, ?_, h32, h5, ?_, h59, rfl⟩
      · rw [y6, hP0]
        rcases ho with ⟨o1, o2⟩ | ⟨o1, o2⟩
        · exact Or.inl ⟨o1, by rw [← o2]; exact wd, by rw [o2]; rfl⟩
        · exact Or.inr ⟨o1, by rw [← o2]; exact wd, by rw [o2]; rfl⟩
      · rw [y1]; exact hP.cg2 (fun _ _ => rfl) hPe (dQ_ps (Nat.le_refl _)) (fun k _ => dQ_23 k)
      · rw [y1]; exact fun i' hi' => Nat.le_trans (hPe i' hi') l3
      · rw [y1, y4, hPm]; exact hR
      · rw [y5]; exact hw
    · have hpq : p < q := by omega
      rw [if_pos (by omega), if_pos (by omega)]
      have hN1 := (hVq p hpq).1
      have hl2 : psum (d 1) p + d 1 p ≤ psum (d 1) q := by
        have := psum_lt (N := d 1) hpq (i := d 1 p - 1) (by omega)
        omega
      refine (hQt p hpq).cg B0 (hEe (p + 1) (by omega)) ?_ (fun r hr => ?_) (fun k hk' => ?_)
      · rw [dQ_ps (by omega), d1e]
      · rw [dQ_o (Or.inl ep)]; exact hDA.1 r p (by omega) (by omega)
      · rw [(dQ_23 k).1, (dQ_23 k).2]
        exact hDA.2 k (by omega)
  · dsimp only; rw [if_neg (by omega)]
  · dsimp only
    by_cases cp : p ≤ q
    · rw [if_pos cp]; have := hEe p cp; omega
    · rw [if_neg cp]; exact Nat.le_refl _
theorem Vq.close (hVq : Vq d q) (hDA : DA d d1 (psum (d 1) q)) (hm : 1 ≤ m ∧ m ≤ 5) (hK : K < 2 ^ m) (hw : w ≤ 9) (hkd : kd ≤ 1) : Vq (dQ d1 q m K w kd) (q + 1) := fun p hp => by
  obtain ⟨y1, y4, y5, y6⟩ := dQ_1 (d := d1) (q := q) (m := m) (K := K) (w := w) (kd := kd)
  by_cases ep : p = q
  · rw [ep, y1, y4, y5, y6]; exact ⟨hm, hK, hw, hkd⟩
  · rw [dQ_o (Or.inl ep), dQ_o (Or.inl ep), dQ_o (Or.inl ep), dQ_o (Or.inl ep), hDA.one, hDA.1 4 p (by decide) (by decide), hDA.1 5 p (by decide) (by decide), hDA.1 6 p (by decide) (by decide)]
    exact hVq p (by omega)
theorem Vb.close (hDA : DA d d1 (psum (d 1) q)) (h : Vb d1 (psum (d 1) q + m)) : Vb (dQ d1 q m K w kd) (psum (dQ d1 q m K w kd 1) (q + 1)) := by
  rw [dQ_pq, hDA.one]
  obtain ⟨v1, v2⟩ := h
  refine ⟨fun k hk' => ?_, fun k k' h1 h2 => ?_⟩
  · rw [(dQ_23 k).1, (dQ_23 k).2, dQ_0, dQ_0, dQ_0, dQ_0]; exact v1 k hk'
  · have := v2 k k' h1 h2
    unfold cv at *
    rw [(dQ_23 k).1, (dQ_23 k).2, (dQ_23 k').1, (dQ_23 k').2, dQ_0, dQ_0]
    exact this
/-- the worth and the end of a question are written -/
theorem close_d {c10 : Nat} {T3 : Nat → Nat} {rec : Int32 → SS → Option (Bool × SS)} {Z : Bool × SS → Prop} (hvi : lav σ ii = true) (hli : gR σ ii 0 = 300) (hvt : lav σ ct = true) (hlt : gR σ ct 0 = 600) (hci : ct ≠ ii) (hq : q < 5) (hw : w ≤ 9) (he3 : e3 ≤ 560) (h10 : Wc7 c10 (32 :: wL 5) σ) (n10 : c10 ≠ ct) (g19 : gI σ ii (19 + 16 * q) = nI w) (X3 : Tx ct σ T3 e3)
    (hk : ∀ T6 e4 σ', Ar T3 T6 e3 → T6 e3 = 32 → Wd T6 (e3 + 1) 5 → Nm T6 (e3 + 6) w e4 → T6 e4 = 59 → Tx ct σ' T6 (e4 + 1) → Wr ct e3 σ σ' → WP (rec (nI (e4 + 1)) σ') Z) :
    WP (bnd (fL_put σ ct (nI e3) c10) fun v191 σ194 =>
        grd (lin σ194 ii (nI (19 + 16 * q))) <|
        bnd (fL_number σ194 ct v191 (gI σ194 ii (19 + 16 * q))) fun v196 σ199 =>
        grd (lin σ199 ct v196) <|
        vthen (sI σ199 ct (Int32.toNatClampNeg v196) (59 : Int32)) fun σ201 =>
        rec (v196 + (1 : Int32)) σ201) Z := by
  refine wp_bndp (putw_s hvt hlt h10 n10 (by omega) X3) fun v191 σ194 ⟨e191, W194, T4, A4, X4, s4⟩ => ?_
  have e191 : v191 = nI (e3 + 6) := e191
  have W194 : Wr ct e3 σ σ194 := W194
  have X4 : Tx ct σ194 T4 (e3 + 6) := X4
  have s4 : ∀ k, k < 6 → T4 (e3 + k) = (32 :: wL 5).getD k 0 := s4
  have c19 : gI σ194 ii (19 + 16 * q) = nI w := by rw [W194.2 _ _ (by omega)]; exact g19
  rw [e191, c19]
  refine wp_grd (lin_of (n := 300) (by unfold lav at *; rw [W194.1]; exact hvi) (by rw [W194.1]; exact hli) (by omega) (by decide)) ?_
  refine wp_bndp (number_s (by unfold lav at *; rw [W194.1]; exact hvt) (by rw [W194.1]; exact hlt) (by omega) (by omega) X4) fun v196 σ199 ⟨e4, e196, l5, l6, W199, T5, A5, X5, N5⟩ => ?_
  have e196 : v196 = nI e4 := e196
  have W199 : Wr ct (e3 + 6) σ194 σ199 := W199
  have X5 : Tx ct σ199 T5 e4 := X5
  have r199 : gR σ199 = gR σ := W199.1.trans W194.1
  rw [e196, nI_clamp (show e4 < 2 ^ 31 by omega), nI_1]
  refine wp_grd (lin_of (n := 600) (by unfold lav at *; rw [r199]; exact hvt) (by rw [r199]; exact hlt) (by omega) (by decide)) (wp_v ?_)
  obtain ⟨W201, T6, A6, X6, s6⟩ := sign_s (c := 59) (by decide) X5
  have B4 : Ar T4 T6 (e3 + 6) := fun j hj => (A6 j (by omega)).trans (A5 j hj)
  refine hk T6 e4 _ (fun j hj => (B4 j (by omega)).trans (A4 j hj)) (by rw [B4 _ (by omega)]; exact s4 0 (by decide)) (fun k hk' => ?_) (N5.cg A6 (Nat.le_refl _)) s6 X6 ((W194.tr (W199.le (by omega))).tr (W201.le (by omega)))
  have hk5 : k < 5 := hk'
  rw [B4 _ (by omega), show e3 + 1 + k = e3 + (k + 1) by omega, s4 (k + 1) (by omega)]
  rfl
/-- the key is written -/
theorem key_d {c9 : Nat} {T2 : Nat → Nat} {j629 : Int32 → SS → Option (Bool × SS)} {Z : Bool × SS → Prop} (hvi : lav σ ii = true) (hli : gR σ ii 0 = 300) (hvt : lav σ ct = true) (hlt : gR σ ct 0 = 600) (hci : ct ≠ ii) (hq : q < 5) (hm : m ≤ 5) (hK : K < 2 ^ m) (he2 : e2 ≤ 490) (h9 : Wc7 c9 (32 :: wL 4) σ) (n9 : c9 ≠ ct) (g17 : gI σ ii (17 + 16 * q) = nI m) (g18 : gI σ ii (18 + 16 * q) = nI K) (X2 : Tx ct σ T2 e2)
    (hj : ∀ e3 T3 R σ', Wr ct e2 σ σ' → Ar T2 T3 e2 → Tx ct σ' T3 e3 → e2 ≤ e3 → e3 ≤ e2 + 14 → ((K = 0 ∧ e3 = e2) ∨ (K ≠ 0 ∧ T3 e2 = 32 ∧ Wd T3 (e2 + 1) 4 ∧ R 0 = e2 + 4 ∧ Kys T3 K m R ∧ e3 = R m)) → WP (j629 (nI e3) σ') Z) :
    WP (if gI σ ii (18 + 16 * q) ≤ 0 then j629 (nI e2) σ else (
        bnd (fL_put σ ct (nI e2) c9) fun v202 σ205 =>
        L_draws_L575 ii ct (nI (16 + 16 * q)) (fun v212 σ213 => j629 v212 σ213) fuel v202 (0 : Int32) σ205)) Z := by
  have hp2 : 2 ^ m ≤ 2 ^ 5 := Nat.pow_le_pow_right (by decide) hm
  have e32 : (2 : Nat) ^ 5 = 32 := rfl
  rw [g18]
  by_cases c : K = 0
  · rw [if_pos (by rw [show (0 : Int32) = nI 0 from rfl, lenN (by omega) (by omega)]; omega)]
    exact hj e2 T2 (fun _ => 0) σ (Wr.rf _ _ _) (fun _ _ => rfl) X2 (Nat.le_refl _) (by omega) (Or.inl ⟨c, rfl⟩)
  · rw [if_neg (by rw [show (0 : Int32) = nI 0 from rfl, lenN (by omega) (by omega)]; omega)]
    refine wp_bndp (putw_s hvt hlt h9 n9 (by omega) X2) fun v202 σ205 ⟨e202, W205, T3, A3, X3, s3⟩ => ?_
    have e202 : v202 = nI (e2 + 4) := e202
    have W205 : Wr ct e2 σ σ205 := W205
    have X3 : Tx ct σ205 T3 (e2 + 4) := X3
    have s3 : ∀ k, k < 4 → T3 (e2 + k) = (32 :: wL 4).getD k 0 := s3
    rw [e202]
    refine letters_d (τ0 := σ205) (K := K) (N := m) (e0 := e2 + 4) (T0 := T3) (by unfold lav at *; rw [W205.1]; exact hvi) (by rw [W205.1]; exact hli) (by unfold lav at *; rw [W205.1]; exact hvt) (by rw [W205.1]; exact hlt) hci hq hm hK (by omega) (by rw [W205.2 _ _ (by omega)]; exact g17) (by rw [W205.2 _ _ (by omega)]; exact g18) X3 fun T4 R e4 σ213 W213 A4 X4 Ky R0 Rm l5 l6 => ?_
    refine hj e4 T4 R σ213 (W205.tr (W213.le (by omega))) (fun j hj' => (A4 j (by omega)).trans (A3 j hj')) X4 (by omega) (by omega) (Or.inr ⟨c, by rw [A4 _ (by omega)]; exact s3 0 (by decide), fun k hk' => ?_, R0, Ky, Rm.symm⟩)
    have hk3 : k < 3 := hk'
    rw [A4 _ (by omega), show e2 + 1 + k = e2 + (k + 1) by omega, s3 (k + 1) (by omega)]
    rfl
end CLOSING
