/-! 53: the law draws a form. -/
/-- what the law's draws may change -/
def Df (rr ii : Nat) (σ τ : SS) : Prop := (∀ c k, c ≠ 0 → c < 2000 + gR σ 0 0 → ¬ (c = 1 ∧ (k = 5 ∨ k = 6)) → gR τ c k = gR σ c k) ∧ (∀ c k, c < 2000 + gR σ 0 0 → c ≠ 2 → c ≠ 26 → c ≠ 27 → c ≠ 30 → c ≠ 58 → ¬ (10 ≤ c ∧ c ≤ 25) → ¬ (c = 1 ∧ k = 1) → c ≠ ii → ¬ (c = rr ∧ k = 0) → gI τ c k = gI σ c k) ∧ gR σ 0 0 ≤ gR τ 0 0
section DRAWS
variable {rr ii U V : Nat} {σ : SS}
theorem Sc.fr {τ : SS} (h : Sc σ) (hR : ∀ k, gR τ 1 k = gR σ 1 k) (h3 : ∀ c k, 3 ≤ c → c ≤ 8 → gI τ c k = gI σ c k) (h32 : ∀ k, gI τ 32 k = gI σ 32 k) : Sc τ ∧ fO τ = fO σ := by
  obtain ⟨⟨s1, s2⟩, ⟨s3, s4⟩, s5, s6, s7, s8, s9, s10⟩ := h
  have es : sO τ = sO σ := hR 2
  have ef : fO τ = fO σ := hR 5
  have ew : wO τ = wO σ := by unfold wO; rw [es, h3 _ _ (by omega) (by omega)]
  have eh : hO τ = hO σ := by unfold hO; rw [es, h3 _ _ (by omega) (by omega)]
  refine ⟨⟨⟨by rw [es]; exact s1, by rw [hR, es]; exact s2⟩, ⟨by rw [ef]; exact s3, by rw [hR, ef]; exact s4⟩, by rw [ew]; exact s5, by rw [eh]; exact s6, by rw [es, ew, h3 _ _ (by omega) (by omega)]; exact s7, by rw [es, eh, h3 _ _ (by omega) (by omega)]; exact s8, fun k hk => ?_, fun k hk => ?_⟩, ef⟩
  · rw [ew, eh] at hk
    rw [es, h3 _ _ (by omega) (by omega)]; exact s9 k hk
  · obtain ⟨n, h1, h2⟩ := s10 k hk
    exact ⟨n, h1, (h32 k).trans h2⟩
/-- what is told is taken -/
theorem taken_d {ct q e : Nat} {d : Nat → Nat → Nat} {T E : Nat → Nat} {τ : SS} {v215 : Int32} (hS : Sc τ) (ht : gI τ 1 1 = nI 0) (hvi : lav τ ii = true) (hli : gR τ ii 0 = 300) (hvr : lav τ rr = true) (hlr : gR τ rr 0 = 1) (hir : ii ≠ rr) (hvt : lav τ ct = true) (hlt : gR τ ct 0 = 600) (hci : ct ≠ ii) (hq : q ≤ 5) (e215 : v215 = nI q)
    (hIl : IlQ ii d q τ) (hT : Tx ct τ T e) (hTq : Tq d T E q e) (he : e ≤ 336) (hU : d 0 0 = U) (hV : d 0 1 = V) (hU2 : 14 ≤ U ∧ U ≤ 33) (hV2 : 14 ≤ V ∧ V ≤ 33) (hA : 1 ≤ d 0 2 ∧ d 0 2 ≤ 3) (hB : 1 ≤ d 0 3 ∧ d 0 3 ≤ 3) (hVq : Vq d q) (hVb : Vb d (psum (d 1) q)) :
    WP (grd (lin τ ii (0 : Int32)) <|
      vthen (sI τ ii 0 v215) fun σ218 =>
      bnd1 (fL_tell σ218 ct (nI e)) fun σ219 =>
      vthen (fun (σ220 : SS) => some (false, σ220)) fun j725 =>
      if (400 : Int32) < nI e then j725 σ219 else (
        bnd (fX7_form σ219 (nI e)) fun v221 σ224 =>
        if v221 = v215 then (
          bnd1 (fX7_count σ224 (2 : Int32)) fun v225 =>
          if v225 = v215 then (
            bnd1 (fX7_count σ224 (8 : Int32)) fun v228 =>
            if v228 = 0 then some (true, σ224) else j725 σ224
            ) else j725 σ224
          ) else j725 σ224)) (fun r => r.1 = true ∧ Sd r.2 ∧ Stg r.2 ∧ uO r.2 = U ∧ vO r.2 = V ∧ gI r.2 1 1 = 0 ∧ (∃ q, q ≤ 5 ∧ gI r.2 ii 0 = nI q ∧ (1 ≤ q → Rq rr ii r.2)) ∧ Df rr ii τ r.2) := by
  have gi : 2000 ≤ ii ∧ ii < 2000 + gR τ 0 0 := of_decide_eq_true hvi
  have gr : 2000 ≤ rr ∧ rr < 2000 + gR τ 0 0 := of_decide_eq_true hvr
  have gt : 2000 ≤ ct ∧ ct < 2000 + gR τ 0 0 := of_decide_eq_true hvt
  subst e215
  refine wp_grd (lin_of (n := 300) (k := 0) hvi hli (by decide) (by decide)) (wp_v ?_)
  have g0 : gI (sI τ ii 0 (nI q)) ii 0 = nI q := gI_eq _ _ _ _
  have go : ∀ c k, ¬ (c = ii ∧ k = 0) → gI (sI τ ii 0 (nI q)) c k = gI τ c k := fun c k h => gI_nk h
  have gR' : gR (sI τ ii 0 (nI q)) = gR τ := rfl
  generalize sI τ ii 0 (nI q) = σ218 at g0 go gR'
  refine wp_bnd1 (tell_s (τ0 := σ218) (ct := ct) (n := e) (T := T) (by unfold lav at *; rw [gR']; exact hvt) (by rw [gR']; exact hlt) (by omega) (hT.kn fun k => go _ _ (by omega)) ((go _ _ (by omega)).trans ht)) fun σ219 ⟨⟨M, m1, m2, m3⟩, tx, fR, fI, f0⟩ => ?_
  rw [gR'] at fR fI f0
  refine wp_v ?_
  rw [if_neg (by rw [show (400 : Int32) = nI 400 from rfl, ltnN (by omega) (by omega)]; omega)]
  obtain ⟨S219, ef⟩ := hS.fr (τ := σ219) (fun k => fR 1 k (by decide) (by omega)) (fun c k c1 c2 => (fI c k (by omega) (by omega) (by omega)).trans (go c k (by omega))) (fun k => (fI 32 k (by omega) (by omega) (by omega)).trans (go 32 k (by omega)))
  obtain ⟨t1, t2, t3, t4⟩ := hTq
  have B0 : Ar T (fun j => if j < e then T j else 0) e := fun j hj => if_pos hj
  have hVd : Vd d q := ⟨by omega, by omega, by omega, by omega, hq, hVq, hVb.1, hVb.2⟩
  have hHd := t1.cg (d' := d) B0 (t4 0 (Nat.zero_le _)) (fun _ => rfl)
  have hE0 : 1 ≤ E 0 := by obtain ⟨j1, j2, j3, j4, -, -, -, -, -, -, -, -, hh⟩ := t1; omega
  have hE1 := t4 0 (Nat.zero_le _)
  have hf := S219.2.1
  refine wp_bndp (form_s (σ := σ219) (f := fO σ219) (M := M) (n := e) (d := d) (Q := q) (E := E) (T := fun j => if j < e then T j else 0) hf.1 rfl hf.2 m3 (by omega) m1 (by omega) ⟨by omega, fun j => ?_⟩ (fun j hj => ?_) hVd hHd (fun p hp => (t2 p hp).cg B0 (t4 (p + 1) (by omega)) rfl (fun _ _ => rfl) (fun _ _ => ⟨rfl, rfl⟩)) t3 t4) fun v221 σ224 ⟨e221, hTk⟩ => ?_
  · try dsimp only
    by_cases c : j < e
    · rw [if_pos c]; have := (hT j c).2; omega
    · rw [if_neg c]; decide
  · try dsimp only
    rw [if_pos hj]; exact tx j hj
  · have e221 : v221 = nI q := e221
    have hTk : Tk (28 - fO σ219) (fO σ219) q d σ219 σ224 := hTk
    rw [e221, if_pos rfl]
    obtain ⟨dd, ⟨qu, qv, qa, qb, qq, qf⟩, qn, hBx, hSt⟩ := hTk.sd S219 hVd
    rw [bnd1_of _ (count2 dd (Ag.rf σ224)), qq, if_pos rfl]
    obtain ⟨⟨k1, k2, k3⟩, k4, k5, k6, k7, k8, k9, ka, kb, kc, kd⟩ := id hTk
    have c8 : fX7_count σ224 (8 : Int32) = some 0 := by
      unfold fX7_count
      rw [if_neg (by decide), if_neg (by decide), if_neg (by decide), if_neg (by decide), if_neg (by decide), if_neg (by decide), if_neg (by decide), if_neg (by decide), if_pos rfl, k6]
    rw [bnd1_of _ c8, if_pos rfl]
    have hi : ∀ c k, 2000 ≤ c → c < 2000 + gR τ 0 0 → gI σ224 c k = gI σ218 c k := fun c k c1 c2 => (k4 c k (by omega) (by omega) (by omega) (by omega) (by omega) (by omega)).trans (fI c k c2 (by omega) (by omega))
    have rR : ∀ c k, c ≠ 0 → c < 2000 + gR τ 0 0 → ¬ (c = 1 ∧ (k = 5 ∨ k = 6)) → gR σ224 c k = gR τ c k := fun c k c1 c2 c3 => (k3 c k c3).trans (fR c k c1 c2)
    have r00 : gR σ224 0 0 = gR σ219 0 0 := k3 0 0 (by omega)
    refine ⟨_, rfl, rfl, dd, hSt, qu.trans hU, qv.trans hV, k7, ⟨q, hq, (hi ii 0 gi.1 gi.2).trans g0, fun hq1 => ?_⟩, rR, fun c k c1 c2 c3 c4 c5 c6 c7 c8' c9 c10 => ?_, by dsimp only; rw [r00]; exact f0⟩
    · have hii : ∀ k, k ≠ 0 → gI σ224 ii k = gI τ ii k := fun k hk => (hi ii k gi.1 gi.2).trans (go ii k (by omega))
      refine ⟨dd, hBx, by rw [qu, hU]; exact hU2, by rw [qv, hV]; exact hV2, hSt, ⟨decide_eq_true ⟨gr.1, by rw [r00]; omega⟩, by rw [rR _ _ (by omega) gr.2 (by omega)]; exact hlr⟩, ⟨decide_eq_true ⟨gi.1, by rw [r00]; omega⟩, by rw [rR _ _ (by omega) gi.2 (by omega)]; exact hli⟩, hir, by rw [qq]; exact ⟨hq1, hq⟩, fun p hp => ?_, by rw [qq]; exact (hi ii 0 gi.1 gi.2).trans g0, by rw [qa, hii 1 (by decide)]; exact hIl.1.1, by rw [qb, hii 2 (by decide)]; exact hIl.1.2, fun p hp => ?_⟩
      · rw [qq] at hp
        rw [qn p hp]
        exact ⟨(hVq p hp).1.2, k5 p (by omega)⟩
      · rw [qq] at hp
        obtain ⟨z1, z2, z3, z4, -⟩ := hIl.2 p hp
        obtain ⟨y1, y2, y3, y4, y5⟩ := kc p hp
        have hv := hVq p hp
        rw [qn p hp, qf, hii _ (by omega), hii _ (by omega), hii _ (by omega), hii _ (by omega), z1, z2, z3, z4, y1, y4, y5]
        refine ⟨⟨fun z => ?_, fun z => ?_⟩, rfl, rfl, rfl⟩
        · have := nI_injN (a := 1 + d 6 p) (b := 1) (by omega) (by omega) z
          rw [show d 6 p = 0 by omega]; rfl
        · have := nI_injN (a := d 6 p) (b := 0) (by omega) (by omega) z
          rw [this]; rfl
    · exact (k4 c k c3 c4 (by omega) c8' c5 c6).trans ((fI c k c1 c8' c2).trans (go c k (by omega)))
end DRAWS
