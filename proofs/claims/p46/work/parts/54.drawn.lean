/-! 54: the law draws a form: all of it. -/
section DRAWN
variable {rr ii U V : Nat} {σ : SS}
set_option maxHeartbeats 4000000 in
theorem draws_s (hS : Sc σ) (ht : gI σ 1 1 = 0) (hvi : lav σ ii = true) (hli : gR σ ii 0 = 300) (hvr : lav σ rr = true) (hlr : gR σ rr 0 = 1) (hir : ii ≠ rr) (hU : 14 ≤ U ∧ U ≤ 33) (hV : 14 ≤ V ∧ V ≤ 33) : WP (fL_draws σ ii rr (nI U) (nI V)) (fun r => r.1 = true ∧ Sd r.2 ∧ Stg r.2 ∧ uO r.2 = U ∧ vO r.2 = V ∧ gI r.2 1 1 = 0 ∧ (∃ q, q ≤ 5 ∧ gI r.2 ii 0 = nI q ∧ (1 ≤ q → Rq rr ii r.2)) ∧ Df rr ii σ r.2) := by
  have gi : 2000 ≤ ii ∧ ii < 2000 + gR σ 0 0 := of_decide_eq_true hvi
  have gr : 2000 ≤ rr ∧ rr < 2000 + gR σ 0 0 := of_decide_eq_true hvr
  unfold fL_draws
  refine mk4_s (a := 115) (b := 105) (c := 122) (d := 101) (by decide) fun τ1 m1 w1 => ?_
  refine mk4_s (a := 59) (b := 98) (c := 111) (d := 120) (by decide) fun τ2 m2 w2 => ?_
  refine mk3_s (a := 111) (b := 110) (c := 101) (by decide) fun τ3 m3 w3 => ?_
  refine mk4_s (a := 109) (b := 97) (c := 110) (d := 121) (by decide) fun τ4 m4 w4 => ?_
  refine mk4_s (a := 32) (b := 107) (c := 101) (d := 121) (by decide) fun τ5 m5 w5 => ?_
  refine mk6_s (a := 32) (b := 119) (c := 111) (d := 114) (e := 116) (f := 104) (by decide) fun τ6 m6 w6 => ?_
  obtain ⟨m7, v7, l7⟩ := Md.mk τ6 600
  refine wp_v (wp_v ?_)
  generalize mkL τ6 600 = τ7 at m7 v7 l7
  have c1 := m1.2.1
  have c2 := m2.2.1
  have c3 := m3.2.1
  have c4 := m4.2.1
  have c5 := m5.2.1
  have c6 := m6.2.1
  have c7 := m7.2.1
  have x1 := (((((w1.md m2).1.md m3).1.md m4).1.md m5).1.md m6).1.md m7
  have x2 := ((((w2.md m3).1.md m4).1.md m5).1.md m6).1.md m7
  have x3 := (((w3.md m4).1.md m5).1.md m6).1.md m7
  have x4 := ((w4.md m5).1.md m6).1.md m7
  have x5 := (w5.md m6).1.md m7
  have x6 := w6.md m7
  have fR : ∀ c k, c ≠ 0 → c < 2000 + gR σ 0 0 → gR τ7 c k = gR σ c k := fun c k h1 h2 => by
    rw [m7.1 c k h1 (by omega), m6.1 c k h1 (by omega), m5.1 c k h1 (by omega), m4.1 c k h1 (by omega), m3.1 c k h1 (by omega), m2.1 c k h1 (by omega), m1.1 c k h1 (by omega)]
  have fI : ∀ c k, c < 2000 + gR σ 0 0 → gI τ7 c k = gI σ c k := fun c k h2 => by
    rw [m7.2.2 c k (by omega), m6.2.2 c k (by omega), m5.2.2 c k (by omega), m4.2.2 c k (by omega), m3.2.2 c k (by omega), m2.2.2 c k (by omega), m1.2.2 c k (by omega)]
  have vi7 : lav τ7 ii = true := decide_eq_true ⟨gi.1, by omega⟩
  have vr7 : lav τ7 rr = true := decide_eq_true ⟨gr.1, by omega⟩
  have li7 : gR τ7 ii 0 = 300 := by rw [fR _ _ (by omega) gi.2]; exact hli
  have lr7 : gR τ7 rr 0 = 1 := by rw [fR _ _ (by omega) gr.2]; exact hlr
  refine heading_d (τ := τ7) vr7 lr7 vi7 li7 v7 l7 hir (by omega) (by omega) x1.1 x2.1 x3.1 x4.1 x5.1 x6.1 ⟨x1.2, by omega, by omega⟩ ⟨x2.2, by omega, by omega⟩ ⟨x3.2, by omega, by omega⟩ ⟨x4.2, by omega, by omega⟩ ⟨x5.2, by omega, by omega⟩ ⟨x6.2, by omega, by omega⟩ hU hV fun d T E q e σ216 hq ⟨rh, fh⟩ hIl hTx hTq he hdU hdV hA hB hVq hVb => ?_
  obtain ⟨S216, -⟩ := hS.fr (τ := σ216) (fun k => by rw [rh]; exact fR 1 k (by decide) (by omega)) (fun c k c1 c2 => (fh c k (by omega) (by omega) (by omega)).trans (fI c k (by omega))) (fun k => (fh 32 k (by omega) (by omega) (by omega)).trans (fI 32 k (by omega)))
  have g00 : gR σ216 0 0 = gR σ 0 0 + 7 := by rw [rh]; omega
  refine wp_imp (taken_d (ct := 2000 + gR τ6 0 0) (q := q) (e := e) (d := d) (T := T) (E := E) (U := U) (V := V) S216 ((fh 1 1 (by omega) (by omega) (by omega)).trans ((fI 1 1 (by omega)).trans ht)) (by unfold lav at *; rw [rh]; exact vi7) (by rw [rh]; exact li7) (by unfold lav at *; rw [rh]; exact vr7) (by rw [rh]; exact lr7) hir (by unfold lav at *; rw [rh]; exact v7) (by rw [rh]; exact l7) (by omega) hq rfl hIl hTx hTq (by omega) hdU hdV hU hV hA hB hVq hVb) fun r hr => ?_
  obtain ⟨r1, r2, r3, r4, r5, r6, r7, ⟨d1, d2, d3⟩⟩ := hr
  refine ⟨r1, r2, r3, r4, r5, r6, r7, fun c k c1 c2 c3 => ?_, fun c k c1 c2 c3 c4 c5 c6 c7 c8 c9 c10 => ?_, by omega⟩
  · rw [d1 c k c1 (by omega) c3, rh]; exact fR c k c1 c2
  · rw [d2 c k (by omega) c2 c3 c4 c5 c6 c7 c8 c9 c10, fh c k (by omega) c9 c10]; exact fI c k c1
end DRAWN
