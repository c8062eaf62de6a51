/-! 30b: the widest gap of a printed sheet. -/
section APARTS
variable {β σ : SS}
noncomputable def oO (β : SS) : Nat → Nat := ordQ (dO β) (psum (nO β) (qO β))
theorem apart_s (h : Sd β) (ha : Ag β σ) {what : Nat} (hw : what ≤ 1) : WP (fX7_apart σ (nI what)) (fun r => Ag β r.2 ∧ (Mkd β → r.1 = if what = 0 then (gpW (dO β) (oO β) (psum (nO β) (qO β) - 1)).2 else nI (gpW (dO β) (oO β) (psum (nO β) (qO β) - 1)).1)) := by
  have hQ := h.Q
  have hf := h.f
  have hT := h.T
  obtain ⟨⟨b, r⟩, er, r1, r2, r3⟩ := read_s h ha
  unfold fX7_apart
  have e0 : gI σ (fO β) 0 = 1 := (ha.2 _ _ (by unfold Sk; omega)).trans h.2.2.2.1
  rw [ag_s ha, ag_f ha, e0, if_neg (by decide)]
  simp only [lt_i, le_i, Int32.reduceToInt, nI_toInt (show what < 2 ^ 31 by omega)]
  rw [if_neg (by omega), if_pos (by omega), bnd_of _ er]
  have e6 : gI r (fO β) 6 = nI (psum (nO β) (qO β)) := (h.1.ag r2).2.2.2.2.2.2.2.2.2.2.2.2.2.2.2.2.2.2.2.2.1
  rw [ag_f r2]
  by_cases hm : Mkd β
  · rw [if_pos (r1.mpr hm)]
    have hD := (r3 hm).1
    obtain ⟨d, x1, x2⟩ := sortd (σ := r) (first := 0) (n := psum (nO β) (qO β)) (by omega)
    have x3 : ∀ k, k < psum (nO β) (qO β) → d k = nI (oO β k) := fun k hk => by
      rw [x2 k hk, Nat.zero_add]
      congr 1
      exact srt_congr _ (fun j hj => by rw [Nat.zero_add]; exact hD j hj) k hk
    have hag : Ag β (sA r 52 d) := r2.tr ⟨rfl, fun c k hk => by
      have hne : c ≠ 52 := by rintro rfl; exact hk (Or.inl ⟨by omega, by omega⟩)
      rw [gI_A_ne hne]⟩
    have hg := gap7 (s := sA r 52 d) (T := psum (nO β) (qO β)) (D := dO β) (O := oO β) (f := fO β) (k100 := fun v8 v9 => if nI what = 0 then some (v9, sA r 52 d) else if nI what = (1 : Int32) then some (v8, sA r 52 d) else bnd1 (fX3_judgedElse (sA r 52 d) (fO β) v8) fun v10 => some (v10, sA r 52 d)) hT (by rw [gI_A_ne (by omega)]; exact e6) (fun k hk => by rw [gI_A]; exact x3 k hk) (fun k hk => srt_lt _ k hk) (fun k hk => by rw [gI_A_ne (by omega)]; exact hD k hk)
    unfold fX3_partedBy
    rw [e6, show (0 : Int32) = nI 0 from rfl, bnd1_of _ x1]
    rw [show nI 0 = (0 : Int32) from rfl, hg]
    rcases (show what = 0 ∨ what = 1 by omega) with rfl | rfl
    · rw [if_pos (show nI 0 = (0 : Int32) from rfl)]
      exact ⟨_, rfl, hag, fun _ => rfl⟩
    · rw [if_neg (by decide), if_pos (show nI 1 = (1 : Int32) from rfl)]
      exact ⟨_, rfl, hag, fun _ => rfl⟩
  · rw [if_neg (fun q => hm (r1.mp q))]
    exact ⟨_, rfl, r2, fun q => absurd q hm⟩
end APARTS
section GAPS
variable {D : Nat → Nat} {n dk : Nat} {tk : Nat → Prop}
theorem ord_pr (hD : ∀ i, i < n → (tk i → D i = dk) ∧ (¬ tk i → D i = 0)) (h324 : ∀ i, D i ≤ 324) (hd : 1 ≤ dk) : ∀ j, j ≤ n → ∃ c, c ≤ j ∧ ∀ k, k < j → (tk (ordQ D n k) ↔ k < c)
  | 0, _ => ⟨0, Nat.le_refl _, fun k hk => absurd hk (Nat.not_lt_zero _)⟩
  | j + 1, h => by
    obtain ⟨c, hc, ih⟩ := ord_pr hD h324 hd j (by omega)
    by_cases t : tk (ordQ D n j)
    · have e : c = j := by
        by_cases hj : c = j
        · exact hj
        · exfalso
          have h1 := ord_mono (n := n) h324 (j - c) c (by omega)
          rw [show c + (j - c) = j by omega] at h1
          have l1 : ordQ D n j < n := srt_lt n j (by omega)
          have l2 : ordQ D n c < n := srt_lt n c (by omega)
          have h2 : ¬ tk (ordQ D n c) := fun q => absurd ((ih c (by omega)).mp q) (Nat.lt_irrefl _)
          rw [(hD _ l1).1 t, (hD _ l2).2 h2] at h1
          omega
      subst e
      refine ⟨c + 1, Nat.le_refl _, fun k hk => ⟨fun _ => hk, fun _ => ?_⟩⟩
      by_cases hk' : k = c
      · rw [hk']; exact t
      · exact (ih k (by omega)).mpr (by omega)
    · refine ⟨c, by omega, fun k hk => ?_⟩
      by_cases hk' : k = j
      · rw [hk']; exact ⟨fun q => absurd q t, fun q => by omega⟩
      · exact ih k (by omega)
theorem gp_pr (hD : ∀ i, i < n → (tk i → D i = dk) ∧ (¬ tk i → D i = 0)) (h324 : ∀ i, D i ≤ 324) (hd : 1 ≤ dk ∧ dk ≤ 324) (hn : 1 ≤ n) (h0 : ¬ tk 0) : gpW D (ordQ D n) (n - 1) = (gs tk (fun _ => 1) n, nI (if gs tk (fun _ => 1) n = 0 then 0 else dk)) := by
  obtain ⟨c, hc, ht⟩ := ord_pr hD h324 hd.1 n (Nat.le_refl _)
  have olt : ∀ k, k < n → ordQ D n k < n := fun k hk => srt_lt n k hk
  have ec : gs tk (fun _ => 1) n = c := by
    have e := ls_gs (L := ordQ D n) (f := fun _ => 1) (N := n) c (fun i j hi hj e => srt_inj n i j (by omega) (by omega) e) (fun i hi => olt i (by omega))
    rw [ls_1] at e
    refine Eq.trans (gs_congr n fun k hk => ?_) e.symm
    constructor
    · intro q
      obtain ⟨i, hi, ei⟩ := srt_sur (key := fun i => nI (D i)) hk
      exact ⟨i, (ht i hi).mp (by rw [show ordQ D n i = k from ei]; exact q), ei⟩
    · rintro ⟨i, hi, rfl⟩
      exact (ht i (by omega)).mpr hi
  have hcn : c < n := by
    refine Classical.byContradiction fun q => h0 ?_
    obtain ⟨i, hi, ei⟩ := srt_sur (key := fun i => nI (D i)) (show 0 < n by omega)
    rw [show (0 : Nat) = ordQ D n i from ei.symm]
    exact (ht i hi).mpr (by omega)
  rw [ec]
  have hv : ∀ k, k < n → D (ordQ D n k) = if k < c then dk else 0 := fun k hk => by
    by_cases q : k < c
    · rw [if_pos q]; exact (hD _ (olt k hk)).1 ((ht k hk).mpr q)
    · rw [if_neg q]; exact (hD _ (olt k hk)).2 fun z => q ((ht k hk).mp z)
  have z2 : ∀ d, d ≤ 324 → nI 0 ≤ nI d := fun d hd => by rw [lenN (by omega) (by omega)]; omega
  have z3 : ∀ d : Nat, nI d - nI d = nI 0 := fun d => Int32.sub_self _
  have z4 : nI dk - nI 0 = nI dk := nI_sub (by omega)
  have key : ∀ k, k < n → gpW D (ordQ D n) k = if k < c ∨ c = 0 then (0, nI 0) else (c, nI dk) := by
    intro k
    induction k with
    | zero =>
      intro _
      by_cases c0 : c = 0
      · rw [if_pos (Or.inr c0)]; rfl
      · rw [if_pos (Or.inl (by omega))]; rfl
    | succ k ih =>
      intro hk
      have ih := ih (by omega)
      show (if nI (D (ordQ D n k)) - nI (D (ordQ D n (k + 1))) ≤ (gpW D (ordQ D n) k).2 then gpW D (ordQ D n) k else (k + 1, nI (D (ordQ D n k)) - nI (D (ordQ D n (k + 1))))) = _
      rw [ih, hv k (by omega), hv (k + 1) hk]
      by_cases h1 : k + 1 < c
      · rw [if_pos (show k < c by omega), if_pos h1, if_pos (Or.inl (by omega)), if_pos (Or.inl h1), z3, if_pos (z2 0 (by omega))]
      · by_cases h2 : k < c
        · have e1 : k + 1 = c := by omega
          rw [if_pos h2, if_neg h1, if_pos (Or.inl h2), if_neg (show ¬ (k + 1 < c ∨ c = 0) by omega), z4, if_neg, e1]
          dsimp only
          rw [lenN (by omega) (by omega)]; omega
        · rw [if_neg h2, if_neg h1, z3]
          by_cases c0 : c = 0
          · rw [if_pos (Or.inr c0), if_pos (Or.inr c0), if_pos (z2 0 (by omega))]
          · rw [if_neg (show ¬ (k < c ∨ c = 0) by omega), if_neg (show ¬ (k + 1 < c ∨ c = 0) by omega), if_pos (z2 _ hd.2)]
  rw [key (n - 1) (by omega)]
  by_cases c0 : c = 0
  · rw [if_pos (Or.inr c0), if_pos c0, c0]
  · rw [if_neg (by omega), if_neg c0]
end GAPS
theorem Prd.gap {β : SS} {Tn : Nat → Nat} {l v : Nat} (h : Prd β Tn l v) (hQ : 1 ≤ qO β) (h0 : (Tn 0).testBit 0 = false) : gpW (dO β) (oO β) (psum (nO β) (qO β) - 1) = (tC β Tn, nI (if tC β Tn = 0 then 0 else dK β v)) := by
  have hN := h.1.N (p := 0) hQ
  have hT := h.1.pos (p := 0) hQ
  have ht := tkK_at (Tn := Tn) h.N6 hQ (i := 0) (by omega)
  have key := gp_pr (D := dO β) (n := psum (nO β) (qO β)) (dk := dK β v) (tk := tkK (qO β) (nO β) Tn) (fun i hi => h.D hi) (fun i => h.1.D i) h.dk hT (fun q => by rw [show (0 : Nat) = psum (nO β) 0 + 0 from rfl] at q; have := ht.mp q; rw [h0] at this; exact absurd this (by decide))
  rw [h.gC] at key
  exact key
/-- not all are ticked -/
theorem Prd.some_not {β : SS} {Tn : Nat → Nat} {l v : Nat} (h : Prd β Tn l v) (hQ : 1 ≤ qO β) (h0 : (Tn 0).testBit 0 = false) : tC β Tn < psum (nO β) (qO β) := by
  have hN := h.1.N (p := 0) hQ
  have hT := h.1.pos (p := 0) hQ
  have ht := tkK_at (Tn := Tn) h.N6 hQ (i := 0) (by omega)
  have e := h.gC
  have hle := gs_le (m := tkK (qO β) (nO β) Tn) (psum (nO β) (qO β))
  rcases Nat.lt_or_ge (tC β Tn) (psum (nO β) (qO β)) with q | q
  · exact q
  · have := gs_full (m := tkK (qO β) (nO β) Tn) (psum (nO β) (qO β)) (by omega) 0 hT
    have := ht.mp this
    rw [h0] at this
    exact absurd this (by decide)
