/-! 33: the law's reads: the ticks told. -/
theorem nz_sh : ∀ n, n ≤ 6 → nz ((1 : Int32) <<< (nI n &&& 31)) = true := by decide +kernel
theorem and_m2 : ∀ t, t < 64 → nI t &&& (-2 : Int32) = nI (t - t % 2) ∧ (t - t % 2).testBit 0 = false := by decide +kernel
theorem and_m1 : ∀ t, t < 64 → nI t &&& (-1 : Int32) = nI t := by decide +kernel
theorem tkC_congr {N Tn Tn' : Nat → Nat} : ∀ n, (∀ p, p < n → Tn' p = Tn p) → tkC N Tn' n = tkC N Tn n
  | 0, _ => rfl
  | n + 1, h => by
    have ih := tkC_congr (N := N) n fun p hp => h p (by omega)
    show tkC N Tn' n + bcN (Tn' n) (N n) = tkC N Tn n + bcN (Tn n) (N n)
    rw [ih, h n (by omega)]
section TICKS
variable {rr ii ct Q f : Nat} {N : Nat → Nat} {τ0 : SS}
/-- what has been told of the first i questions -/
def Tl (rr ct Q : Nat) (N Tn : Nat → Nat) (τ0 : SS) (i : Nat) (τ : SS) : Prop := gR τ = gR τ0 ∧ (∀ c k, c ≠ 30 → c ≠ ct → ¬ (c = rr ∧ k = 0) → gI τ c k = gI τ0 c k) ∧ (∀ p, p < i → gI τ 30 p = nI (Tn p) ∧ gI τ ct p = nI (Tn p) ∧ Tn p < 2 ^ N p ∧ (p = 0 → (Tn p).testBit 0 = false)) ∧ ∀ p, i ≤ p → p < Q → gI τ 30 p = 0
set_option maxHeartbeats 4000000 in
theorem ticks_s {k362 : Int32 → Int32 → Int32 → SS → Option (Bool × SS)} {P : Bool × SS → Prop} (hQ : Q ≤ 5) (hN : ∀ p, p < Q → 1 ≤ N p ∧ N p ≤ 5) (hf : gR τ0 1 5 = f) (hf2 : f = 10 ∨ f = 18) (e5 : gI τ0 f 5 = nI Q) (e3 : ∀ p, p < Q → gI τ0 (f + 3) p = nI (N p))
    (hvi : lav τ0 ii = true) (hli : gR τ0 ii 0 = 300) (hvr : lav τ0 rr = true) (hlr : gR τ0 rr 0 = 1) (hvc : lav τ0 ct = true) (hlc : gR τ0 ct 0 = 12) (hir : ii ≠ rr) (hic : ii ≠ ct) (hrc : rr ≠ ct)
    (i0 : gI τ0 ii 0 = nI Q) (i1 : ∀ p, p < Q → gI τ0 ii (17 + 16 * p) = nI (N p)) (h30 : ∀ p, p < Q → gI τ0 30 p = 0)
    (hk : ∀ Tn τ, Tl rr ct Q N Tn τ0 Q τ → WP (k362 1 (nI (psum N Q)) (nI (tkC N Tn Q)) τ) P) : WP (L_reads_L238 ii rr ct k362 fuel (1 : Int32) (0 : Int32) (0 : Int32) (0 : Int32) τ0) P := by
  have li : ∀ {τ : SS} {k : Nat}, gR τ = gR τ0 → k < 300 → lin τ ii (nI k) = true := fun {τ k} e hk' => lin_of (by unfold lav at *; rw [e]; exact hvi) (by rw [e]; exact hli) hk' (by decide)
  have lc : ∀ {τ : SS} {k : Nat}, gR τ = gR τ0 → k < 12 → lin τ ct (nI k) = true := fun {τ k} e hk' => lin_of (by unfold lav at *; rw [e]; exact hvc) (by rw [e]; exact hlc) hk' (by decide)
  have gi : 2000 ≤ ii := (of_decide_eq_true hvi).1
  have gc : 2000 ≤ ct := (of_decide_eq_true hvc).1
  have gr : 2000 ≤ rr := (of_decide_eq_true hvr).1
  unfold L_reads_L238
  refine wf_5 Q (fun i a b c d τ => ∃ Tn, a = (1 : Int32) ∧ b = nI (psum N i) ∧ c = nI (tkC N Tn i) ∧ d = nI i ∧ Tl rr ct Q N Tn τ0 i τ) ⟨fun _ => 0, rfl, rfl, rfl, rfl, rfl, fun _ _ _ _ _ => rfl, fun p hp => absurd hp (Nat.not_lt_zero _), fun p _ hp => h30 p hp⟩ (by omega) (fun i a b c d τ rec hi hI ih => ?_) (fun a b c d τ rec hI => ?_)
  · obtain ⟨Tn, rfl, rfl, rfl, rfl, r1, f1, t1, z1⟩ := hI
    have ei : ∀ k, gI τ ii k = gI τ0 ii k := fun k => f1 _ _ (by omega) hic (by omega)
    have hN5 := hN i hi
    refine wp_grd (li (k := 0) r1 (by decide)) ?_
    rw [ei, i0, if_neg (nI_ge hi (by omega)), show (16 : Int32) = nI 16 from rfl, nI_mul, show (17 : Int32) = nI 17 from rfl, nI_add]
    refine wp_grd (li r1 (by omega)) (wp_v ?_)
    rw [nI_clamp (by omega), ei, i1 i hi]
    refine wp_bndp (next_s (σ := τ) (c := rr) (by unfold lav at *; rw [r1]; exact hvr) (by rw [r1]; exact hlr)) fun v46 σ49 ⟨⟨n1, hn1, e1⟩, k49⟩ => ?_
    have e1 : v46 = nI n1 := e1
    have k49 : Kn rr τ σ49 := k49
    have r49 : gR σ49 = gR τ0 := k49.1.trans r1
    have hp2 : 2 ^ N i ≤ 2 ^ 5 := Nat.pow_le_pow_right (by decide) hN5.2
    have e32 : (2 : Nat) ^ 5 = 32 := rfl
    have hp1 : 1 ≤ 2 ^ N i := Nat.pos_of_ne_zero (by simp)
    refine wp_grd (nz_sh _ (by omega)) (wp_grd (lc r49 (by omega)) ?_)
    rw [e1, sh_at _ (by omega), rem_nI (by omega) (by omega) (by omega), nI_clamp (by omega)]
    have hmod := Nat.mod_lt n1 (show 0 < 2 ^ N i by omega)
    generalize ed : n1 % 2 ^ N i = t0 at hmod
    refine wp_v (wp_grd (lc (τ := sI σ49 ct i (nI t0)) r49 (by omega)) ?_)
    refine wp_vk1 (fun s => ∃ t, t < 2 ^ N i ∧ nI t0 &&& s = nI t ∧ (i = 0 → t.testBit 0 = false)) (fun s54 hs54 => ?_) (fun j289 hj => ?_)
    · obtain ⟨t, ht, et, ht0⟩ := hs54
      rw [gI_eq, et]
      refine wp_v ?_
      have e55 : gI (sI (sI σ49 ct i (nI t0)) ct i (nI t)) ct i = nI t := gI_eq _ _ _ _
      have f55 : ∀ c k, ¬ (c = ct ∧ k = i) → gI (sI (sI σ49 ct i (nI t0)) ct i (nI t)) c k = gI σ49 c k := fun c k h => by rw [gI_nk h, gI_nk h]
      have r55 : gR (sI (sI σ49 ct i (nI t0)) ct i (nI t)) = gR τ0 := r49
      generalize sI (sI σ49 ct i (nI t0)) ct i (nI t) = σ55 at e55 f55 r55
      have hpop := pop_bc (N i) (by omega) t ht
      refine wp_vk (fun s56 σ57 => s56 = (1 : Int32) ∧ Tl rr ct Q N (fun p => if p = i then t else Tn p) τ0 (i + 1) σ57) (fun s56 σ57 h57 => ?_) (fun j334 hj2 => ?_)
      · obtain ⟨rfl, T57⟩ := h57
        have tc := (T57.2.2.1 i (by omega)).2.1
        dsimp only at tc
        rw [if_pos rfl] at tc
        refine wp_v (wp_grd (lc T57.1 (by omega)) (wp_v ?_))
        rw [tc, popc σ57 t (by omega), hpop.1, nI_add, nI_add, nI_1]
        refine ih _ _ _ _ _ ⟨fun p => if p = i then t else Tn p, rfl, rfl, ?_, rfl, T57⟩
        show _ = nI (tkC N (fun p => if p = i then t else Tn p) i + bcN (if i = i then t else Tn i) (N i))
        rw [if_pos rfl, tkC_congr i fun p hp => if_neg (by omega)]
      · refine wp_vk1 (fun _ => False) (fun _ q => q.elim) fun j333 _ => ?_
        rw [if_neg (by decide)]
        refine wp_grd (lc r55 (by omega)) ?_
        have q5 : gR σ55 1 5 = f := by rw [r55]; exact hf
        have lowf : ∀ c k, c < 2000 → c ≠ 30 → gI σ55 c k = gI τ0 c k := fun c k h1 h2 => by rw [f55 _ _ (by omega), k49.2 _ _ (by omega), f1 _ _ h2 (by omega) (by omega)]
        have q30 : gI σ55 30 i = 0 := by rw [f55 _ _ (by omega), k49.2 _ _ (by omega)]; exact z1 i (Nat.le_refl _) hi
        rw [e55, bnd_of _ (tick_s σ55 (Q := Q) (p := i) (n := N i) (T := t) (by omega) hi (by rw [q5, lowf _ _ (by omega) (by omega)]; exact e5) (by rw [q5, lowf _ _ (by omega) (by omega)]; exact e3 i hi) (by omega) ht), q30, if_pos rfl]
        refine wp_grd (lc (τ := sI σ55 30 i (nI t)) r55 (by omega)) ?_
        have e66 : gI (sI σ55 30 i (nI t)) ct i = nI t := by rw [gI_nk (by omega)]; exact e55
        have r66 : gR (sI σ55 30 i (nI t)) = gR τ0 := r55
        have o66 : gI (sI σ55 30 i (nI t)) 30 i = nI t := gI_eq _ _ _ _
        have f66 : ∀ c k, ¬ (c = 30 ∧ k = i) → gI (sI σ55 30 i (nI t)) c k = gI σ55 c k := fun c k h => gI_nk h
        generalize sI σ55 30 i (nI t) = σ66 at e66 r66 o66 f66
        have q6 : gR σ66 1 5 = f := by rw [r66]; exact hf
        rw [e66, bnd_of _ (tick_s σ66 (Q := Q) (p := i) (n := N i) (T := t) (by omega) hi (by rw [q6, f66 _ _ (by omega), lowf _ _ (by omega) (by omega)]; exact e5) (by rw [q6, f66 _ _ (by omega), lowf _ _ (by omega) (by omega)]; exact e3 i hi) (by omega) ht), o66]
        refine wp_grd (lc (τ := sI σ66 30 i (nI t)) r66 (by omega)) ?_
        have e71 : gI (sI σ66 30 i (nI t)) ct i = nI t := by rw [gI_nk (by omega)]; exact e66
        rw [e71, if_pos rfl]
        have fc : ∀ k, k ≠ i → gI (sI σ66 30 i (nI t)) ct k = gI τ ct k := fun k hk' => by rw [gI_nk (by omega), f66 _ _ (by omega), f55 _ _ (by omega), k49.2 _ _ (by omega)]
        have f3 : ∀ k, k ≠ i → gI (sI σ66 30 i (nI t)) 30 k = gI τ 30 k := fun k hk' => by rw [gI_nk (by omega), f66 _ _ (by omega), f55 _ _ (by omega), k49.2 _ _ (by omega)]
        refine hj2 _ _ ⟨rfl, r66, fun c k h1 h2 h3 => ?_, fun p hp => ?_, fun p hp hp2 => ?_⟩
        · rw [gI_nk (by omega), f66 _ _ (by omega), f55 _ _ (by omega), k49.2 _ _ h3]; exact f1 c k h1 h2 h3
        · by_cases ep : p = i
          · subst ep
            dsimp only
            rw [if_pos rfl]
            exact ⟨gI_eq _ _ _ _, e71, ht, ht0⟩
          · dsimp only
            rw [if_neg ep, f3 p ep, fc p ep]
            exact t1 p (by omega)
        · rw [f3 p (by omega)]; exact z1 p (by omega) hp2
    · by_cases c0 : i = 0
      · rw [c0, if_pos (show nI 0 = (0 : Int32) from rfl)]
        obtain ⟨a1, a2⟩ := and_m2 t0 (by omega)
        exact hj _ ⟨t0 - t0 % 2, by omega, a1, fun _ => a2⟩
      · rw [if_neg (nI_ne0 (by omega) (by omega))]
        exact hj _ ⟨t0, hmod, and_m1 t0 (by omega), fun q => absurd q c0⟩
  · obtain ⟨Tn, rfl, rfl, rfl, rfl, hT⟩ := hI
    have ei : ∀ k, gI τ ii k = gI τ0 ii k := fun k => hT.2.1 _ _ (by omega) hic (by omega)
    refine wp_grd (li (k := 0) hT.1 (by decide)) ?_
    rw [ei, i0, if_pos (nI_le (Nat.le_refl _) (by omega))]
    exact hk Tn τ hT
end TICKS
