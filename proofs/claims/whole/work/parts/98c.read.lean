/-! Form kept: a text read by both. -/
theorem told8 {σ : SS} {bb : Nat} (hb : bb < 2) (h11 : gI σ 73 11 = nI bb) : X8_form_L84 fuel (0 : Int32) σ = some (gI σ 75 (5 * bb + 4), flI σ 82 12 0) := by
  unfold X8_form_L84
  refine lp_2 (fun i => nI i) (fun i => flI σ 82 i 0) 12 _ (fun i hi rec => ?_) (fun rec => ?_) fuel (fuel_gt (by decide)) |> Eq.trans (by rw [flI_0]; rfl)
  · rw [if_neg (by show ¬ nI 12 ≤ nI i; exact nI_ge hi (by decide)), grd_eq _ (inb_nI (by omega) (by decide)), vthen_q, nI_clamp (by omega), flI_s, nI_1]
  · have e54 : (5 : Int32) * gI (flI σ 82 12 0) 73 11 + 4 = nI (5 * bb + 4) := by rw [gI_fl_ne (by omega), h11, show (5 : Int32) = nI 5 from rfl, nI_mul]; exact nI_add (5 * bb) 4
    rw [if_pos (by show nI 12 ≤ nI 12; exact nI_le (Nat.le_refl _) (by decide)), e54, grd_eq _ (inb_nI (by omega) (by decide)), nI_clamp (by omega), gI_fl_ne (by omega)]
theorem txread7 {σ : SS} {n g : Nat} (hn : 1 ≤ n ∧ n ≤ 400) (hg : 27 < g ∨ g + 7 < 26) : ∃ t, (gR t = gR σ ∧ (∀ c k, c ≠ 26 → c ≠ 27 → c ≠ g → gI t c k = gI σ c k) ∧ gI t 26 1 = nI n ∧ (∀ j, j < n → gI t 27 j = gI σ 2 j) ∧ gI t 26 3 = nI 0 ∧ gI t 26 7 = 0 ∧ gI t g 5 = 0 ∧ gI t g 6 = 0) ∧ ∀ k : Int32 → SS → Option (Int32 × SS), bnd (fX2_read σ (nI n) g) k = bnd1 (fX2_advance t) fun σ7 => bnd (fX2_readHead σ7 g) fun b9 σ11 => if b9 = true then (bnd (fX2_readQuestions σ11 g) fun b13 σ15 => if b13 = true then vthen (sI σ15 g 0 1) fun σ16 => k (gI σ16 26 7) σ16 else k (gI σ15 26 7) σ15) else k (gI σ11 26 7) σ11 := by
  have em : ∀ σ, fX1_empty σ g = some (sI (sI (sI (sI (sI (sI (sI σ g 0 0) g 1 0) g 2 0) g 3 0) g 4 0) g 5 0) g 6 0) := fun σ => by
    unfold fX1_empty; rw [vthen_q, vthen_q, vthen_q, vthen_q, vthen_q, vthen_q, vthen_q]
  have emin : fJ9_min_7cf53 σ (nI n) 400 = nI n := by
    unfold fJ9_min_7cf53
    rw [if_neg (fun z => by have := nI_ltN (a := 400) (b := n) z (by omega) (by omega); omega)]
  have z0 : (0 : Int32).toNatClampNeg = 0 := rfl
  have eok : cpOK (0 : Int32) (0 : Int32) (nI n) 480 400 = true := by
    unfold cpOK
    rw [z0, nI_clamp (by omega)]
    refine decide_eq_true ⟨by decide, by decide, fun z => ?_, by omega, by omega⟩
    have := nI_ltN (a := n) (b := 0) z (by omega) (by omega)
    omega
  refine ⟨sI (sI (sI (sI (sI (sI (sI (sI (sI (cpA (sI σ 26 1 (nI n)) 2 0 27 0 (nI n)) 26 3 0) 26 7 0) g 0 0) g 1 0) g 2 0) g 3 0) g 4 0) g 5 0) g 6 0, ⟨rfl, fun c k c1 c2 c3 => ?_, ?_, fun j hj => ?_, ?_, ?_, ?_, ?_⟩, fun k => ?_⟩
  · rw [gI_ne c3, gI_ne c3, gI_ne c3, gI_ne c3, gI_ne c3, gI_ne c3, gI_ne c3, gI_ne c1, gI_ne c1]
    unfold cpA
    rw [gI_A_ne c2, gI_ne c1]
  · rw [gI_ne (by omega), gI_ne (by omega), gI_ne (by omega), gI_ne (by omega), gI_ne (by omega), gI_ne (by omega), gI_ne (by omega), gI_nk (by omega), gI_nk (by omega)]
    unfold cpA
    rw [gI_A_ne (by omega), gI_eq]
  · rw [gI_ne (by omega), gI_ne (by omega), gI_ne (by omega), gI_ne (by omega), gI_ne (by omega), gI_ne (by omega), gI_ne (by omega), gI_ne (by omega), gI_ne (by omega)]
    unfold cpA
    rw [gI_A, z0, nI_clamp (by omega), sb_cpy0 hj, gI_ne (by omega)]
  · rw [gI_ne (by omega), gI_ne (by omega), gI_ne (by omega), gI_ne (by omega), gI_ne (by omega), gI_ne (by omega), gI_ne (by omega), gI_nk (by omega), gI_eq]; rfl
  · rw [gI_ne (by omega), gI_ne (by omega), gI_ne (by omega), gI_ne (by omega), gI_ne (by omega), gI_ne (by omega), gI_ne (by omega), gI_eq]
  · rw [gI_nk (by omega), gI_eq]
  · rw [gI_eq]
  · unfold fX2_read
    simp only [bnd_vth, bnd_grd, bnd_bnd1, bnd_bnd, bnd_ite, bnd_sm]
    rw [emin, vthen_q, gI_eq, grd_eq _ eok, vthen_q, vthen_q, vthen_q, bnd1_of _ (em _)]
/-- what both come to: nothing at all; or the tape is empty, and all stays, or a new form stands -/
def FP (f bb : Nat) (σ τ : SS) (v w : Int32 × SS) : Prop :=
  v.1 = w.1 ∧ ((v.2 = σ ∧ w.2 = τ) ∨ (gR w.2 = gR τ ∧ gI v.2 1 1 = 0 ∧ gI w.2 73 1 = 0 ∧
    (∀ c k, c ≠ 26 → c ≠ 27 → ¬ (28 - f ≤ c ∧ c ≤ 35 - f) → ¬ (c = 1 ∧ k = 1) → c ≠ 30 → c ≠ 58 → gI v.2 c k = gI σ c k) ∧
    (∀ c k, ¬ (c = 73 ∧ ((1 ≤ k ∧ k ≤ 12) ∨ k = 65)) → c ≠ 82 → ¬ OB bb c k → gI w.2 c k = gI τ c k) ∧
    ((gR v.2 = gR σ ∧ (∀ k, gI v.2 30 k = gI σ 30 k) ∧ (∀ k, gI v.2 58 k = gI σ 58 k) ∧ (∀ k, k = 11 ∨ k = 12 ∨ k = 65 → gI w.2 73 k = gI τ 73 k) ∧ ∀ k, gI w.2 82 k = gI τ 82 k) ∨
      (gR v.2 = gR (sR (sR σ 1 5 (28 - f)) 1 6 f) ∧ (∀ k, k < 12 → gI v.2 30 k = 0) ∧ gI v.2 58 0 = 0 ∧ gI v.2 (28 - f) 0 = 1 ∧ gI w.2 73 11 = nI bb ∧ gI w.2 73 12 = 1 ∧ gI w.2 73 65 = 0 ∧ (∀ k, k < 12 → gI w.2 82 k = 0) ∧
        ∃ (W H A B Q : Nat) (N : Nat → Nat), RG W H A B ∧ Q ≤ 12 ∧ Hq (28 - f) bb W H A B v.2 w.2 ∧ gI v.2 (28 - f) 5 = nI Q ∧ gI v.2 (28 - f) 6 = nI (psum N Q) ∧ gI w.2 75 (5 * bb + 4) = nI Q ∧ ∀ p, p < Q → 1 ≤ N p ∧ En (28 - f) bb N W H A B p v.2 w.2))))
theorem rgAll {V : Nat → Nat} (h : ∀ k, k < 4 → rgH k (V k)) : RG (V 0) (V 1) (V 2) (V 3) := ⟨(h 0 (by omega)).1 (by omega), (h 1 (by omega)).1 (by omega), (h 2 (by omega)).2 (by omega), (h 3 (by omega)).2 (by omega)⟩
theorem form2 {s f b : Nat} {σ τ : SS} (h : RAll s f σ) (hb : b < 2) (h11 : gI σ 73 11 = nI b) (hτ : ∀ c k, 73 ≤ c → gI τ c k = gI σ c k) (x : Int32) : W2 (fX7_form σ x) (fX8_form τ x) (FP f (1 - b) σ τ) := by
  obtain ⟨hs, hf, -, -, hR5, hR6, -⟩ := id h.1
  obtain ⟨n0, t1, t2, t3, t4⟩ := h.2.1
  have t3' : gI τ 73 1 = nI n0 := by rw [hτ _ _ (by omega)]; exact t3
  have z1 : (1 : Int32).toInt = 1 := rfl
  have z400 : (400 : Int32).toInt = 400 := rfl
  have en0 : (nI n0).toInt = n0 := nI_toInt (by omega)
  by_cases hx : 1 ≤ x.toInt ∧ x.toInt ≤ 400 ∧ x.toInt ≤ n0
  case neg =>
    have e7 : fX7_form σ x = some (-1, σ) := by
      unfold fX7_form
      by_cases c1 : x < (1 : Int32)
      · rw [if_pos c1]
      · rw [if_neg c1]
        by_cases c2 : (400 : Int32) < x
        · rw [if_pos c2]
        · rw [lt_i, z1] at c1
          rw [lt_i, z400] at c2
          rw [if_neg (c := (400 : Int32) < x) (by rw [lt_i, z400]; exact c2), t2, if_neg (c := x ≤ nI n0) (by rw [le_i, en0]; omega)]
    have e8 : fX8_form τ x = some (-1, τ) := by
      unfold fX8_form
      by_cases c1 : fX8_in τ x (1 : Int32) (400 : Int32) = true
      · rw [if_pos c1]
        rw [in_eq, le_i, le_i, z1, z400] at c1
        rw [t3', if_neg (c := x ≤ nI n0) (by rw [le_i, en0]; omega)]
      · rw [if_neg c1]
    rw [e7, e8]
    exact w2_some ⟨rfl, Or.inl ⟨rfl, rfl⟩⟩
  obtain ⟨n, hn, rfl⟩ := in_of (x := x) (w := 401) (by decide) (by omega)
  have tn : (nI n).toInt = n := nI_toInt (by omega)
  rw [tn] at hx
  have hg : 27 < 28 - f ∨ 28 - f + 7 < 26 := by omega
  have hbb : 1 - b < 2 := by omega
  have hT : TT (fun j => (gI σ 74 j &&& 255).toNatClampNeg) n := ⟨by omega, fun j => by
    obtain ⟨m, hm, em⟩ := pk_andE (gI σ 74 j) (m := 255) 8 rfl
    dsimp only
    rw [em, nI_clamp (by omega)]; exact hm⟩
  have h74 : ∀ j, gI σ 74 j &&& 255 = nI ((fun j => (gI σ 74 j &&& 255).toNatClampNeg) j) := fun j => by
    obtain ⟨m, hm, em⟩ := pk_andE (gI σ 74 j) (m := 255) 8 rfl
    dsimp only
    rw [em, nI_clamp (by omega)]
  generalize (fun j => (gI σ 74 j &&& 255).toNatClampNeg) = T at hT h74
  have e7 : fX7_form σ (nI n) = bnd (fX2_read (sI σ 1 1 0) (nI n) (28 - f)) fun v2 σ5 =>
        if v2 = 0 then (
          vthen (sR σ5 1 5 (gR σ5 1 6)) fun σ6 =>
          vthen (sR σ6 1 6 (gR σ5 1 5)) fun σ7 =>
          vthen (flI σ7 30 12 (0 : Int32)) fun σ8 =>
          vthen (sI σ8 58 0 (0 : Int32)) fun σ9 =>
          some ((gI σ9 (gR σ9 1 5) 5), σ9)
          ) else (
          some (v2, σ5)
          ) := by
    unfold fX7_form
    rw [if_neg (c := nI n < (1 : Int32)) (by rw [lt_i, z1, tn]; omega), if_neg (c := (400 : Int32) < nI n) (by rw [lt_i, z400, tn]; omega), t2, if_pos (c := nI n ≤ nI n0) (by rw [le_i, en0, tn]; omega), vthen_q, show gR (sI σ 1 1 0) 1 6 = 28 - f from hR6]
  obtain ⟨t, ⟨k1, k2, k3, k4, k5, k6, k7, k8⟩, ek⟩ := txread7 (σ := sI σ 1 1 0) (g := 28 - f) (n := n) (by omega) hg
  rw [e7, ek]
  unfold fX8_form
  rw [if_pos (c := fX8_in τ (nI n) (1 : Int32) (400 : Int32) = true) (by rw [in_eq, le_i, le_i, z1, z400, tn]; omega), t3', if_pos (c := nI n ≤ nI n0) (by rw [le_i, en0, tn]; omega)]
  refine w2_vr (w2_vr (w2_vr ?_))
  have m1 : ∀ c k, ¬ (c = 73 ∧ (k = 1 ∨ k = 2 ∨ k = 3)) → gI (sI (sI (sI τ 73 2 0) 73 3 (nI n)) 73 1 0) c k = gI τ c k := fun c k hc => by rw [gI_nk (by omega), gI_nk (by omega), gI_nk (by omega)]
  refine w2_bnd1 (w2_of (adv7 (T := T) (n := n) (i := 0) hT.1 (Nat.zero_le _) k3 (fun j hj => by rw [k4 j hj, gI_ne (by omega), (t4 j (by omega)).1]; exact h74 j) hT.2 k5) (next8 (T := T) (n := n) (i := 0) hT.1 (Nat.zero_le _) (by rw [gI_nk (by omega), gI_eq]) (fun j hj => by rw [m1 _ _ (by omega), hτ _ _ (by omega)]; exact h74 j) hT.2 (by rw [gI_nk (by omega), gI_nk (by omega), gI_eq]; rfl)) fun a1 b1 ha1 hb1 => And.intro ha1 hb1) fun a1 b1 hab => ?_
  obtain ⟨⟨p1, p2, p3⟩, r1, r2, r3⟩ := hab
  have eb : gI b1 73 11 = nI b := by rw [r2 _ _ (by omega), m1 _ _ (by omega), hτ _ _ (by omega)]; exact h11
  have e1b : (1 : Int32) - nI b = nI (1 - b) := nI_sub (a := 1) (b := b) (by omega)
  have e54 : (5 : Int32) * nI (1 - b) + 4 = nI (5 * (1 - b) + 4) := by rw [show (5 : Int32) = nI 5 from rfl, nI_mul]; exact nI_add (5 * (1 - b)) 4
  rw [eb, e1b]
  refine w2_vr ?_
  unfold fX8_reads
  simp only [bnd_grd, bnd_vth, bnd_bnd, bnd_ite, bnd_sm]
  rw [gI_eq, e54, nI_clamp (by omega)]
  refine w2_gr (inb_nI (by omega) (by decide)) (w2_vr ?_)
  have hK : K2 T n (sk T n 0) a1 (sI (sI b1 73 11 (nI (1 - b))) 75 (5 * (1 - b) + 4) 0) := K2.fr (a := a1) (b := b1) ⟨(sk_le (Nat.zero_le _)).2, p3, r3, by rw [p2 _ _ (by omega)]; exact k6⟩ (fun _ _ => rfl) (fun _ => rfl) (fun k _ _ => by rw [gI_nk (by omega), gI_nk (by omega)]) (fun k => by rw [gI_nk (by omega), gI_nk (by omega)]) rfl
  have hO0 : Om (28 - f) (1 - b) a1 (sI (sI b1 73 11 (nI (1 - b))) 75 (5 * (1 - b) + 4) 0) a1 (sI (sI b1 73 11 (nI (1 - b))) 75 (5 * (1 - b) + 4) 0) := ⟨⟨rfl, rfl⟩, fun _ _ _ _ => rfl, fun _ _ _ _ => rfl, by rw [gI_nk (by omega), gI_eq]⟩
  have hV : HV (28 - f) (1 - b) a1 (sI (sI b1 73 11 (nI (1 - b))) 75 (5 * (1 - b) + 4) 0) (fun _ => 0) 0 0 a1 (sI (sI b1 73 11 (nI (1 - b))) 75 (5 * (1 - b) + 4) 0) := ⟨hO0, by rw [p2 _ _ (by omega)]; exact k7, by rw [p2 _ _ (by omega)]; exact k8, by rw [gI_eq], fun k hk => absurd hk (by omega), fun k hk => absurd hk (by omega), fun k hk => absurd hk (by omega)⟩
  /- frames of what comes out -/
  have fa : ∀ a' b', Om (28 - f) (1 - b) a1 (sI (sI b1 73 11 (nI (1 - b))) 75 (5 * (1 - b) + 4) 0) a' b' → (gR a' = gR σ ∧ gR b' = gR τ) ∧ gI a' 1 1 = 0 ∧ gI b' 73 1 = 0 ∧ (∀ c k, c ≠ 26 → c ≠ 27 → ¬ (28 - f ≤ c ∧ c ≤ 35 - f) → ¬ (c = 1 ∧ k = 1) → gI a' c k = gI σ c k) ∧ ∀ c k, ¬ (c = 73 ∧ 1 ≤ k ∧ k ≤ 11) → ¬ OB (1 - b) c k → gI b' c k = gI τ c k := by
    rintro a' b' ⟨⟨o1, o2⟩, o3, o4, o5⟩
    refine ⟨⟨?_, ?_⟩, ?_, ?_, fun c k c1 c2 c3 c4 => ?_, fun c k c1 c2 => ?_⟩
    · rw [o1, p1, k1]; rfl
    · rw [o2]; show gR b1 = gR τ; rw [r1]; rfl
    · rw [o3 _ _ (by omega) (by omega), p2 _ _ (by omega), k2 _ _ (by omega) (by omega) (by omega), gI_eq]
    · rw [o4 _ _ (by omega) (by unfold OB; omega), gI_nk (by omega), gI_nk (by omega), r2 _ _ (by omega), gI_eq]
    · rw [o3 c k c1 (by omega), p2 c k (by omega), k2 c k c1 c2 (by omega), gI_nk (by omega)]
    · have c2' := c2
      unfold OB at c2'
      rw [o4 c k (by omega) c2, gI_nk (by omega), gI_nk (by omega), r2 c k (by omega), m1 c k (by omega)]
  have hfail : ∀ a' b', FlO (Om (28 - f) (1 - b) a1 (sI (sI b1 73 11 (nI (1 - b))) 75 (5 * (1 - b) + 4) 0)) a' b' → W2 (if gI a' 26 7 = 0 then (
          vthen (sR a' 1 5 (gR a' 1 6)) fun σ6 =>
          vthen (sR σ6 1 6 (gR a' 1 5)) fun σ7 =>
          vthen (flI σ7 30 12 (0 : Int32)) fun σ8 =>
          vthen (sI σ8 58 0 (0 : Int32)) fun σ9 =>
          some ((gI σ9 (gR σ9 1 5) 5), σ9)
          ) else (
          some (gI a' 26 7, a')
          )) (vthen (sI b' 73 11 ((1 : Int32) - (gI b' 73 11))) fun σ15 => some ((gI σ15 73 4), σ15)) (FP f (1 - b) σ τ) := by
    rintro a' b' ⟨q1, q2, q3⟩
    obtain ⟨⟨o1, o2⟩, o3, o4, o5, o6⟩ := fa a' b' q3
    have e11' : gI b' 73 11 = nI (1 - b) := q3.2.2.2
    have e1bb : (1 : Int32) - nI (1 - b) = nI b := by
      rw [show (1 : Int32) - nI (1 - b) = nI (1 - (1 - b)) from nI_sub (a := 1) (b := 1 - b) (by omega)]
      exact congrArg nI (by omega)
    rw [if_neg q2, e11', e1bb]
    refine w2_vr (w2_some ⟨?_, Or.inr ⟨o2, o3, ?_, fun c k c1 c2 c3 c4 _ _ => o5 c k c1 c2 c3 c4, fun c k c1 c2 c3 => ?_, Or.inl ⟨o1, fun k => o5 _ _ (by omega) (by omega) (by omega) (by omega), fun k => o5 _ _ (by omega) (by omega) (by omega) (by omega), fun k hk => ?_, fun k => ?_⟩⟩⟩)
    · dsimp only; rw [gI_nk (by omega)]; exact q1
    · dsimp only; rw [gI_nk (by omega)]; exact o4
    · dsimp only; rw [gI_nk (by omega)]; exact o6 c k (by omega) c3
    · dsimp only
      rcases hk with rfl | rfl | rfl
      · rw [gI_eq, hτ _ _ (by omega)]; exact h11.symm
      · rw [gI_nk (by omega)]; exact o6 _ _ (by omega) (by unfold OB; omega)
      · rw [gI_nk (by omega)]; exact o6 _ _ (by omega) (by unfold OB; omega)
    · dsimp only; rw [gI_nk (by omega)]; exact o6 _ _ (by omega) (by unfold OB; omega)
  refine head2 hT hg hbb hK hV (fun a2 b2 s2 V h2 v2 => ?_) (fun a' b' hFl => ?_) (fun a' b' hFl => ?_)
  case refine_2 =>
    rw [if_neg (c := false = true) (by decide), if_neg (c := false = true) (by decide), if_neg (c := false = true) (by decide)]
    exact hfail a' b' hFl
  case refine_3 =>
    rw [if_neg (c := false = true) (by decide), if_neg (c := false = true) (by decide)]
    exact hfail a' b' hFl
  obtain ⟨w1, w2, w3, w4, w5, w6, w7⟩ := v2
  have hR := rgAll w7
  have hF : Fm (28 - f) (1 - b) a1 (sI (sI b1 73 11 (nI (1 - b))) 75 (5 * (1 - b) + 4) 0) (V 0) (V 1) (V 2) (V 3) 0 0 (fun _ => 0) a2 b2 := ⟨w1, ⟨⟨w5 0 (by omega), w5 1 (by omega), w5 2 (by omega), w5 3 (by omega)⟩, w6 0 (by omega), w6 1 (by omega), w6 2 (by omega), w6 3 (by omega)⟩, w2, w3, w4, fun p hp => absurd hp (by omega), fun p hp => absurd hp (by omega)⟩
  rw [if_pos rfl, if_pos rfl]
  unfold fX2_readQuestions
  refine quests2 hT hg hbb hR (fun q N a3 b3 s3 hq h3 f3 => ?_) (fun a' b' hFl => ?_) 12 0 (fun _ => 0) a2 b2 s2 fuel fuel (by omega) (fuel_gt (by omega)) (fuel_gt (by omega)) h2 hF
  case refine_2 =>
    rw [if_neg (c := false = true) (by decide), if_neg (c := false = true) (by decide)]
    exact hfail a' b' hFl
  obtain ⟨⟨o1, o2⟩, o3, o4, o5, o6⟩ := fa a3 b3 f3.1
  obtain ⟨-, hHq, g5, g6, gM, hE, hM⟩ := id f3
  have e27 : gI (sI a3 (28 - f) 0 1) 26 7 = 0 := by rw [gI_nk (by omega)]; exact h3.2.2.2
  have e6 : gR (sI a3 (28 - f) 0 1) 1 6 = 28 - f := by show gR a3 1 6 = _; rw [o1]; exact hR6
  have e5 : gR (sI a3 (28 - f) 0 1) 1 5 = f := by show gR a3 1 5 = _; rw [o1]; exact hR5
  rw [if_pos rfl, if_pos rfl]
  refine w2_vl (w2_vr (w2_vr ?_))
  have b11 : gI (sI (sI b3 73 12 1) 73 65 0) 73 11 = nI (1 - b) := by rw [gI_nk (by omega), gI_nk (by omega)]; exact f3.1.2.2.2
  rw [if_pos e27, e6, e5, told8 hbb b11]
  refine w2_vl (w2_vl (w2_vl (w2_vl ?_)))
  have e15 : gR (sI (flI (sR (sR (sI a3 (28 - f) 0 1) 1 5 (28 - f)) 1 6 f) 30 12 0) 58 0 0) 1 5 = 28 - f := by
    show gR (sR (sR (sI a3 (28 - f) 0 1) 1 5 (28 - f)) 1 6 f) 1 5 = 28 - f
    rw [gR_sR, if_neg (by omega), gR_sR, if_pos ⟨rfl, rfl⟩]
  have q7 : ∀ c k, c ≠ 30 → c ≠ 58 → ¬ (c = 28 - f ∧ k = 0) → gI (sI (flI (sR (sR (sI a3 (28 - f) 0 1) 1 5 (28 - f)) 1 6 f) 30 12 0) 58 0 0) c k = gI a3 c k := fun c k c1 c2 c3 => by
    rw [gI_ne c2, gI_fl_ne c1, gI_sR, gI_sR, gI_nk c3]
  have q8 : ∀ c k, c ≠ 82 → ¬ (c = 73 ∧ (k = 12 ∨ k = 65)) → gI (flI (sI (sI b3 73 12 1) 73 65 0) 82 12 0) c k = gI b3 c k := fun c k c1 c2 => by
    rw [gI_fl_ne c1, gI_nk (by omega), gI_nk (by omega)]
  rw [e15]
  refine w2_some ⟨?_, Or.inr ⟨?_, ?_, ?_, fun c k c1 c2 c3 c4 c5 c6 => ?_, fun c k c1 c2 c3 => ?_, Or.inr ⟨?_, fun k hk => ?_, ?_, ?_, ?_, ?_, ?_, fun k hk => ?_, V 0, V 1, V 2, V 3, q, N, hR, hq, ⟨⟨?_, ?_, ?_, ?_⟩, ?_, ?_, ?_, ?_⟩, ?_, ?_, ?_, fun p hp => ⟨hM p hp, (hE p hp).fr (fun _ _ => rfl) (fun j j1 j2 => ?_) (fun j j1 i hi => ?_) (fun c c1 c2 => ?_) (fun c c1 i hi => ?_)⟩⟩⟩⟩
  · dsimp only
    rw [q7 _ _ (by omega) (by omega) (by omega), g5, gI_nk (by omega), gI_nk (by omega), gM]
  · exact o2
  · dsimp only; rw [q7 _ _ (by omega) (by omega) (by omega)]; exact o3
  · dsimp only; rw [q8 _ _ (by omega) (by omega)]; exact o4
  · dsimp only; rw [q7 c k c5 c6 (by omega)]; exact o5 c k c1 c2 c3 c4
  · dsimp only; rw [q8 c k c2 (by omega)]; exact o6 c k (by omega) c3
  · funext c k
    show gR (sR (sR (sI a3 (28 - f) 0 1) 1 5 (28 - f)) 1 6 f) c k = gR (sR (sR σ 1 5 (28 - f)) 1 6 f) c k
    rw [gR_sR, gR_sR, gR_sR, gR_sR, gR_sI, o1]
  · dsimp only; rw [gI_ne (by omega), gI_fl hk]
  · dsimp only; rw [gI_eq]
  · dsimp only; rw [gI_ne (by omega), gI_fl_ne (by omega), gI_sR, gI_sR, gI_eq]
  · dsimp only; rw [gI_fl_ne (by omega)]; exact b11
  · dsimp only; rw [gI_fl_ne (by omega), gI_nk (by omega), gI_eq]
  · dsimp only; rw [gI_fl_ne (by omega), gI_eq]
  · dsimp only; rw [gI_fl hk]
  · dsimp only; rw [q7 _ _ (by omega) (by omega) (by omega)]; exact hHq.1.1
  · dsimp only; rw [q7 _ _ (by omega) (by omega) (by omega)]; exact hHq.1.2.1
  · dsimp only; rw [q7 _ _ (by omega) (by omega) (by omega)]; exact hHq.1.2.2.1
  · dsimp only; rw [q7 _ _ (by omega) (by omega) (by omega)]; exact hHq.1.2.2.2
  · dsimp only; rw [q8 _ _ (by omega) (by omega)]; exact hHq.2.1
  · dsimp only; rw [q8 _ _ (by omega) (by omega)]; exact hHq.2.2.1
  · dsimp only; rw [q8 _ _ (by omega) (by omega)]; exact hHq.2.2.2.1
  · dsimp only; rw [q8 _ _ (by omega) (by omega)]; exact hHq.2.2.2.2
  · dsimp only; rw [q7 _ _ (by omega) (by omega) (by omega)]; exact g5
  · dsimp only; rw [q7 _ _ (by omega) (by omega) (by omega)]; exact g6
  · dsimp only; rw [q8 _ _ (by omega) (by omega)]; exact gM
  · exact q7 _ _ (by omega) (by omega) (by omega)
  · exact q7 _ _ (by omega) (by omega) (by omega)
  · exact q8 _ _ (by omega) (by omega)
  · exact q8 _ _ (by omega) (by omega)
