/-! Noise. -/
def nsX (X : Nat) : Nat := (25173 * X + 13849) % 65536
def nsAt (w q X : Nat) : Nat := nsX (nsX X) / 4 % q * w + nsX X / 4 % w
def nsV (X : Nat) (x : Int32) : Int32 := if nsX (nsX (nsX X)) / 4 % 3 = 0 then nI (x.toNatClampNeg - 1) else nI (min 9 (x.toNatClampNeg + 1))
def nsS (X : Nat) : Nat → Nat
  | 0 => X
  | i + 1 => nsX (nsX (nsX (nsS X i)))
def nsD (w q X : Nat) (d : Nat → Int32) : Nat → Nat → Int32
  | 0 => d
  | i + 1 => upd (nsD w q X d i) (nsAt w q (nsS X i)) (nsV (nsS X i) (nsD w q X d i (nsAt w q (nsS X i))))
def nsN (w q X : Nat) (d : Nat → Int32) : Nat → Int32
  | 0 => 0
  | i + 1 => if nsV (nsS X i) (nsD w q X d i (nsAt w q (nsS X i))) = nsD w q X d i (nsAt w q (nsS X i)) then nsN w q X d i else nsN w q X d i + 1
theorem nsX_lt (X : Nat) : nsX X < 65536 := Nat.mod_lt _ (by decide)
theorem nsS_lt {X : Nat} (h : X < 65536) : ∀ i, nsS X i < 65536
  | 0 => h
  | i + 1 => nsX_lt _
theorem nsAt_lt {w q X : Nat} (hw : 1 ≤ w) (hq : 1 ≤ q) : nsAt w q X < w * q := cell_lt (Nat.mod_lt _ hw) (Nat.mod_lt _ hq)
theorem rng_nat {x : Int32} (h : inR x 0 9) : ∃ m, m < 10 ∧ x = nI m := by
  obtain ⟨m, hm, e⟩ := in_of (x := x) (w := 10) (by decide) (by have := h.1; have := h.2; omega)
  exact ⟨m, hm, e⟩
theorem nsV_rng {X : Nat} {x : Int32} (h : inR x 0 9) : inR (nsV X x) 0 9 := by
  obtain ⟨m, hm, rfl⟩ := rng_nat h
  unfold nsV inR
  rw [nI_clamp (by omega)]
  split <;> rw [nI_toInt (by omega)] <;> omega
theorem nsD_alk {w q X : Nat} {d d' : Nat → Int32} (h : alk (w * q) d d') : ∀ i, alk (w * q) (nsD w q X d i) (nsD w q X d' i)
  | 0 => h
  | i + 1 => fun k hk => by
    have ih := nsD_alk (X := X) h i
    show (if k = nsAt w q (nsS X i) then _ else _) = (if k = nsAt w q (nsS X i) then _ else _) ∧ inR (if k = nsAt w q (nsS X i) then _ else _) 0 9
    by_cases c : k = nsAt w q (nsS X i)
    · rw [if_pos c, if_pos c, (ih _ (c ▸ hk)).1]
      exact ⟨rfl, nsV_rng (ih _ (c ▸ hk)).2⟩
    · rw [if_neg c, if_neg c]
      exact ih k hk
theorem nsN_alk {w q X : Nat} {d d' : Nat → Int32} (hw : 1 ≤ w) (hq : 1 ≤ q) (h : alk (w * q) d d') : ∀ i, nsN w q X d i = nsN w q X d' i
  | 0 => rfl
  | i + 1 => by
    have ih := nsN_alk (X := X) hw hq h i
    have al := (nsD_alk (X := X) h i _ (nsAt_lt (X := nsS X i) hw hq)).1
    show (if nsV (nsS X i) (nsD w q X d i (nsAt w q (nsS X i))) = nsD w q X d i (nsAt w q (nsS X i)) then nsN w q X d i else nsN w q X d i + 1) = if nsV (nsS X i) (nsD w q X d' i (nsAt w q (nsS X i))) = nsD w q X d' i (nsAt w q (nsS X i)) then nsN w q X d' i else nsN w q X d' i + 1
    rw [al, ih]
theorem nz_nI {M : Nat} (h : 0 < M) (h2 : M < 2 ^ 31) : nz (nI M) = true := decide_eq_true (nI_ne0 h h2)
theorem draw7 {σ : SS} {X M : Nat} (h : gI σ 1 8 = nI X) (hX : X < 65536) (hM : 1 ≤ M ∧ M ≤ 40) : fX7_drawBelow σ (nI M) = some (nI (nsX X / 4 % M), sI σ 1 8 (nI (nsX X))) := by
  unfold fX7_drawBelow
  have e : ((25173 : Int32) * nI X + 13849) &&& 65535 = nI (nsX X) := by
    rw [show (25173 : Int32) = nI 25173 from rfl, nI_mul, show (13849 : Int32) = nI 13849 from rfl, nI_add]
    exact pk_andN (n := 25173 * X + 13849) (by omega) 16 rfl
  have hl := nsX_lt X
  simp only [vthen_eq]
  rw [h, e, if_pos (by show nI 1 ≤ nI M; exact nI_le hM.1 (by omega)), grd_eq _ (nz_nI (by omega) (by omega)), gI_eq, show nI (nsX X) / 4 = nI (nsX X / 4) from pk_div (d := 4) (by omega) (by omega) (by omega)]
  unfold irm
  rw [pk_rem (by omega) (by omega) (by omega)]
theorem draw8 {σ : SS} {X M : Nat} (h : gI σ 73 31 = nI X) (hX : X < 65536) (hM : 1 ≤ M ∧ M ≤ 40) : fX8_draw σ (nI M) = some (nI (nsX X / 4 % M), sI σ 73 31 (nI (nsX X))) := by
  unfold fX8_draw
  have e : irm ((25173 : Int32) * nI X + 13849) 65536 = nI (nsX X) := by
    rw [show (25173 : Int32) = nI 25173 from rfl, nI_mul, show (13849 : Int32) = nI 13849 from rfl, nI_add]
    unfold irm
    exact pk_rem (a := 25173 * X + 13849) (d := 65536) (by omega) (by omega) (by omega)
  have hl := nsX_lt X
  simp only [vthen_eq]
  rw [h, e, grd_eq _ (nz_nI (by omega) (by omega)), gI_eq, show nI (nsX X) / 4 = nI (nsX X / 4) from pk_div (d := 4) (by omega) (by omega) (by omega)]
  unfold irm
  rw [pk_rem (by omega) (by omega) (by omega)]
theorem mm_dn (σ : SS) : ∀ m, m < 10 → fJ9_max_7cf53 σ (0 : Int32) (fJ9_min_7cf53 σ (9 : Int32) (nI m + (-1 : Int32))) = nI (m - 1) := by
  unfold fJ9_max_7cf53 fJ9_min_7cf53; decide +kernel
theorem mm_up (σ : SS) : ∀ m, m < 10 → fJ9_max_7cf53 σ (0 : Int32) (fJ9_min_7cf53 σ (9 : Int32) (nI m + (1 : Int32))) = nI (min 9 (m + 1)) := by
  unfold fJ9_max_7cf53 fJ9_min_7cf53; decide +kernel
theorem m8_dn : ∀ m, m < 10 → ((0 ≤ (nI m + (-1 : Int32)).toInt ∧ (nI m + (-1 : Int32)).toInt ≤ 9) ↔ ¬ nI (m - 1) = nI m) ∧ (¬ nI (m - 1) = nI m → nI m + (-1 : Int32) = nI (m - 1)) := by decide +kernel
theorem m8_up : ∀ m, m < 10 → ((0 ≤ (nI m + (1 : Int32)).toInt ∧ (nI m + (1 : Int32)).toInt ≤ 9) ↔ ¬ nI (min 9 (m + 1)) = nI m) ∧ (¬ nI (min 9 (m + 1)) = nI m → nI m + (1 : Int32) = nI (min 9 (m + 1))) := by decide +kernel
section NOISE
variable {σ : SS} {s w q X K : Nat}
theorem noise7 (hs : s = 3 ∨ s = 6) (hR : gR σ 1 2 = s) (hw : 1 ≤ w ∧ w ≤ 40) (hq : 1 ≤ q ∧ q ≤ 40) (e1 : gI σ s 0 = nI w) (e2 : gI σ s 1 = nI q) (hX : gI σ 1 8 = nI X) (hX2 : X < 65536) (hd : ∀ k, k < w * q → inR (gI σ (s + 1) k) 0 9) (hK : K ≤ 500) : WP (X7_noise_L17 (nI K) fuel (0 : Int32) (0 : Int32) σ) (fun r => r.1 = nsN w q X (gI σ (s + 1)) K ∧ gR r.2 = gR σ ∧ gI r.2 1 8 = nI (nsS X K) ∧ gI r.2 (s + 1) = nsD w q X (gI σ (s + 1)) K ∧ ∀ c k, c ≠ s + 1 → ¬ (c = 1 ∧ k = 8) → gI r.2 c k = gI σ c k) := by
  have al : alk (w * q) (gI σ (s + 1)) (gI σ (s + 1)) := fun k hk => ⟨rfl, hd k hk⟩
  unfold X7_noise_L17
  refine wf_3 K (fun i v c s' => v = nsN w q X (gI σ (s + 1)) i ∧ c = nI i ∧ gR s' = gR σ ∧ gI s' 1 8 = nI (nsS X i) ∧ gI s' (s + 1) = nsD w q X (gI σ (s + 1)) i ∧ ∀ c k, c ≠ s + 1 → ¬ (c = 1 ∧ k = 8) → gI s' c k = gI σ c k) ⟨rfl, rfl, rfl, hX, rfl, fun _ _ _ _ => rfl⟩ (by omega) ?_ ?_
  · rintro i _ _ s' rec hi ⟨rfl, rfl, hr1, hx, hp, hk⟩ hr
    have g : gR s' 1 2 = s := by rw [hr1]; exact hR
    have b0 := nsS_lt hX2 i
    have b1 := nsX_lt (nsS X i)
    have b2 := nsX_lt (nsX (nsS X i))
    have q1 : gI s' s 0 = nI w := (hk s 0 (by omega) (by omega)).trans e1
    have q2 : gI s' s 1 = nI q := (hk s 1 (by omega) (by omega)).trans e2
    have hx1 : nsX (nsS X i) / 4 % w < w := Nat.mod_lt _ hw.1
    have hy1 : nsX (nsX (nsS X i)) / 4 % q < q := Nat.mod_lt _ hq.1
    have hat := cell_lt hx1 hy1
    rw [if_neg (nI_ge hi (by omega)), g, q1, bnd_of _ (draw7 hx b0 hw), show gR (sI s' 1 8 (nI (nsX (nsS X i)))) 1 2 = s from g, gI_nk (by omega), q2, bnd_of _ (draw7 (gI_eq _ _ _ _) b1 hq), show (3 : Int32) = nI 3 from rfl, bnd_of _ (draw7 (gI_eq _ _ _ _) b2 (by decide))]
    generalize hσ : sI (sI (sI s' 1 8 (nI (nsX (nsS X i)))) 1 8 (nI (nsX (nsX (nsS X i))))) 1 8 (nI (nsX (nsX (nsX (nsS X i))))) = σ3
    have g3 : gR σ3 1 2 = s := by rw [← hσ]; exact g
    have k3 : ∀ c k, ¬ (c = 1 ∧ k = 8) → gI σ3 c k = gI s' c k := fun c k h => by rw [← hσ, gI_nk h, gI_nk h, gI_nk h]
    have x3 : gI σ3 1 8 = nI (nsS X (i + 1)) := by rw [← hσ, gI_eq]; rfl
    obtain ⟨m, hm, em⟩ := rng_nat (nsD_alk (X := X) al i _ hat).2
    have at3 : gI σ3 (s + 1) (nsX (nsX (nsS X i)) / 4 % q * w + nsX (nsS X i) / 4 % w) = nI m := by rw [k3 _ _ (by omega), hp]; exact em
    have fin : ∀ v, v = nsV (nsS X i) (nI m) → WP (bnd (fX6_put σ3 s (nI (nsX (nsS X i) / 4 % w)) (nI (nsX (nsX (nsS X i)) / 4 % q)) v) fun b19 σ21 => if b19 = true then rec (nsN w q X (gI σ (s + 1)) i + (1 : Int32)) (nI i + (1 : Int32)) σ21 else rec (nsN w q X (gI σ (s + 1)) i) (nI i + (1 : Int32)) σ21) (fun r => r.1 = nsN w q X (gI σ (s + 1)) K ∧ gR r.2 = gR σ ∧ gI r.2 1 8 = nI (nsS X K) ∧ gI r.2 (s + 1) = nsD w q X (gI σ (s + 1)) K ∧ ∀ c k, c ≠ s + 1 → ¬ (c = 1 ∧ k = 8) → gI r.2 c k = gI σ c k) := fun v hv => by
      obtain ⟨b, z, zb⟩ := put_in (σ := σ3) (s := s) (w := w) (h := q) (by rw [k3 _ _ (by omega)]; exact q1) (by rw [k3 _ _ (by omega)]; exact q2) hw.2 hq.2 hx1 hy1 v
      rw [bnd_of _ z, nI_1]
      rw [at3] at zb
      have J : ∀ n, n = nsN w q X (gI σ (s + 1)) (i + 1) → WP (rec n (nI (i + 1)) (sI σ3 (s + 1) (nsX (nsX (nsS X i)) / 4 % q * w + nsX (nsS X i) / 4 % w) v)) (fun r => r.1 = nsN w q X (gI σ (s + 1)) K ∧ gR r.2 = gR σ ∧ gI r.2 1 8 = nI (nsS X K) ∧ gI r.2 (s + 1) = nsD w q X (gI σ (s + 1)) K ∧ ∀ c k, c ≠ s + 1 → ¬ (c = 1 ∧ k = 8) → gI r.2 c k = gI σ c k) := fun n hn => by
        refine hr _ _ _ ⟨hn, rfl, by rw [← hr1, ← hσ]; rfl, ?_, ?_, fun c k h1 h2 => ?_⟩
        · rw [gI_nk (by omega)]; exact x3
        · show gI (sA σ3 (s + 1) (upd (gI σ3 (s + 1)) _ v)) (s + 1) = _
          rw [gI_A, show gI σ3 (s + 1) = gI s' (s + 1) from funext fun k => k3 _ _ (by omega), hp, hv, ← em]
          rfl
        · rw [gI_nk (by omega), k3 _ _ h2]; exact hk c k h1 h2
      have e : nsN w q X (gI σ (s + 1)) (i + 1) = if v = nI m then nsN w q X (gI σ (s + 1)) i else nsN w q X (gI σ (s + 1)) i + 1 := by
        show (if nsV (nsS X i) (nsD w q X (gI σ (s + 1)) i (nsAt w q (nsS X i))) = nsD w q X (gI σ (s + 1)) i (nsAt w q (nsS X i)) then _ else _) = _
        rw [show nsD w q X (gI σ (s + 1)) i (nsAt w q (nsS X i)) = nI m from em, ← hv]
      by_cases c : v = nI m
      · rw [if_neg (by rw [zb]; simp [c])]
        exact J _ (by rw [e, if_pos c])
      · rw [if_pos (by rw [zb]; simp; exact fun h => c h.symm)]
        exact J _ (by rw [e, if_neg c])
    simp only [vthen_eq]
    rw [g3, at_in (by rw [k3 _ _ (by omega)]; exact q1) (by rw [k3 _ _ (by omega)]; exact q2) hw.2 hq.2 hx1 hy1, bnd1_some, bnd1_some, at3, mm_dn _ m hm, mm_up _ m hm]
    by_cases c : nsX (nsX (nsX (nsS X i))) / 4 % 3 = 0
    · rw [if_pos (by rw [c]; rfl)]
      exact fin _ (by unfold nsV; rw [if_pos c, nI_clamp (by omega)])
    · rw [if_neg (nI_ne0 (by omega) (by omega))]
      exact fin _ (by unfold nsV; rw [if_neg c, nI_clamp (by omega)])
  · rintro _ _ s' rec ⟨rfl, rfl, h⟩
    rw [if_pos (nI_le (Nat.le_refl _) (by omega))]
    exact wp_some ⟨rfl, h⟩
theorem noise8 (hw : 1 ≤ w ∧ w ≤ 40) (hq : 1 ≤ q ∧ q ≤ 40) (e3 : gI σ 73 29 = nI w) (e4 : gI σ 73 30 = nI q) (hX : gI σ 73 31 = nI X) (hX2 : X < 65536) (hd : ∀ k, k < w * q → inR (gI σ 83 k) 0 9) (hK : K ≤ 500) : WP (X8_noise_L17 (nI K) fuel (0 : Int32) (0 : Int32) σ) (fun r => r.1 = nsN w q X (gI σ 83) K ∧ gR r.2 = gR σ ∧ gI r.2 73 31 = nI (nsS X K) ∧ gI r.2 83 = nsD w q X (gI σ 83) K ∧ ∀ c k, c ≠ 83 → ¬ (c = 73 ∧ k = 31) → gI r.2 c k = gI σ c k) := by
  have al : alk (w * q) (gI σ 83) (gI σ 83) := fun k hk => ⟨rfl, hd k hk⟩
  have ha := area_le hw.2 hq.2
  unfold X8_noise_L17
  refine wf_3 K (fun i v c s' => v = nsN w q X (gI σ 83) i ∧ c = nI i ∧ gR s' = gR σ ∧ gI s' 73 31 = nI (nsS X i) ∧ gI s' 83 = nsD w q X (gI σ 83) i ∧ ∀ c k, c ≠ 83 → ¬ (c = 73 ∧ k = 31) → gI s' c k = gI σ c k) ⟨rfl, rfl, rfl, hX, rfl, fun _ _ _ _ => rfl⟩ (by omega) ?_ ?_
  · rintro i _ _ s' rec hi ⟨rfl, rfl, hr1, hx, hp, hk⟩ hr
    have b0 := nsS_lt hX2 i
    have b1 := nsX_lt (nsS X i)
    have b2 := nsX_lt (nsX (nsS X i))
    have q1 : gI s' 73 29 = nI w := (hk _ _ (by omega) (by omega)).trans e3
    have q2 : gI s' 73 30 = nI q := (hk _ _ (by omega) (by omega)).trans e4
    have hx1 : nsX (nsS X i) / 4 % w < w := Nat.mod_lt _ hw.1
    have hy1 : nsX (nsX (nsS X i)) / 4 % q < q := Nat.mod_lt _ hq.1
    have hat := cell_lt hx1 hy1
    rw [if_neg (nI_ge hi (by omega)), q1, bnd_of _ (draw8 hx b0 hw), gI_nk (by omega), q2, bnd_of _ (draw8 (gI_eq _ _ _ _) b1 hq), show (3 : Int32) = nI 3 from rfl, bnd_of _ (draw8 (gI_eq _ _ _ _) b2 (by decide))]
    generalize hσ : sI (sI (sI s' 73 31 (nI (nsX (nsS X i)))) 73 31 (nI (nsX (nsX (nsS X i))))) 73 31 (nI (nsX (nsX (nsX (nsS X i))))) = σ3
    have k3 : ∀ c k, ¬ (c = 73 ∧ k = 31) → gI σ3 c k = gI s' c k := fun c k h => by rw [← hσ, gI_nk h, gI_nk h, gI_nk h]
    have x3 : gI σ3 73 31 = nI (nsS X (i + 1)) := by rw [← hσ, gI_eq]; rfl
    obtain ⟨m, hm, em⟩ := rng_nat (nsD_alk (X := X) al i _ hat).2
    have at3 : gI σ3 83 (nsX (nsX (nsS X i)) / 4 % q * w + nsX (nsS X i) / 4 % w) = nI m := by rw [k3 _ _ (by omega), hp]; exact em
    have e : ∀ v, v = nsV (nsS X i) (nI m) → nsN w q X (gI σ 83) (i + 1) = if v = nI m then nsN w q X (gI σ 83) i else nsN w q X (gI σ 83) i + 1 := fun v hv => by
      show (if nsV (nsS X i) (nsD w q X (gI σ 83) i (nsAt w q (nsS X i))) = nsD w q X (gI σ 83) i (nsAt w q (nsS X i)) then _ else _) = _
      rw [show nsD w q X (gI σ 83) i (nsAt w q (nsS X i)) = nI m from em, ← hv]
    have fin : ∀ v, v = nsV (nsS X i) (nI m) → ∀ n s2, n = nsN w q X (gI σ 83) (i + 1) → (s2 = sI σ3 83 (nsX (nsX (nsS X i)) / 4 % q * w + nsX (nsS X i) / 4 % w) v ∨ s2 = σ3 ∧ v = nI m) → WP (rec n (nI (i + 1)) s2) (fun r => r.1 = nsN w q X (gI σ 83) K ∧ gR r.2 = gR σ ∧ gI r.2 73 31 = nI (nsS X K) ∧ gI r.2 83 = nsD w q X (gI σ 83) K ∧ ∀ c k, c ≠ 83 → ¬ (c = 73 ∧ k = 31) → gI r.2 c k = gI σ c k) := fun v hv n s2 hn hs2 => by
      have p3 : gI σ3 83 = nsD w q X (gI σ 83) i := by rw [← hp]; exact funext fun k => k3 _ _ (by omega)
      have key : gI s2 83 = nsD w q X (gI σ 83) (i + 1) := by
        show _ = upd (nsD w q X (gI σ 83) i) (nsAt w q (nsS X i)) (nsV (nsS X i) (nsD w q X (gI σ 83) i (nsAt w q (nsS X i))))
        rw [show nsD w q X (gI σ 83) i (nsAt w q (nsS X i)) = nI m from em, ← hv]
        rcases hs2 with rfl | ⟨rfl, h2⟩
        · show gI (sA σ3 83 (upd (gI σ3 83) _ v)) 83 = _
          rw [gI_A, p3]; rfl
        · rw [p3, h2]
          funext k
          show _ = if k = nsAt w q (nsS X i) then nI m else _
          by_cases c : k = nsAt w q (nsS X i)
          · rw [if_pos c, c]; exact em
          · rw [if_neg c]
      rcases hs2 with rfl | ⟨rfl, h2⟩
      · refine hr _ _ _ ⟨hn, rfl, by rw [← hr1, ← hσ]; rfl, ?_, key, fun c k h1 h2 => ?_⟩
        · rw [gI_nk (by omega)]; exact x3
        · rw [gI_nk (by omega), k3 _ _ h2]; exact hk c k h1 h2
      · refine hr _ _ _ ⟨hn, rfl, by rw [← hr1, ← hσ]; rfl, x3, key, fun c k h1 h2 => ?_⟩
        rw [k3 _ _ h2]; exact hk c k h1 h2
    simp only [vthen_eq, in_eq, le_i, Int32.reduceToInt]
    rw [show gI σ3 73 29 = nI w by rw [k3 _ _ (by omega)]; exact q1, ix_m, grd_eq _ (inb_nI (by omega) (by omega)), nI_clamp (by omega), at3, nI_1]
    by_cases c : nsX (nsX (nsX (nsS X i))) / 4 % 3 = 0
    · have hv : nI (m - 1) = nsV (nsS X i) (nI m) := by unfold nsV; rw [if_pos c, nI_clamp (by omega)]
      obtain ⟨d1, d2⟩ := m8_dn m hm
      rw [if_pos (c := nI (nsX (nsX (nsX (nsS X i))) / 4 % 3) = 0) (by rw [c]; rfl)]
      by_cases z : nI (m - 1) = nI m
      · rw [if_neg (fun h => d1.mp h z)]
        exact fin _ hv _ _ (by rw [e _ hv, if_pos z]) (Or.inr ⟨rfl, z⟩)
      · rw [if_pos (d1.mpr z)]
        rw [d2 z]
        exact fin _ hv _ _ (by rw [e _ hv, if_neg z]) (Or.inl rfl)
    · have hv : nI (min 9 (m + 1)) = nsV (nsS X i) (nI m) := by unfold nsV; rw [if_neg c, nI_clamp (by omega)]
      obtain ⟨d1, d2⟩ := m8_up m hm
      rw [if_neg (c := nI (nsX (nsX (nsX (nsS X i))) / 4 % 3) = 0) (nI_ne0 (by omega) (by omega)), grd_eq _ (inb_nI (by omega) (by omega))]
      by_cases z : nI (min 9 (m + 1)) = nI m
      · rw [if_neg (fun h => d1.mp h z)]
        exact fin _ hv _ _ (by rw [e _ hv, if_pos z]) (Or.inr ⟨rfl, z⟩)
      · rw [if_pos (d1.mpr z)]
        rw [d2 z]
        exact fin _ hv _ _ (by rw [e _ hv, if_neg z]) (Or.inl rfl)
  · rintro _ _ s' rec ⟨rfl, rfl, h⟩
    rw [if_pos (nI_le (Nat.le_refl _) (by omega))]
    exact wp_some ⟨rfl, h⟩
end NOISE
theorem op9 : ∀ a σ, Rel σ → st9 Rel a σ := by
  intro a σ ⟨s, f, h⟩
  obtain ⟨hs, hf, hR1, -⟩ := id h.1
  obtain ⟨w, q, hw, hq, e1, e2, e3, e4, hd⟩ := h.2.2.1
  have h7 := h.2.2.2.2.2.2.1
  by_cases hc : 0 ≤ (a 1).toInt ∧ (a 1).toInt < 501
  · obtain ⟨K, hK, eK⟩ := in_of (x := a 1) (w := 501) (by decide) hc
    obtain ⟨X, hX, eX⟩ := in_of (x := gI σ 73 31) (w := 65536) (by decide) (by have := h7.2.1; have := h7.2.2; omega)
    have al : alk (w * q) (gI σ (s + 1)) (gI σ 83) := hd
    obtain ⟨⟨v, σ1⟩, x1, y1, y2, y3, y4, y5⟩ := noise7 (σ := σ) (K := K) hs hR1 ⟨by omega, hw.2⟩ ⟨by omega, hq.2⟩ e1 e2 (h7.1.trans eX) hX (fun k hk => by rw [(hd k hk).1]; exact (hd k hk).2) (by omega)
    dsimp only at y1 y2 y3 y4 y5
    have k83 : gI σ1 83 = gI σ 83 := funext fun j => y5 _ _ (by omega) (by omega)
    obtain ⟨⟨v2, σ2⟩, x2, z1, z2, z3, z4, z5⟩ := noise8 (σ := σ1) (K := K) (w := w) (q := q) (X := X) ⟨by omega, hw.2⟩ ⟨by omega, hq.2⟩ (by rw [y5 _ _ (by omega) (by omega)]; exact e3) (by rw [y5 _ _ (by omega) (by omega)]; exact e4) (by rw [y5 _ _ (by omega) (by omega)]; exact eX) hX (fun k hk => by rw [k83]; exact (hd k hk).2) (by omega)
    dsimp only at z1 z2 z3 z4 z5
    rw [k83] at z1 z4
    have ev : v2 = v := by rw [z1, y1]; exact (nsN_alk (by omega) (by omega) al K).symm
    subst ev
    refine ⟨v2, σ1, σ2, ?_, ?_, s, f, ?_⟩
    · unfold fX7_noise
      simp only [lt_i, le_i, Int32.reduceToInt]
      rw [if_neg (by omega), if_pos (by omega), eK]; exact x1
    · unfold fX8_noise
      simp only [in_eq, le_i, Int32.reduceToInt]
      rw [if_pos (by omega), eK]; exact x2
    · have ad := nsD_alk (X := X) al K
      refine h.of (z2.trans y2) ?h1 ?h2 ?h3 ?h4 ?h5 ?h6 ?h7 ?h8 ?h9
      case h2 =>
        refine Or.inl ⟨w, q, hw, hq, ?_, ?_, ?_, ?_, fun k hk => ?_⟩
        · rw [z5 _ _ (by omega) (by omega), y5 _ _ (by omega) (by omega)]; exact e1
        · rw [z5 _ _ (by omega) (by omega), y5 _ _ (by omega) (by omega)]; exact e2
        · rw [z5 _ _ (by omega) (by omega), y5 _ _ (by omega) (by omega)]; exact e3
        · rw [z5 _ _ (by omega) (by omega), y5 _ _ (by omega) (by omega)]; exact e4
        · rw [z5 _ _ (by omega) (by omega), y4, z4]; exact ad k hk
      case h6 =>
        refine Or.inl ⟨?_, ?_⟩
        · rw [z5 _ _ (by omega) (by omega), y3, z3]
        · have := nsS_lt hX K
          unfold inR
          rw [z3, nI_toInt (by omega)]; omega
      all_goals exact Or.inr fun c k hp => by rw [z5 _ _ (by omega) (by omega), y5 _ _ (by omega) (by omega)]
  · refine ⟨-1, σ, σ, ?_, ?_, s, f, h⟩
    · unfold fX7_noise
      simp only [lt_i, le_i, Int32.reduceToInt]
      repeat' split
      all_goals first | omega | rfl
    · unfold fX8_noise
      simp only [in_eq, lt_i, le_i, Int32.reduceToInt]
      repeat' split
      all_goals first | omega | rfl
