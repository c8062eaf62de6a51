/-! Stretch. -/
def sN (src : Nat → Int32) (k : Nat) : Nat := (src k).toNatClampNeg
def loN (src : Nat → Int32) (N : Nat) : Nat := itr (fun i l => min l (sN src i)) 9 N
def hiN (src : Nat → Int32) (N : Nat) : Nat := itr (fun i g => max g (sN src i)) 0 N
theorem sN_of {src : Nat → Int32} {k : Nat} (h : inR (src k) 0 9) : src k = nI (sN src k) ∧ sN src k ≤ 9 := by
  obtain ⟨m, hm, e⟩ := rng_nat h
  unfold sN
  rw [e, nI_clamp (by omega)]
  exact ⟨rfl, by omega⟩
theorem loN_le {src : Nat → Int32} : ∀ N, loN src N ≤ 9 ∧ ∀ k, k < N → loN src N ≤ sN src k
  | 0 => ⟨Nat.le_refl _, fun k hk => absurd hk (by omega)⟩
  | N + 1 => by
    obtain ⟨h1, h2⟩ := loN_le (src := src) N
    have e : loN src (N + 1) = min (loN src N) (sN src N) := rfl
    rw [e]
    refine ⟨by omega, fun k hk => ?_⟩
    by_cases c : k = N
    · subst c; omega
    · have := h2 k (by omega); omega
theorem hiN_le {src : Nat → Int32} : ∀ N, (∀ k, k < N → sN src k ≤ 9) → hiN src N ≤ 9 ∧ ∀ k, k < N → sN src k ≤ hiN src N
  | 0, _ => ⟨Nat.zero_le 9, fun k hk => absurd hk (by omega)⟩
  | N + 1, h => by
    obtain ⟨h1, h2⟩ := hiN_le (src := src) N fun k hk => h k (by omega)
    have e : hiN src (N + 1) = max (hiN src N) (sN src N) := rfl
    have := h N (by omega)
    rw [e]
    refine ⟨by omega, fun k hk => ?_⟩
    by_cases c : k = N
    · subst c; omega
    · have := h2 k (by omega); omega
theorem lohi_congr {src src' : Nat → Int32} {N : Nat} (h : ∀ k, k < N → src k = src' k) : loN src N = loN src' N ∧ hiN src N = hiN src' N :=
  ⟨itr_congr fun i hi s => by unfold sN; rw [h i hi], itr_congr fun i hi s => by unfold sN; rw [h i hi]⟩
def stF (src : Nat → Int32) (N k : Nat) : Int32 := if hiN src N ≤ loN src N then src k else nI ((sN src k - loN src N) * 9 / (hiN src N - loN src N))
theorem st_val {src : Nat → Int32} {N k : Nat} (hs : ∀ k, k < N → inR (src k) 0 9) (hk : k < N) (h : loN src N < hiN src N) : (src k - nI (loN src N)) * 9 / (nI (hiN src N) - nI (loN src N)) = stF src N k := by
  have h1 := (sN_of (hs k hk)).1
  have h2 := (loN_le (src := src) N).2 k hk
  have h3 := (hiN_le (src := src) N fun k hk => (sN_of (hs k hk)).2)
  have h4 := h3.2 k hk
  unfold stF
  rw [if_neg (by omega), h1, nI_sub h2, nI_sub (by omega), show (9 : Int32) = nI 9 from rfl, nI_mul, pk_div (by omega) (by omega) (by omega)]
theorem st_rng {src : Nat → Int32} {N k : Nat} (hs : ∀ k, k < N → inR (src k) 0 9) (hk : k < N) : inR (stF src N k) 0 9 := by
  unfold stF
  by_cases c : hiN src N ≤ loN src N
  · rw [if_pos c]; exact hs k hk
  · rw [if_neg c]
    have h2 := (loN_le (src := src) N).2 k hk
    have h3 := (hiN_le (src := src) N fun k hk => (sN_of (hs k hk)).2)
    have h4 := h3.2 k hk
    have h5 : (sN src k - loN src N) * 9 / (hiN src N - loN src N) ≤ 9 := by
      apply Nat.div_le_of_le_mul
      exact Nat.mul_le_mul_right _ (by omega)
    generalize (sN src k - loN src N) * 9 / (hiN src N - loN src N) = z at h5 ⊢
    unfold inR
    rw [nI_toInt (by omega)]; omega
theorem st_congr {src src' : Nat → Int32} {N k : Nat} (hk : k < N) (h : ∀ k, k < N → src k = src' k) : stF src N k = stF src' N k := by
  unfold stF
  rw [(lohi_congr h).1, (lohi_congr h).2]
  unfold sN
  rw [h k hk]
theorem ix_of {d : Nat → Int32} {w q : Nat} {G : Nat → Int32} (h : ∀ k, k < w * q → d k = G k) : Vis d w q (fun x y => G (y * w + x)) fun _ _ => True := fun x y hx hy _ => h _ (cell_lt hx hy)
section STRETCH
variable {σ : SS} {s t w q : Nat}
theorem stretch7 (hst : s = 3 ∧ t = 6 ∨ s = 6 ∧ t = 3) (hw : w ≤ 40) (hq : q ≤ 40) (e1 : gI σ s 0 = nI w) (e2 : gI σ s 1 = nI q) (hd : ∀ k, k < w * q → inR (gI σ (s + 1) k) 0 9) : WP (fX6_takeStretched σ t s) (Spare s t w q (fun x y => stF (gI σ (s + 1)) (w * q) (y * w + x)) σ) := by
  have ha := area_le hw hq
  unfold fX6_takeStretched
  rw [bnd1_of _ (takeAll_eq (σ := σ) (t := t) (s := s) (by omega)), e1, e2]
  generalize hσ : sI (sI σ t 0 (nI w)) t 1 (nI q) = σ0
  have f0 : gI σ0 t 0 = nI w := by rw [← hσ, gI_nk (by omega), gI_eq]
  have f1 : gI σ0 t 1 = nI q := by rw [← hσ, gI_eq]
  have fk : ∀ c, c ≠ t → gI σ0 c = gI σ c := fun c hc => by rw [← hσ, gI_ne hc, gI_ne hc]
  have fR : gR σ0 = gR σ := by rw [← hσ]; rfl
  have g0 : ∀ d, gI (sA σ0 (t + 1) d) t 0 = nI w := fun d => by rw [gI_A_ne (by omega)]; exact f0
  have g1 : ∀ d, gI (sA σ0 (t + 1) d) t 1 = nI q := fun d => by rw [gI_A_ne (by omega)]; exact f1
  generalize hp : (fun k => if k < 1600 then gI σ (s + 1) k else gI σ (t + 1) k) = p
  have pk : ∀ k, k < w * q → p k = gI σ (s + 1) k := fun k hk => by rw [← hp]; exact if_pos (by omega)
  have fin : ∀ d, (∀ k, k < w * q → d k = stF (gI σ (s + 1)) (w * q) k) → Spare s t w q (fun x y => stF (gI σ (s + 1)) (w * q) (y * w + x)) σ (sA σ0 (t + 1) d) := fun d hd => by
    refine ⟨fR, g0 d, g1 d, ?_, fun c k h1 h2 h3 => ?_⟩
    · rw [gI_A]; exact ix_of hd
    · rw [gI_A_ne h2, fk c h1]
  unfold X6_takeStretched_L13
  refine wf_3 (w * q) (fun i l g c => l = nI (loN (gI σ (s + 1)) i) ∧ g = nI (hiN (gI σ (s + 1)) i) ∧ c = nI i) ⟨rfl, rfl, rfl⟩ (by omega) ?_ ?_
  · rintro i _ _ _ rec hi ⟨rfl, rfl, rfl⟩ hr
    have h1 := (loN_le (src := gI σ (s + 1)) i).1
    have h2 := (hiN_le (src := gI σ (s + 1)) i fun k hk => (sN_of (hd k (by omega))).2).1
    have h3 := sN_of (hd i hi)
    rw [g0, g1, nI_mul, if_neg (nI_ge hi (by omega)), grd_eq _ (inb_nI (by omega) (by omega)), nI_clamp (by omega), gI_A, pk i hi, h3.1]
    simp only [vthen_eq]
    rw [min_nI (by omega) (by omega), max_nI (by omega) (by omega), nI_1]
    exact hr _ _ _ ⟨rfl, rfl, rfl⟩
  · rintro _ _ _ rec ⟨rfl, rfl, rfl⟩
    have h1 := (loN_le (src := gI σ (s + 1)) (w * q)).1
    have h2 := (hiN_le (src := gI σ (s + 1)) (w * q) fun k hk => (sN_of (hd k (by omega))).2).1
    rw [g0, g1, nI_mul, if_pos (nI_le (Nat.le_refl _) (by omega))]
    simp only [vthen_eq]
    by_cases c : hiN (gI σ (s + 1)) (w * q) ≤ loN (gI σ (s + 1)) (w * q)
    · rw [if_pos (by
        rw [le_i, ti_sub] <;> rw [nI_toInt (by omega), nI_toInt (by omega)]
        · show _ ≤ (0 : Int); omega
        · omega
        · omega)]
      refine wp_some (fin p fun k hk => ?_)
      rw [pk k hk]; unfold stF; rw [if_pos c]
    · rw [if_neg (by
        rw [le_i, ti_sub] <;> rw [nI_toInt (by omega), nI_toInt (by omega)]
        · show ¬ _ ≤ (0 : Int); omega
        · omega
        · omega)]
      unfold X6_takeStretched_L70
      refine wf_2 (w * q) (fun i c s' => c = nI i ∧ ∃ d, s' = sA σ0 (t + 1) d ∧ ∀ k, k < w * q → d k = if k < i then stF (gI σ (s + 1)) (w * q) k else gI σ (s + 1) k) ⟨rfl, _, rfl, fun k hk => by rw [if_neg (by omega)]; exact pk k hk⟩ (by omega) ?_ ?_
      · rintro i _ _ rec hi ⟨rfl, d, rfl, hdd⟩ hr
        have hz : nz (nI (hiN (gI σ (s + 1)) (w * q)) - nI (loN (gI σ (s + 1)) (w * q))) = true := by rw [nI_sub (by omega)]; exact nz_nI (by omega) (by omega)
        rw [g0, g1, nI_mul, if_neg (nI_ge hi (by omega)), grd_eq _ (inb_nI (by omega) (by omega)), grd_eq _ hz, vthen_eq, nI_clamp (by omega), gI_A, hdd i hi, if_neg (by omega), st_val hd hi (by omega), sI_A, nI_1]
        refine hr _ _ ⟨rfl, _, rfl, fun k hk => ?_⟩
        show (if k = i then _ else d k) = _
        by_cases c2 : k = i
        · rw [if_pos c2, if_pos (by omega), c2]
        · rw [if_neg c2, hdd k hk]
          by_cases c3 : k < i
          · rw [if_pos c3, if_pos (by omega)]
          · rw [if_neg c3, if_neg (by omega)]
      · rintro _ _ rec ⟨rfl, d, rfl, hdd⟩
        rw [g0, g1, nI_mul, if_pos (nI_le (Nat.le_refl _) (by omega))]
        exact wp_some (fin d fun k hk => by rw [hdd k hk, if_pos hk])
theorem stretch8 (hw : w ≤ 40) (hq : q ≤ 40) (e3 : gI σ 73 29 = nI w) (e4 : gI σ 73 30 = nI q) (hd : ∀ k, k < w * q → inR (gI σ 83 k) 0 9) : WP (fX8_stretch σ) (fun r => Dots w q (fun x y => stF (gI σ 83) (w * q) (y * w + x)) σ r.2 ∧ fX8_others r.2 = some r.1) := by
  obtain ⟨d0, h0, hd0⟩ := puts_eq (σ := σ)
  have ha := area_le hw hq
  unfold fX8_stretch
  rw [bnd1_of _ h0]
  have c3 : ∀ d, gI (sA (sA σ 84 d0) 83 d) 73 29 = nI w := fun d => by rw [gI_A_ne (by omega), gI_A_ne (by omega)]; exact e3
  have c4 : ∀ d, gI (sA (sA σ 84 d0) 83 d) 73 30 = nI q := fun d => by rw [gI_A_ne (by omega), gI_A_ne (by omega)]; exact e4
  have a0 : fX8_all (sA σ 84 d0) = nI (w * q) := all_eq (by rw [gI_A_ne (by omega)]; exact e3) (by rw [gI_A_ne (by omega)]; exact e4)
  have a1 : ∀ d, fX8_all (sA (sA σ 84 d0) 83 d) = nI (w * q) := fun d => all_eq (c3 d) (c4 d)
  have fin : ∀ d, (∀ k, k < w * q → d k = stF (gI σ 83) (w * q) k) → WP (bnd1 (fX8_others (sA (sA σ 84 d0) 83 d)) fun v8 => some (v8, sA (sA σ 84 d0) 83 d)) (fun r => Dots w q (fun x y => stF (gI σ 83) (w * q) (y * w + x)) σ r.2 ∧ fX8_others r.2 = some r.1) := fun d hd => by
    have o := others_eq (σ := sA (sA σ 84 d0) 83 d) hw hq (c3 d) (c4 d)
    rw [bnd1_of _ o]
    refine wp_some ⟨⟨rfl, ?_, fun k hk => ?_, fun c k k1 k2 k3 => ?_⟩, o⟩
    · rw [gI_A]; exact ix_of hd
    · rw [gI_A_ne (by omega), gI_A]; exact hd0 k hk
    · rw [gI_A_ne k1, gI_A_ne k2]
  unfold X8_stretch_L11
  refine wf_3 (w * q) (fun i l g c => l = nI (loN (gI σ 83) i) ∧ g = nI (hiN (gI σ 83) i) ∧ c = nI i) ⟨rfl, rfl, rfl⟩ (by omega) ?_ ?_
  · rintro i _ _ _ rec hi ⟨rfl, rfl, rfl⟩ hr
    have h1 := (loN_le (src := gI σ 83) i).1
    have h2 := (hiN_le (src := gI σ 83) i fun k hk => (sN_of (hd k (by omega))).2).1
    have h3 := sN_of (hd i hi)
    simp only [vthen_eq]
    rw [a0, if_neg (nI_ge hi (by omega)), grd_eq _ (inb_nI (by omega) (by omega)), nI_clamp (by omega), gI_A_ne (by omega), h3.1, nI_1]
    have mn : min (loN (gI σ 83) i) (sN (gI σ 83) i) = loN (gI σ 83) (i + 1) := rfl
    have mx : max (hiN (gI σ 83) i) (sN (gI σ 83) i) = hiN (gI σ 83) (i + 1) := rfl
    have hi2 : ∀ l, WP (rec l (nI (hiN (gI σ 83) (i + 1))) (nI (i + 1))) (fun r => Dots w q (fun x y => stF (gI σ 83) (w * q) (y * w + x)) σ r.2 ∧ fX8_others r.2 = some r.1) → WP (if nI (sN (gI σ 83) i) ≤ nI (hiN (gI σ 83) i) then rec l (nI (hiN (gI σ 83) i)) (nI (i + 1)) else rec l (nI (sN (gI σ 83) i)) (nI (i + 1))) (fun r => Dots w q (fun x y => stF (gI σ 83) (w * q) (y * w + x)) σ r.2 ∧ fX8_others r.2 = some r.1) := fun l hl => by
      by_cases c : sN (gI σ 83) i ≤ hiN (gI σ 83) i
      · rw [if_pos (nI_le c (by omega))]
        rw [← mx, show max (hiN (gI σ 83) i) (sN (gI σ 83) i) = hiN (gI σ 83) i by omega] at hl
        exact hl
      · rw [if_neg (nI_ge (by omega) (by omega))]
        rw [← mx, show max (hiN (gI σ 83) i) (sN (gI σ 83) i) = sN (gI σ 83) i by omega] at hl
        exact hl
    have go := hr (nI (loN (gI σ 83) (i + 1))) _ _ ⟨rfl, rfl, rfl⟩
    by_cases c : loN (gI σ 83) i ≤ sN (gI σ 83) i
    · rw [if_pos (nI_le c (by omega))]
      rw [← mn, show min (loN (gI σ 83) i) (sN (gI σ 83) i) = loN (gI σ 83) i by omega] at go
      exact hi2 _ go
    · rw [if_neg (nI_ge (by omega) (by omega))]
      rw [← mn, show min (loN (gI σ 83) i) (sN (gI σ 83) i) = sN (gI σ 83) i by omega] at go
      exact hi2 _ go
  · rintro _ _ _ rec ⟨rfl, rfl, rfl⟩
    have h1 := (loN_le (src := gI σ 83) (w * q)).1
    have h2 := (hiN_le (src := gI σ 83) (w * q) fun k hk => (sN_of (hd k (by omega))).2).1
    simp only [vthen_eq]
    rw [a0, if_pos (nI_le (Nat.le_refl _) (by omega))]
    rw [show sA σ 84 d0 = sA (sA σ 84 d0) 83 (gI σ 83) by rw [show gI σ 83 = gI (sA σ 84 d0) 83 by rw [gI_A_ne (by omega)], sA_self]]
    unfold X8_stretch_L69
    refine wf_2 (w * q) (fun i c s' => c = nI i ∧ ∃ d, s' = sA (sA σ 84 d0) 83 d ∧ ∀ k, k < w * q → d k = if k < i then stF (gI σ 83) (w * q) k else gI σ 83 k) ⟨rfl, _, rfl, fun k hk => by rw [if_neg (by omega)]⟩ (by omega) ?_ ?_
    · rintro i _ _ rec hi ⟨rfl, d, rfl, hdd⟩ hr
      simp only [vthen_eq]
      rw [a1, if_neg (nI_ge hi (by omega))]
      by_cases c : hiN (gI σ 83) (w * q) ≤ loN (gI σ 83) (w * q)
      · rw [if_pos (nI_le c (by omega))]
        refine fin d fun k hk => ?_
        have e : stF (gI σ 83) (w * q) k = gI σ 83 k := by unfold stF; rw [if_pos c]
        rw [hdd k hk, e]; split <;> rfl
      · have hz : nz (nI (hiN (gI σ 83) (w * q)) - nI (loN (gI σ 83) (w * q))) = true := by rw [nI_sub (by omega)]; exact nz_nI (by omega) (by omega)
        rw [if_neg (nI_ge (by omega) (by omega)), grd_eq _ (inb_nI (by omega) (by omega)), grd_eq _ hz, nI_clamp (by omega), gI_A, hdd i hi, if_neg (by omega), st_val hd hi (by omega), sI_A, nI_1]
        refine hr _ _ ⟨rfl, _, rfl, fun k hk => ?_⟩
        show (if k = i then _ else d k) = _
        by_cases c2 : k = i
        · rw [if_pos c2, if_pos (by omega), c2]
        · rw [if_neg c2, hdd k hk]
          by_cases c3 : k < i
          · rw [if_pos c3, if_pos (by omega)]
          · rw [if_neg c3, if_neg (by omega)]
    · rintro _ _ rec ⟨rfl, d, rfl, hdd⟩
      simp only [vthen_eq]
      rw [a1, if_pos (nI_le (Nat.le_refl _) (by omega))]
      exact fin d fun k hk => by rw [hdd k hk, if_pos hk]
end STRETCH
theorem op14 : ∀ a σ, Rel σ → st14 Rel a σ := by
  intro a σ ⟨s, f, h⟩
  obtain ⟨t, hst, r3⟩ := st_of h.1
  obtain ⟨hs, hf, hR1, -⟩ := id h.1
  obtain ⟨w, q, hw, hq, e1, e2, e3, e4, hd⟩ := h.2.2.1
  obtain ⟨σ1, x1, hS⟩ := stretch7 (σ := σ) (s := s) (t := t) (w := w) (q := q) hst hw.2 hq.2 e1 e2 fun k hk => by rw [(hd k hk).1]; exact (hd k hk).2
  have k83 : gI (swp s t σ1) 83 = gI σ 83 := funext fun k => by rw [swp_I, hS.2.2.2.2 83 k (by omega) (by omega) (by omega)]
  obtain ⟨⟨v, σ2⟩, x2, hD, ho⟩ := stretch8 (σ := swp s t σ1) (w := w) (q := q) hw.2 hq.2 (by rw [swp_I, hS.2.2.2.2 73 29 (by omega) (by omega) (by omega)]; exact e3) (by rw [swp_I, hS.2.2.2.2 73 30 (by omega) (by omega) (by omega)]; exact e4) fun k hk => by rw [k83]; exact (hd k hk).2
  rw [k83] at hD
  obtain ⟨y1, y2⟩ := spare_fin hst h hw hq e1 e2 e3 e4 hd (fun x y hx hy => st_rng (fun k hk => (hd k hk).2) (cell_lt hx hy)) (hS.congr fun x y hx hy => st_congr (cell_lt hx hy) fun k hk => (hd k hk).1) hD ho
  refine ⟨v, swp s t σ1, σ2, ?_, x2, t, f, y2⟩
  unfold fX7_stretch
  rw [r3, hR1, bnd1_of _ x1, bnd_of _ y1]
