/-! Smooth. -/
def smS (src : Nat → Int32) (k : Nat) (r : (Nat → Nat) × Nat) : (Nat → Nat) × Nat := (fun v => if v = sN src k then r.1 v + 1 else r.1 v, r.2 + 1)
def smI (src : Nat → Int32) (w x j i : Nat) (r : (Nat → Nat) × Nat) : (Nat → Nat) × Nat := if i < w ∧ x ≤ i + 1 ∧ i ≤ x + 1 then smS src (j * w + i) r else r
def smJ (src : Nat → Int32) (w q x y j : Nat) (r : (Nat → Nat) × Nat) : (Nat → Nat) × Nat := if j < q ∧ y ≤ j + 1 ∧ j ≤ y + 1 then itr (smI src w x j) r (x + 2) else r
def sm0 : (Nat → Nat) × Nat := (fun _ => 0, 0)
def smR (src : Nat → Int32) (w q x y : Nat) : (Nat → Nat) × Nat := itr (smJ src w q x y) sm0 (y + 2)
def csum (T : Nat → Nat) : Nat → Nat
  | 0 => 0
  | v + 1 => csum T v + T v
theorem csum_up (T : Nat → Nat) (m : Nat) : ∀ v, csum (fun k => if k = m then T k + 1 else T k) v = csum T v + if m < v then 1 else 0
  | 0 => by rw [if_neg (by omega)]; rfl
  | v + 1 => by
    show csum _ v + (if v = m then T v + 1 else T v) = csum T v + T v + _
    rw [csum_up T m v]
    by_cases c : v = m
    · subst c; rw [if_pos rfl, if_neg (by omega), if_pos (by omega)]; omega
    · rw [if_neg c]
      by_cases c2 : m < v
      · rw [if_pos c2, if_pos (by omega)]; omega
      · rw [if_neg c2, if_neg (by omega)]; omega
theorem csum_mono (T : Nat → Nat) {a b : Nat} (h : a ≤ b) : csum T a ≤ csum T b := by
  obtain ⟨d, rfl⟩ : ∃ d, b = a + d := ⟨b - a, by omega⟩
  clear h
  induction d with
  | zero => exact Nat.le_refl _
  | succ d ih => show csum T a ≤ csum T (a + d) + T (a + d); omega
/-- what the tally keeps: its sum is the number, which grows slowly -/
def smK (N : Nat) (r : (Nat → Nat) × Nat) : Prop := csum r.1 10 = r.2 ∧ r.2 ≤ N
theorem smI_k {src : Nat → Int32} {w q x j : Nat} (hd : ∀ k, k < w * q → inR (src k) 0 9) (hj : j < q) {N : Nat} {r : (Nat → Nat) × Nat} (h : smK N r) : ∀ i, smK (N + i) (itr (smI src w x j) r i)
  | 0 => h
  | i + 1 => by
    obtain ⟨h1, h2⟩ := smI_k (x := x) hd hj h i
    show smK (N + (i + 1)) (smI src w x j i (itr (smI src w x j) r i))
    generalize itr (smI src w x j) r i = r2 at h1 h2 ⊢
    unfold smI
    by_cases c : i < w ∧ x ≤ i + 1 ∧ i ≤ x + 1
    · rw [if_pos c]
      have hm := (sN_of (hd _ (cell_lt c.1 hj))).2
      refine ⟨?_, ?_⟩
      · show csum (fun v => if v = sN src (j * w + i) then _ else _) 10 = _ + 1
        rw [csum_up, if_pos (by omega), h1]
      · show _ + 1 ≤ _; omega
    · rw [if_neg c]; exact ⟨h1, by omega⟩
theorem smJ_k {src : Nat → Int32} {w q x y : Nat} (hd : ∀ k, k < w * q → inR (src k) 0 9) {N : Nat} {r : (Nat → Nat) × Nat} (h : smK N r) : ∀ j, smK (N + j * (x + 2)) (itr (smJ src w q x y) r j)
  | 0 => by rw [Nat.zero_mul]; exact h
  | j + 1 => by
    have ih := smJ_k (x := x) (y := y) hd h j
    show smK (N + (j + 1) * (x + 2)) (smJ src w q x y j (itr (smJ src w q x y) r j))
    have e : N + (j + 1) * (x + 2) = N + j * (x + 2) + (x + 2) := by rw [Nat.add_mul, Nat.one_mul]; omega
    rw [e]
    generalize itr (smJ src w q x y) r j = r2 at ih ⊢
    unfold smJ
    by_cases c : j < q ∧ y ≤ j + 1 ∧ j ≤ y + 1
    · rw [if_pos c]; exact smI_k hd c.1 ih (x + 2)
    · rw [if_neg c]; exact ⟨ih.1, Nat.le_trans ih.2 (by omega)⟩
theorem sm_b {src : Nat → Int32} {w q x y j : Nat} (hd : ∀ k, k < w * q → inR (src k) 0 9) (hx : x < 40) (hj : j ≤ 42) : csum (itr (smJ src w q x y) sm0 j).1 10 = (itr (smJ src w q x y) sm0 j).2 ∧ (itr (smJ src w q x y) sm0 j).2 ≤ 1764 := by
  obtain ⟨h1, h2⟩ := smJ_k (x := x) (y := y) (N := 0) (r := sm0) hd ⟨rfl, Nat.le_refl _⟩ j
  refine ⟨h1, Nat.le_trans h2 ?_⟩
  have : j * (x + 2) ≤ 42 * 42 := Nat.mul_le_mul hj (by omega)
  omega
theorem smI_mono {src : Nat → Int32} {w x j : Nat} {r : (Nat → Nat) × Nat} : ∀ i, r.2 ≤ (itr (smI src w x j) r i).2
  | 0 => Nat.le_refl _
  | i + 1 => by
    have ih := smI_mono (src := src) (w := w) (x := x) (j := j) (r := r) i
    show r.2 ≤ (smI src w x j i (itr (smI src w x j) r i)).2
    generalize itr (smI src w x j) r i = r2 at ih ⊢
    unfold smI
    split
    · show r.2 ≤ r2.2 + 1; omega
    · exact ih
theorem smJ_mono {src : Nat → Int32} {w q x y : Nat} {r : (Nat → Nat) × Nat} : ∀ j, r.2 ≤ (itr (smJ src w q x y) r j).2
  | 0 => Nat.le_refl _
  | j + 1 => by
    have ih := smJ_mono (src := src) (w := w) (q := q) (x := x) (y := y) (r := r) j
    show r.2 ≤ (smJ src w q x y j (itr (smJ src w q x y) r j)).2
    generalize itr (smJ src w q x y) r j = r2 at ih ⊢
    unfold smJ
    split
    · exact Nat.le_trans ih (smI_mono _)
    · exact ih
theorem smR_pos {src : Nat → Int32} {w q x y : Nat} (hx : x < w) (hy : y < q) : 1 ≤ (smR src w q x y).2 := by
  show 1 ≤ (smJ src w q x y (y + 1) (smJ src w q x y y (itr (smJ src w q x y) sm0 y))).2
  have h1 : 1 ≤ (smJ src w q x y y (itr (smJ src w q x y) sm0 y)).2 := by
    generalize itr (smJ src w q x y) sm0 y = r
    unfold smJ
    rw [if_pos (by omega)]
    show 1 ≤ (smI src w x y (x + 1) (smI src w x y x (itr (smI src w x y) r x))).2
    have h2 : 1 ≤ (smI src w x y x (itr (smI src w x y) r x)).2 := by
      generalize itr (smI src w x y) r x = r2
      unfold smI
      rw [if_pos (by omega)]
      show 1 ≤ r2.2 + 1; omega
    generalize smI src w x y x (itr (smI src w x y) r x) = r2 at h2 ⊢
    unfold smI
    split
    · show 1 ≤ r2.2 + 1; omega
    · exact h2
  generalize smJ src w q x y y (itr (smJ src w q x y) sm0 y) = r at h1 ⊢
  unfold smJ
  split
  · exact Nat.le_trans h1 (smI_mono _)
  · exact h1
theorem smR_congr {src src' : Nat → Int32} {w q x y : Nat} (h : ∀ k, k < w * q → src k = src' k) : smR src w q x y = smR src' w q x y := by
  refine itr_congr fun j _ r => ?_
  unfold smJ
  by_cases c : j < q ∧ y ≤ j + 1 ∧ j ≤ y + 1
  · rw [if_pos c, if_pos c]
    refine itr_congr fun i _ r2 => ?_
    unfold smI
    by_cases c2 : i < w ∧ x ≤ i + 1 ∧ i ≤ x + 1
    · rw [if_pos c2, if_pos c2]
      unfold smS sN
      rw [h _ (cell_lt c2.1 c.1)]
    · rw [if_neg c2, if_neg c2]
  · rw [if_neg c, if_neg c]
/-- the middle one -/
def midP (r : (Nat → Nat) × Nat) (v : Nat) : Prop := csum r.1 v ≤ (r.2 - 1) / 2 ∧ (r.2 - 1) / 2 < csum r.1 (v + 1)
theorem midP_one {r : (Nat → Nat) × Nat} {u v : Nat} (h1 : midP r u) (h2 : midP r v) : u = v := by
  rcases Nat.lt_trichotomy u v with c | c | c
  · have := csum_mono r.1 (a := u + 1) (b := v) c; have := h1.2; have := h2.1; omega
  · exact c
  · have := csum_mono r.1 (a := v + 1) (b := u) c; have := h2.2; have := h1.1; omega
noncomputable def midV (r : (Nat → Nat) × Nat) : Nat := Classical.epsilon fun v => midP r v
theorem midV_eq {r : (Nat → Nat) × Nat} {v : Nat} (h : midP r v) : midV r = v := midP_one (Classical.epsilon_spec (p := fun v => midP r v) ⟨v, h⟩) h
theorem max_pred (σ : SS) {y : Nat} (hy : y ≤ 1000) : fJ9_max_7cf53 σ (nI y - 1) (0 : Int32) = nI (y - 1) := by
  cases y with
  | zero => unfold fJ9_max_7cf53; decide +kernel
  | succ y =>
    rw [nI_pred, show (0 : Int32) = nI 0 from rfl, max_nI (by omega) (by omega)]
    congr 1; omega
/-- a tally in a row of ten -/
def Tly (e : Nat → Int32) (r : (Nat → Nat) × Nat) : Prop := ∀ v, v < 10 → e v = nI (r.1 v)
theorem Tly.up {e : Nat → Int32} {r : (Nat → Nat) × Nat} {src : Nat → Int32} {k : Nat} (h : Tly e r) (hk : sN src k < 10) : Tly (upd e (sN src k) (e (sN src k) + 1)) (smS src k r) := fun v hv => by
  show (if v = sN src k then e (sN src k) + 1 else e v) = nI (if v = sN src k then r.1 v + 1 else r.1 v)
  by_cases c : v = sN src k
  · rw [if_pos c, if_pos c, h _ hk, nI_1, c]
  · rw [if_neg c, if_neg c]; exact h v hv
section SMOOTH7
variable {σ : SS} {s t w q x y : Nat}
theorem middle7 (hw : w ≤ 40) (hq : q ≤ 40) (e1 : gI σ s 0 = nI w) (e2 : gI σ s 1 = nI q) (hd : ∀ k, k < w * q → inR (gI σ (s + 1) k) 0 9) (hx : x < w) (hy : y < q) : WP (fX6_middleRound σ s (nI x) (nI y)) (fun r => ∃ v e, v ≤ 9 ∧ r = (nI v, sA σ (s + 2) e) ∧ midP (smR (gI σ (s + 1)) w q x y) v) := by
  have ha := area_le hw hq
  unfold fX6_middleRound
  simp only [vthen_eq]
  rw [max_pred _ (by omega), flI_A]
  have g0 : ∀ d, gI (sA σ (s + 2) d) s 0 = nI w := fun d => by rw [gI_A_ne (by omega)]; exact e1
  have g1 : ∀ d, gI (sA σ (s + 2) d) s 1 = nI q := fun d => by rw [gI_A_ne (by omega)]; exact e2
  have fin : ∀ e, Tly e (smR (gI σ (s + 1)) w q x y) → WP (X6_middleRound_L116 (sA σ (s + 2) e) s (nI (smR (gI σ (s + 1)) w q x y).2) fuel (0 : Int32) (0 : Int32)) (fun r => ∃ v e, v ≤ 9 ∧ r = (nI v, sA σ (s + 2) e) ∧ midP (smR (gI σ (s + 1)) w q x y) v) := fun e he => by
    have hp := smR_pos (src := gI σ (s + 1)) hx hy
    have hb := sm_b (x := x) (y := y) (j := y + 2) hd (by omega) (by omega)
    rw [show itr (smJ (gI σ (s + 1)) w q x y) sm0 (y + 2) = smR (gI σ (s + 1)) w q x y from rfl] at hb
    generalize smR (gI σ (s + 1)) w q x y = r at *
    have hh : (nI r.2 - 1) / 2 = nI ((r.2 - 1) / 2) := by rw [show nI r.2 - 1 = nI (r.2 - 1) from nI_sub (a := r.2) (b := 1) (by omega)]; exact pk_div (d := 2) (by omega) (by omega) (by omega)
    unfold X6_middleRound_L116
    refine wf_2 9 (fun v a b => a = nI (csum r.1 v) ∧ b = nI v ∧ csum r.1 v ≤ (r.2 - 1) / 2) ⟨rfl, rfl, Nat.zero_le _⟩ (by omega) ?_ ?_
    · rintro v _ _ rec hv ⟨rfl, rfl, hc⟩ hr
      have m1 := csum_mono r.1 (a := v + 1) (b := 10) (by omega)
      rw [if_neg (by show ¬ nI 9 ≤ nI v; exact nI_ge hv (by decide)), grd_eq _ (inb_nI (by omega) (by decide)), hh]
      simp only [vthen_eq]
      rw [nI_clamp (by omega), gI_A, he v (by omega), nI_add, nI_1]
      rw [show csum r.1 v + r.1 v = csum r.1 (v + 1) from rfl]
      by_cases c : csum r.1 (v + 1) ≤ (r.2 - 1) / 2
      · rw [if_pos (nI_le c (by omega))]
        exact hr _ _ ⟨rfl, rfl, c⟩
      · rw [if_neg (nI_ge (by omega) (by omega))]
        exact wp_some ⟨v, e, by omega, rfl, hc, by omega⟩
    · rintro _ _ rec ⟨rfl, rfl, hc⟩
      rw [if_pos (by show nI 9 ≤ nI 9; exact nI_le (Nat.le_refl _) (by decide))]
      exact wp_some ⟨9, e, Nat.le_refl _, rfl, hc, by rw [hb.1]; omega⟩
  unfold X6_middleRound_L19
  refine wf_3 (min (y + 2) q - (y - 1)) (fun k n c s' => c = nI (y - 1 + k) ∧ n = nI (itr (smJ (gI σ (s + 1)) w q x y) sm0 (y - 1 + k)).2 ∧ ∃ e, s' = sA σ (s + 2) e ∧ Tly e (itr (smJ (gI σ (s + 1)) w q x y) sm0 (y - 1 + k))) ?_ (by omega) ?_ ?_
  · have e0 : itr (smJ (gI σ (s + 1)) w q x y) sm0 (y - 1 + 0) = sm0 := itr_id (M := 0) (by omega) fun j _ hj r => by unfold smJ; rw [if_neg (by omega)]
    rw [e0]
    exact ⟨rfl, rfl, _, rfl, fun v hv => if_pos hv⟩
  · rintro k _ _ _ rec hk ⟨rfl, rfl, e, rfl, he⟩ hr
    generalize hj : y - 1 + k = j at *
    have hb := sm_b (x := x) (y := y) (j := j) hd (by omega) (by omega)
    have ej : ∀ r, smJ (gI σ (s + 1)) w q x y j r = itr (smI (gI σ (s + 1)) w x j) r (x + 2) := fun r => by unfold smJ; rw [if_pos (by omega)]
    simp only [vthen_eq]
    rw [g1, nI_1, if_neg (nI_nlt (by omega) (by omega)), if_neg (nI_ge (by omega) (by omega)), max_pred _ (by omega), nI_1]
    rw [show y - 1 + (k + 1) = j + 1 by omega] at hr
    rw [show itr (smJ (gI σ (s + 1)) w q x y) sm0 (j + 1) = itr (smI (gI σ (s + 1)) w x j) (itr (smJ (gI σ (s + 1)) w q x y) sm0 j) (x + 2) from ej _] at hr
    generalize itr (smJ (gI σ (s + 1)) w q x y) sm0 j = r at *
    unfold X6_middleRound_L45
    refine wf_3 (min (x + 2) w - (x - 1)) (fun k n c s' => c = nI (x - 1 + k) ∧ n = nI (itr (smI (gI σ (s + 1)) w x j) r (x - 1 + k)).2 ∧ ∃ e, s' = sA σ (s + 2) e ∧ Tly e (itr (smI (gI σ (s + 1)) w x j) r (x - 1 + k))) ?_ (by omega) ?_ ?_
    · have e0 : itr (smI (gI σ (s + 1)) w x j) r (x - 1 + 0) = r := itr_id (M := 0) (by omega) fun j _ hj r => by unfold smI; rw [if_neg (by omega)]
      rw [e0]
      exact ⟨rfl, rfl, _, rfl, he⟩
    · rintro k2 _ _ _ rec2 hk2 ⟨rfl, rfl, e3, rfl, he3⟩ hr2
      generalize hi : x - 1 + k2 = i at *
      rw [show x - 1 + (k2 + 1) = i + 1 by omega] at hr2
      have hix := cell_lt (w := w) (h := q) (show i < w by omega) (show j < q by omega)
      have hs := sN_of (hd _ hix)
      have ei : itr (smI (gI σ (s + 1)) w x j) r (i + 1) = smS (gI σ (s + 1)) (j * w + i) (itr (smI (gI σ (s + 1)) w x j) r i) := by
        show smI (gI σ (s + 1)) w x j i _ = _
        unfold smI; rw [if_pos (by omega)]
      rw [ei] at hr2
      rw [g0, nI_1, if_neg (nI_nlt (by omega) (by omega)), if_neg (nI_ge (by omega) (by omega)), at_in (g0 e3) (g1 e3) hw hq (by omega) (by omega), bnd1_some, gI_A_ne (c' := s + 1) (by omega), hs.1, if_neg (nI_pos (by omega)), if_neg (by show ¬ nI 9 < nI (sN (gI σ (s + 1)) (j * w + i)); exact nI_nlt hs.2 (by decide)), grd_eq _ (inb_nI (by omega) (by decide)), vthen_eq, nI_clamp (by omega), gI_A, sI_A, nI_1, nI_1]
      exact hr2 _ _ _ ⟨rfl, rfl, _, rfl, he3.up (by omega)⟩
    · rintro _ _ _ rec2 ⟨rfl, rfl, e3, rfl, he3⟩
      have e0 : itr (smI (gI σ (s + 1)) w x j) r (x + 2) = itr (smI (gI σ (s + 1)) w x j) r (x - 1 + (min (x + 2) w - (x - 1))) := itr_id (by omega) fun i h1 h2 r => by unfold smI; rw [if_neg (by omega)]
      rw [e0] at hr
      have go := hr _ _ _ ⟨rfl, rfl, _, rfl, he3⟩
      rw [g0, nI_1]
      by_cases c : x + 1 < x - 1 + (min (x + 2) w - (x - 1))
      · rw [if_pos (nI_lt c (by omega))]; exact go
      · rw [if_neg (nI_nlt (by omega) (by omega)), if_pos (nI_le (by omega) (by omega))]; exact go
  · rintro _ _ _ rec ⟨rfl, rfl, e, rfl, he⟩
    have e0 : smR (gI σ (s + 1)) w q x y = itr (smJ (gI σ (s + 1)) w q x y) sm0 (y - 1 + (min (y + 2) q - (y - 1))) := itr_id (by omega) fun i h1 h2 r => by unfold smJ; rw [if_neg (by omega)]
    rw [← e0] at he ⊢
    have go := fin e he
    rw [g1, nI_1]
    by_cases c : y + 1 < y - 1 + (min (y + 2) q - (y - 1))
    · rw [if_pos (nI_lt c (by omega))]; exact go
    · rw [if_neg (nI_nlt (by omega) (by omega)), if_pos (nI_le (by omega) (by omega))]; exact go
theorem smooth7 (hst : s = 3 ∧ t = 6 ∨ s = 6 ∧ t = 3) (hw : w ≤ 40) (hq : q ≤ 40) (e1 : gI σ s 0 = nI w) (e2 : gI σ s 1 = nI q) (hd : ∀ k, k < w * q → inR (gI σ (s + 1) k) 0 9) : WP (fX6_takeSmoothed σ t s) (Spare s t w q (fun x y => nI (midV (smR (gI σ (s + 1)) w q x y))) σ) := by
  unfold fX6_takeSmoothed
  simp only [vthen_eq]
  rw [gI_ne (c' := s) (by omega), e1, e2]
  generalize hσ : sI (sI σ t 0 (nI w)) t 1 (nI q) = σ0
  have f0 : gI σ0 t 0 = nI w := by rw [← hσ, gI_nk (by omega), gI_eq]
  have f1 : gI σ0 t 1 = nI q := by rw [← hσ, gI_eq]
  have fk : ∀ c, c ≠ t → gI σ0 c = gI σ c := fun c hc => by rw [← hσ, gI_ne hc, gI_ne hc]
  have fR : gR σ0 = gR σ := by rw [← hσ]; rfl
  suffices hh : WP (X6_takeSmoothed_L18 t s fuel (0 : Int32) σ0) (fun r => gR r = gR σ ∧ (∀ c k, c ≠ t + 1 → c ≠ s + 2 → gI r c k = gI σ0 c k) ∧ Vis (gI r (t + 1)) w q (fun x y => nI (midV (smR (gI σ (s + 1)) w q x y))) fun _ _ => True) by
    refine wp_imp hh ?_
    rintro r ⟨r1, r2, r3⟩
    refine ⟨r1, ?_, ?_, r3, fun c k h1 h2 h3 => ?_⟩
    · rw [r2 _ _ (by omega) (by omega)]; exact f0
    · rw [r2 _ _ (by omega) (by omega)]; exact f1
    · rw [r2 _ _ h2 h3, fk c h1]
  unfold X6_takeSmoothed_L18
  refine wf_2 q (fun j vv s' => vv = nI j ∧ gR s' = gR σ ∧ (∀ c k, c ≠ t + 1 → c ≠ s + 2 → gI s' c k = gI σ0 c k) ∧ Vis (gI s' (t + 1)) w q (fun x y => nI (midV (smR (gI σ (s + 1)) w q x y))) fun x y => y < j) ⟨rfl, fR, fun _ _ _ _ => rfl, fun x y _ _ h => absurd h (by omega)⟩ (by omega) ?_ ?_
  · rintro j _ s1 rec hj ⟨rfl, a1, a2, a3⟩ hr
    rw [a2 _ _ (by omega) (by omega), f1, if_neg (nI_ge hj (by omega))]
    unfold X6_takeSmoothed_L28
    refine wf_2 w (fun i x s' => x = nI i ∧ gR s' = gR σ ∧ (∀ c k, c ≠ t + 1 → c ≠ s + 2 → gI s' c k = gI σ0 c k) ∧ Vis (gI s' (t + 1)) w q (fun x y => nI (midV (smR (gI σ (s + 1)) w q x y))) fun x y => y < j ∨ y = j ∧ x < i) ⟨rfl, a1, a2, a3.imp fun x y _ _ h => by omega⟩ (by omega) ?_ ?_
    · rintro i _ s2 rec2 hi ⟨rfl, b1, b2, b3⟩ hr2
      have p1 : gI s2 (s + 1) = gI σ (s + 1) := by rw [← fk (s + 1) (by omega)]; exact funext fun k => b2 _ _ (by omega) (by omega)
      obtain ⟨r, z1, v, e, z2, rfl, z3⟩ := middle7 (σ := s2) (s := s) (x := i) (y := j) hw hq (by rw [b2 _ _ (by omega) (by omega), fk s (by omega)]; exact e1) (by rw [b2 _ _ (by omega) (by omega), fk s (by omega)]; exact e2) (by rw [p1]; exact hd) hi hj
      rw [p1] at z3
      rw [b2 _ _ (by omega) (by omega), f0, if_neg (nI_ge hi (by omega)), bnd_of _ z1]
      obtain ⟨b, z, -⟩ := put_in (σ := sA s2 (s + 2) e) (s := t) (w := w) (h := q) (X := i) (Y := j) (by rw [gI_A_ne (by omega), b2 _ _ (by omega) (by omega)]; exact f0) (by rw [gI_A_ne (by omega), b2 _ _ (by omega) (by omega)]; exact f1) hw hq hi hj (nI v)
      rw [bnd_of _ z, nI_1]
      refine hr2 _ _ ⟨rfl, b1, fun c k h1 h2 => ?_, ?_⟩
      · rw [gI_ne h1, gI_A_ne h2, b2 _ _ h1 h2]
      · show Vis (gI (sA (sA s2 (s + 2) e) (t + 1) (upd (gI (sA s2 (s + 2) e) (t + 1)) _ _)) (t + 1)) w q _ _
        rw [gI_A, gI_A_ne (by omega)]
        exact b3.put hi (fun x y _ _ h => by omega) (by rw [midV_eq z3])
    · rintro _ s2 rec2 ⟨rfl, b1, b2, b3⟩
      rw [b2 _ _ (by omega) (by omega), f0, if_pos (nI_le (Nat.le_refl _) (by omega)), nI_1]
      exact hr _ _ ⟨rfl, b1, b2, b3.imp fun x y _ _ h => by omega⟩
  · rintro _ s1 rec ⟨rfl, a1, a2, a3⟩
    rw [a2 _ _ (by omega) (by omega), f1, if_pos (nI_le (Nat.le_refl _) (by omega))]
    exact wp_some ⟨a1, a2, a3.imp fun x y _ h _ => h⟩
end SMOOTH7
