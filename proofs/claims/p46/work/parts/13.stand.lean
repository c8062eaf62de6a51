/-! 13: the class as it stands under a form; its judging calls in the words of the pictures. -/
def tn (x : Int32) : Nat := x.toNatClampNeg
theorem tn_nI {n : Nat} (h : n < 2 ^ 31) : tn (nI n) = n := nI_clamp h
/-- what the judging calls write -/
def Sk (c k : Nat) : Prop := (33 ≤ c ∧ c ≤ 57) ∨ (c = 31 ∧ k = 6)
def Ag (β σ : SS) : Prop := gR σ = gR β ∧ ∀ c k, ¬ Sk c k → gI σ c k = gI β c k
theorem Ag.rf (β : SS) : Ag β β := ⟨rfl, fun _ _ _ => rfl⟩
theorem Ag.tr {a b c : SS} (h : Ag a b) (h' : Ag b c) : Ag a c := ⟨h'.1.trans h.1, fun q k hk => (h'.2 q k hk).trans (h.2 q k hk)⟩
def sO (β : SS) : Nat := gR β 1 2
def fO (β : SS) : Nat := gR β 1 5
def wO (β : SS) : Nat := tn (gI β (sO β) 0)
def hO (β : SS) : Nat := tn (gI β (sO β) 1)
def pO (β : SS) (k : Nat) : Int32 := if k < wO β * hO β then gI β (sO β + 1) k else 0
def kO (β : SS) : Nat := tn (gI β 32 1)
def uO (β : SS) : Nat := tn (gI β (fO β) 1)
def vO (β : SS) : Nat := tn (gI β (fO β) 2)
def aO (β : SS) : Nat := tn (gI β (fO β) 3)
def bO (β : SS) : Nat := tn (gI β (fO β) 4)
def qO (β : SS) : Nat := tn (gI β (fO β) 5)
def nO (β : SS) (p : Nat) : Nat := tn (gI β (fO β + 3) p)
def xO (β : SS) (k : Nat) : Nat := tn (gI β (fO β + 6) k)
def yO (β : SS) (k : Nat) : Nat := tn (gI β (fO β + 7) k)
def tO (β : SS) : Nat := psum (nO β) (qO β)
def iO (β : SS) : Nat → Prop := inkP (gI β 32 0) (pO β)
def Cd (β σ : SS) : Prop := C7 (sO β) (fO β) (wO β) (hO β) (kO β) (gI β 32 0) (gI β 32 2) (pO β) (uO β) (vO β) (aO β) (bO β) (psum (nO β) (qO β)) (xO β) (yO β) σ
/-- a scan, settings and a form stand -/
def Sd (β : SS) : Prop := Cd β β ∧ F7 (fO β) (qO β) (nO β) β ∧ (gR β 1 3 = 9 - sO β ∧ gR β 1 6 = 28 - fO β) ∧ gI β (fO β) 0 = 1 ∧ ∃ m, (1 ≤ m ∧ m ≤ 200) ∧ gI β 32 3 = nI m
noncomputable def mkO (β : SS) (k : Nat) : Int32 := mkB (wO β) (hO β) (kO β) (gI β 32 2) (iO β) k
noncomputable def Mkd (β : SS) : Prop := frU (mkO β) 4
noncomputable def dO (β : SS) (k : Nat) : Nat := dkD (wO β) (hO β) (kO β) (gI β 32 0) (gI β 32 2) (pO β) (uO β) (vO β) (aO β) (bO β) (xO β) (yO β) k
noncomputable def ppO (β : SS) : Nat := pN (dO β) (psum (nO β) (qO β))
section STAND
variable {β σ : SS}
theorem Cd.ag (h : Cd β β) (ha : Ag β σ) : Cd β σ := by
  unfold Cd C7 at *
  obtain ⟨a1, a2, a3, a4, a5, a6, a7, a8, a9, a10, a11, a12, a13, a14, a15, a16, a17, a18, a19, a20, a21, a22⟩ := h
  have e : ∀ c k, ¬ Sk c k → gI σ c k = gI β c k := ha.2
  unfold Sk at e
  refine ⟨a1, a2, a3, a4, a5, (e _ _ (by omega)).trans a6, (e _ _ (by omega)).trans a7, fun k hk => ⟨(e _ _ (by omega)).trans (a8 k hk).1, (a8 k hk).2⟩, (e _ _ (by omega)).trans a9, (e _ _ (by omega)).trans a10, (e _ _ (by omega)).trans a11, a12, a13, a14, a15, a16, (e _ _ (by omega)).trans a17, (e _ _ (by omega)).trans a18, (e _ _ (by omega)).trans a19, (e _ _ (by omega)).trans a20, (e _ _ (by omega)).trans a21, fun k hk => ⟨⟨(e _ _ (by omega)).trans (a22 k hk).1.1, (a22 k hk).1.2⟩, (e _ _ (by omega)).trans (a22 k hk).2.1, (a22 k hk).2.2⟩⟩
theorem Sd.s (h : Sd β) : sO β = 3 ∨ sO β = 6 := h.1.1
theorem Sd.f (h : Sd β) : fO β = 10 ∨ fO β = 18 := h.1.2.1
theorem Sd.F (h : Sd β) (ha : Ag β σ) : F7 (fO β) (qO β) (nO β) σ := by
  have hf := h.f
  have e : ∀ c k, ¬ Sk c k → gI σ c k = gI β c k := ha.2
  unfold Sk at e
  obtain ⟨b1, b2, b3, b4⟩ := h.2.1
  exact ⟨b1, (e _ _ (by omega)).trans b2, b3, fun p hp => ⟨(b4 p hp).1, (e _ _ (by omega)).trans (b4 p hp).2.1, (e _ _ (by omega)).trans (b4 p hp).2.2⟩⟩
theorem Sd.Q (h : Sd β) : qO β ≤ 12 := h.2.1.1
theorem Sd.N (h : Sd β) {p : Nat} (hp : p < qO β) : 1 ≤ nO β p ∧ nO β p ≤ 6 := (h.2.1.2.2.2 p hp).1
theorem Sd.T (h : Sd β) : psum (nO β) (qO β) ≤ 72 := h.2.1.2.2.1
theorem Sd.at (h : Sd β) {p i : Nat} (hp : p < qO β) (hi : i < nO β p) : psum (nO β) p + i < psum (nO β) (qO β) := psum_lt hp hi
theorem Sd.D (h : Sd β) (k : Nat) : dO β k ≤ 324 := dkD_le (fun k hk => (h.1.2.2.2.2.2.2.2.1 k hk).2) h.1.2.2.2.2.2.2.2.2.2.2.2.2.2.1.2 h.1.2.2.2.2.2.2.2.2.2.2.2.2.2.2.1.2 k
theorem ag_r (ha : Ag β σ) (i : Nat) : gR σ 1 i = gR β 1 i := by rw [ha.1]
theorem ag_s (ha : Ag β σ) : gR σ 1 2 = sO β := ag_r ha 2
theorem ag_f (ha : Ag β σ) : gR σ 1 5 = fO β := ag_r ha 5
/-- the marks are sought -/
theorem loc_s (h : Sd β) (ha : Ag β σ) : WP (fX3_locate σ (sO β)) (fun r => (r.1 = true ↔ Mkd β) ∧ Ag β r.2 ∧ (∀ k, k < 4 → gI r.2 44 k = mkO β k) ∧ (Mkd β → ∀ k, k < 4 → ∃ b, b < nB (wO β) (hO β) (kO β) (iO β) (wO β * hO β) ∧ mkO β k = nI b ∧ gL r.2 46 k = lN (zX (wO β) (hO β) (kO β) (iO β) b) ∧ gL r.2 47 k = lN (zY (wO β) (hO β) (kO β) (iO β) b) ∧ gL r.2 48 k = lN (zS (wO β) (hO β) (kO β) (iO β) b))) := by
  obtain ⟨a1, a2, a3, a4, a5, a6, a7, a8, a9, a10, a11, -⟩ := h.1.ag ha
  refine wp_imp (locate7 (ink := iO β) a1 a3 a4 a6 a7 (fun k hk => ?_) a10 a5 a11) fun r hr => ⟨hr.1, ha.tr ⟨hr.2.1, fun c k hk => hr.2.2.1 c k fun q => hk (Or.inl ⟨q.1, by omega⟩)⟩, hr.2.2.2.1, hr.2.2.2.2⟩
  rw [a9, (a8 k hk).1]
  exact Int32.not_lt.symm
theorem meas_s (h : Sd β) (ha : Ag β σ) : WP (fX3_measure σ (sO β) (fO β)) (fun r => (r.1 = true ↔ Mkd β) ∧ Ag β r.2 ∧ (Mkd β → (∀ k, k < psum (nO β) (qO β) → gI r.2 51 k = nI (dO β k)) ∧ (0 < psum (nO β) (qO β) → gI r.2 31 6 = nI (ppO β)))) := by
  refine wp_imp (measure7 (h.1.ag ha)) fun r hr => ⟨hr.1, ha.tr ⟨hr.2.1, fun c k hk => hr.2.2.1 c k (fun q => hk (Or.inl ⟨q.1, by omega⟩)) fun q => hk (Or.inr q)⟩, hr.2.2.2⟩
def JV (β : SS) (p : Nat) (an se ru st gn : Int32) : Prop := JQ (fun i => dO β (psum (nO β) p + i)) (ppO β) (nO β p) (gI β (fO β + 1) p = 0) (gI β 32 3) (gI β 32 4) (gI β 32 5) an se ru st ∧ gn = gnS (gI β (fO β + 4) p) an se (gI β (fO β + 5) p) (gI β 32 6)
theorem JV.one {p : Nat} {an se ru st gn an' se' ru' st' gn' : Int32} (h : JV β p an se ru st gn) (h' : JV β p an' se' ru' st' gn') : an = an' ∧ se = se' ∧ ru = ru' ∧ st = st' ∧ gn = gn' := by
  obtain ⟨a, b, c, d⟩ := h.1.one h'.1
  exact ⟨a, b, c, d, by rw [h.2, h'.2, a, b]⟩
theorem read_s (h : Sd β) (ha : Ag β σ) : WP (fX3_read σ (sO β) (fO β)) (fun r => (r.1 = true ↔ Mkd β) ∧ Ag β r.2 ∧ (Mkd β → (∀ k, k < psum (nO β) (qO β) → gI r.2 51 k = nI (dO β k)) ∧ ∀ p, p < qO β → JV β p (gI r.2 53 p) (gI r.2 54 p) (gI r.2 55 p) (gI r.2 56 p) (gI r.2 57 p))) := by
  have hf := h.f
  have e : ∀ c k, ¬ Sk c k → gI σ c k = gI β c k := ha.2
  unfold Sk at e
  refine wp_imp (read7 (h.1.ag ha) (h.F ha)) fun r hr => ⟨hr.1, ha.tr ⟨hr.2.1, fun c k hk => hr.2.2.1 c k (fun q => hk (Or.inl ⟨q.1, by omega⟩)) fun q => hk (Or.inr q)⟩, fun hm => ⟨(hr.2.2.2 hm).1, fun p hp => ?_⟩⟩
  have hR := (hr.2.2.2 hm).2 p hp
  unfold R7 at hR
  rw [e (fO β + 1) p (by omega), e 32 3 (by omega), e 32 4 (by omega), e 32 5 (by omega), e 32 6 (by omega), e (fO β + 4) p (by omega), e (fO β + 5) p (by omega)] at hR
  exact hR
theorem JV.ex (h : Sd β) (hm : Mkd β) : ∃ an se ru st gn : Nat → Int32, ∀ p, p < qO β → JV β p (an p) (se p) (ru p) (st p) (gn p) := by
  obtain ⟨r, -, -, -, h3⟩ := read_s h (Ag.rf β)
  exact ⟨_, _, _, _, _, (h3 hm).2⟩
def selJ (what : Nat) (an se ru st gn : Int32) : Int32 := if what = 0 then an else if what = 1 then se else if what = 2 then ru else if what = 3 then st else gn
theorem judged_s (h : Sd β) (ha : Ag β σ) {p what : Nat} (hp : p < qO β) (hw : what ≤ 4) : WP (fX7_judged σ (nI p) (nI what)) (fun r => Ag β r.2 ∧ (Mkd β → ∃ an se ru st gn, JV β p an se ru st gn ∧ r.1 = selJ what an se ru st gn)) := by
  have hQ := h.Q
  obtain ⟨⟨b, r⟩, er, r1, r2, r3⟩ := read_s h ha
  unfold fX7_judged
  rw [ag_s ha, ag_f ha, if_pos (by rw [hasQ_eq hQ (h.F ha).2.1, nI_toInt (by omega)]; omega)]
  simp only [lt_i, le_i, Int32.reduceToInt, nI_toInt (show what < 2 ^ 31 by omega)]
  rw [if_neg (by omega), if_pos (by omega), bnd_of _ er, nI_clamp (by omega)]
  simp only [grd_eq _ (show inb (nI p) 12 = true from inb_nI (by omega) (by decide))]
  by_cases hm : Mkd β
  · rw [if_pos (r1.mpr hm)]
    have hJ := (r3 hm).2 p hp
    rcases (show what = 0 ∨ what = 1 ∨ what = 2 ∨ what = 3 ∨ what = 4 by omega) with rfl | rfl | rfl | rfl | rfl <;> exact ⟨_, rfl, r2, fun _ => ⟨_, _, _, _, _, hJ, rfl⟩⟩
  · rw [if_neg (fun q => hm (r1.mp q))]
    exact ⟨_, rfl, r2, fun q => absurd q hm⟩
theorem marked_s (h : Sd β) (ha : Ag β σ) : WP (fX7_marked σ) (fun r => Ag β r.2 ∧ ((Mkd β ∧ r.1 = 1) ∨ (¬ Mkd β ∧ r.1 = 0))) := by
  obtain ⟨⟨b, r⟩, er, r1, r2, -⟩ := loc_s h ha
  unfold fX7_marked
  rw [ag_s ha, bnd_of _ er]
  by_cases hm : Mkd β
  · rw [if_pos (r1.mpr hm)]; exact ⟨_, rfl, r2, Or.inl ⟨hm, rfl⟩⟩
  · rw [if_neg (fun q => hm (r1.mp q))]; exact ⟨_, rfl, r2, Or.inr ⟨hm, rfl⟩⟩
theorem mark_s (h : Sd β) (ha : Ag β σ) {k : Nat} (hk : k < 4) : WP (fX7_mark σ (nI k)) (fun r => Ag β r.2 ∧ (Mkd β → r.1 = mkO β k)) := by
  obtain ⟨⟨b, r⟩, er, r1, r2, r3, -⟩ := loc_s h ha
  unfold fX7_mark
  simp only [lt_i, le_i, Int32.reduceToInt, nI_toInt (show k < 2 ^ 31 by omega)]
  rw [if_neg (by omega), if_pos (by omega), ag_s ha, bnd_of _ er, grd_eq _ (show inb (nI k) 4 = true from inb_nI (by omega) (by decide)), nI_clamp (by omega), r3 k hk]
  by_cases hm : Mkd β
  · rw [if_pos (by have := (hm k hk).1; rw [le_i] at this; exact this)]
    exact ⟨_, rfl, r2, fun _ => rfl⟩
  · split
    · exact ⟨_, rfl, r2, fun q => absurd q hm⟩
    · exact ⟨_, rfl, r2, fun q => absurd q hm⟩
theorem find_s (h : Sd β) (ha : Ag β σ) : WP (fX0_find σ (sO β) (gI σ 32 0) (gI σ 32 1)) (fun r => Ag β r ∧ gI r 33 0 = nI (nB (wO β) (hO β) (kO β) (iO β) (wO β * hO β)) ∧ ∀ st, st < wO β * hO β → ql (wO β) (hO β) (kO β) (iO β) st → Bd 34 (wO β) (hO β) (iO β) st (nB (wO β) (hO β) (kO β) (iO β) st) r) := by
  obtain ⟨a1, a2, a3, a4, a5, a6, a7, a8, a9, a10, a11, -⟩ := h.1.ag ha
  rw [a10]
  refine wp_imp (find7 (ink := iO β) (σ := σ) (lvl := gI σ 32 0) a1 (by omega) (by omega) a6 a7 (fun k hk => ?_) a5) fun r hr => ⟨ha.tr ⟨hr.1, fun c k hk => hr.2.1 c k fun q => hk (Or.inl ⟨q.1, by omega⟩)⟩, hr.2.2.1, fun st h1 h2 => (hr.2.2.2 st h1 h2).1⟩
  rw [a9, (a8 k hk).1]
  exact Int32.not_lt.symm
theorem blob_s (h : Sd β) (ha : Ag β σ) {b what : Nat} (hb : b < nB (wO β) (hO β) (kO β) (iO β) (wO β * hO β)) (hw : what ≤ 2) : WP (fX7_blob σ (nI b) (nI what)) (fun r => Ag β r.2 ∧ r.1 = nI (if what = 0 then zS (wO β) (hO β) (kO β) (iO β) b else if what = 1 then zX (wO β) (hO β) (kO β) (iO β) b else zY (wO β) (hO β) (kO β) (iO β) b)) := by
  obtain ⟨r, er, r1, r2, r3⟩ := find_s h ha
  have hC := h.1
  have h8 : nB (wO β) (hO β) (kO β) (iO β) (wO β * hO β) ≤ 800 := nB_le (by have := hC.2.2.1; omega) (by have := hC.2.2.2.1; omega)
  obtain ⟨z1, z2, z3⟩ := blS_p hb
  obtain ⟨y1, y2, y3⟩ := r3 _ z1 z2
  rw [z3] at y1 y2 y3
  unfold fX7_blob
  rw [ag_s ha, bnd1_of _ er]
  simp only [vthen_eq]
  have hn1 : ¬ nI b = (-1 : Int32) := fun e => by
    have := congrArg Int32.toInt e
    rw [nI_toInt (by omega)] at this
    have e2 : (-1 : Int32).toInt = -1 := rfl
    omega
  rw [if_neg hn1, r2]
  simp only [lt_i, le_i, Int32.reduceToInt, nI_toInt (show b < 2 ^ 31 by omega), nI_toInt (show nB (wO β) (hO β) (kO β) (iO β) (wO β * hO β) < 2 ^ 31 by omega)]
  rw [if_neg (by omega), if_pos (by omega)]
  simp only [grd_eq _ (show inb (nI b) 800 = true from inb_nI (by omega) (by decide)), nI_clamp (show b < 2 ^ 31 by omega)]
  rcases (show what = 0 ∨ what = 1 ∨ what = 2 by omega) with rfl | rfl | rfl
  · exact ⟨_, rfl, r1, y1⟩
  · exact ⟨_, rfl, r1, y2⟩
  · exact ⟨_, rfl, r1, y3⟩
end STAND
