/-! 17: the law's judges. -/
/-- all but scratch, and arrays made since, is as it was -/
def Kf (β σ : SS) : Prop := (∀ c k, c ≠ 0 → c < 2000 + gR β 0 0 → gR σ c k = gR β c k) ∧ (∀ c k, c < 2000 + gR β 0 0 → ¬ Sk c k → gI σ c k = gI β c k) ∧ gR β 0 0 ≤ gR σ 0 0
theorem Kf.rf (β : SS) : Kf β β := ⟨fun _ _ _ _ => rfl, fun _ _ _ _ => rfl, Nat.le_refl _⟩
theorem Kf.tr {a b c : SS} (h : Kf a b) (h' : Kf b c) : Kf a c := ⟨fun q k h1 h2 => (h'.1 q k h1 (by have := h.2.2; omega)).trans (h.1 q k h1 h2), fun q k h1 h2 => (h'.2.1 q k (by have := h.2.2; omega) h2).trans (h.2.1 q k h1 h2), Nat.le_trans h.2.2 h'.2.2⟩
theorem Ag.kf {β σ : SS} (h : Ag β σ) : Kf β σ := ⟨fun c k _ _ => by rw [h.1], fun c k _ h2 => h.2 c k h2, by rw [h.1]; exact Nat.le_refl _⟩
theorem Kf.mk (β : SS) (n : Nat) : Kf β (mkL β n) := ⟨fun c k h1 h2 => by rw [gR_mkL, if_neg h1, if_neg (by omega)], fun c k h1 _ => by rw [gI_mkL, if_neg (by omega)], by rw [gR_mkL, if_pos rfl, if_pos rfl]; omega⟩
theorem Kf.put {β σ : SS} (h : Kf β σ) {c : Nat} (hc : 2000 + gR β 0 0 ≤ c) (k : Nat) (v : Int32) : Kf β (sI σ c k v) := ⟨h.1, fun q j h1 h2 => by rw [gI_ne (by omega)]; exact h.2.1 q j h1 h2, h.2.2⟩
theorem Kf.cq {β σ : SS} (h : Kf β σ) : Cq β σ := ⟨fun k => h.1 1 k (by decide) (by omega), fun c k h1 h2 _ => h.2.1 c k (by omega) h2⟩
theorem Kf.m {β σ : SS} (h : Kf β σ) (k : Nat) : gI σ 32 k = gI β 32 k := h.2.1 _ _ (by omega) (by unfold Sk; omega)
theorem Kf.sd {β σ : SS} (h : Kf β σ) (hd : Sd β) : Sd σ := h.cq.sd hd (by rw [h.m 3]; exact hd.2.2.2.2)
theorem set3 (σ : SS) {k : Nat} (h : 1 ≤ k ∧ k ≤ 200) : fX7_set σ (3 : Int32) (nI k) = some (gI σ 32 3, sI σ 32 3 (nI k)) := by
  rw [set7, if_pos (by decide), if_pos]
  · rfl
  · have e1 : (roV 1001 ((3 : Int32).toNatClampNeg)).toInt = 1 := rfl
    have e2 : (roV 1002 ((3 : Int32).toNatClampNeg)).toInt = 200 := rfl
    rw [e1, e2, nI_toInt (by omega)]; omega
/-- as the base but for the margin -/
def K3 (β σ : SS) : Prop := gR σ = gR β ∧ ∀ c k, ¬ Sk c k → ¬ (c = 32 ∧ k = 3) → gI σ c k = gI β c k
theorem K3.rf (β : SS) : K3 β β := ⟨rfl, fun _ _ _ _ => rfl⟩
theorem K3.ag {β σ τ : SS} (h : K3 β σ) (h' : Ag σ τ) : K3 β τ := ⟨h'.1.trans h.1, fun c k h1 h2 => (h'.2 c k h1).trans (h.2 c k h1 h2)⟩
theorem K3.set {β σ : SS} (h : K3 β σ) (v : Int32) : K3 β (sI σ 32 3 v) := ⟨h.1, fun c k h1 h2 => by rw [gI_nk h2]; exact h.2 c k h1 h2⟩
theorem K3.cq {β σ : SS} (h : K3 β σ) : Cq β σ := ⟨fun k => by rw [h.1], fun c k _ h2 h3 => h.2 c k h2 (fun q => h3 ⟨q.1, by omega⟩)⟩
theorem K3.back {β σ : SS} (h : K3 β σ) (e : gI σ 32 3 = gI β 32 3) : Ag β σ := ⟨h.1, fun c k h1 => by
  by_cases q : c = 32 ∧ k = 3
  · rw [q.1, q.2]; exact e
  · exact h.2 c k h1 q⟩
section LAWJ
variable {β σ : SS}
/-- the law's five margins -/
theorem margins_s {b σ : SS} {p lo hi m t n : Nat} {one : Prop} {cl rb an se ru st : Int32} {D : Nat → Nat} {P : Nat} {c37 : Nat} {k254 : Int32 → SS → Option (Bool × SS)} {Q : Bool × SS → Prop}
    (hd : Sd b) (hm : Mkd b) (hp : p < qO b) (hn : 1 ≤ n ∧ n ≤ 6) (ht : t ≤ 324) (hst : (stQ D P n n).2 = nI t) (h1 : 1 ≤ (stQ D P n n).1) (hm2 : 1 ≤ m ∧ m ≤ 200)
    (hJ : JQ D P n one (nI m) cl rb an se ru st)
    (hJV : ∀ k σ', (1 ≤ k ∧ k ≤ 200) → K3 b σ' → gI σ' 32 3 = nI k → ∀ an' se' ru' st' gn', JV σ' p an' se' ru' st' gn' → JQ D P n one (nI k) cl rb an' se' ru' st')
    (elo : lo = if t < m then (if 2 * t < m then 2 * t + 1 else t + 1) else 1) (ehi : hi = if t < m then (if 2 * t < m then 200 else min (2 * t) 200) else min t 200)
    (hv : lav b c37 = true) (hl : gR b c37 0 = 5) (w0 : gI b c37 0 = nI (lo - 1)) (w1 : gI b c37 1 = nI lo) (w2 : gI b c37 2 = nI ((lo + hi) / 2)) (w3 : gI b c37 3 = nI hi) (w4 : gI b c37 4 = nI (hi + 1))
    (hs : K3 b σ) (hk : ∀ σ', K3 b σ' → WP (k254 (1 : Int32) σ') Q) :
    WP (L_judges_L154 (nI p) an se (nI lo) (nI hi) c37 (nI 5) k254 fuel (1 : Int32) (0 : Int32) σ) Q := by
  have hlo : 1 ≤ lo ∧ lo ≤ 200 ∧ lo ≤ hi ∧ hi ≤ 200 ∧ lo ≤ m ∧ m ≤ hi := by
    rw [elo, ehi]
    by_cases c1 : t < m
    · rw [if_pos c1, if_pos c1]
      by_cases c2 : 2 * t < m
      · rw [if_pos c2, if_pos c2]; omega
      · rw [if_neg c2, if_neg c2]; omega
    · rw [if_neg c1, if_neg c1]; omega
  have hc2 : 2000 ≤ c37 := (of_decide_eq_true hv).1
  unfold L_judges_L154
  refine wf_3 5 (fun i a b' c => a = (1 : Int32) ∧ b' = nI i ∧ K3 b c) ⟨rfl, rfl, hs⟩ (by decide) (fun i a b' c rec hi5 hI ih => ?_) (fun a b' c rec hI => ?_)
  · obtain ⟨rfl, rfl, hc⟩ := hI
    rw [if_neg (c := nI 5 ≤ nI i) (nI_ge hi5 (by decide))]
    have hg : lin c c37 (nI i) = true := by
      unfold lin lav
      rw [hc.1, hl, inb_nI hi5 (by decide)]
      unfold lav at hv
      rw [hv]; rfl
    refine wp_grd hg ?_
    have ev : ∃ k, k ≤ 201 ∧ gI c c37 i = nI k := by
      rw [hc.2 c37 i (by unfold Sk; omega) (by omega)]
      rcases (show i = 0 ∨ i = 1 ∨ i = 2 ∨ i = 3 ∨ i = 4 by omega) with rfl | rfl | rfl | rfl | rfl
      · exact ⟨_, by omega, w0⟩
      · exact ⟨_, by omega, w1⟩
      · exact ⟨_, by omega, w2⟩
      · exact ⟨_, by omega, w3⟩
      · exact ⟨_, by omega, w4⟩
    obtain ⟨k, hk2, ek⟩ := ev
    rw [nI_clamp (by omega), ek]
    refine wp_v ?_
    have hih : ∀ τ, K3 b τ → WP (rec 1 (nI i + 1) τ) Q := fun τ q => ih _ _ _ ⟨rfl, nI_1 i, q⟩
    by_cases c0 : k = 0
    · subst c0
      rw [if_pos (c := nI 0 ≤ 0) (by decide)]
      exact hih _ hc
    rw [if_neg (c := nI k ≤ 0) (by rw [le_i, nI_toInt (by omega)]; simp; omega)]
    by_cases c1 : 200 < k
    · rw [if_pos (c := (200 : Int32) < nI k) (by rw [lt_i, nI_toInt (by omega)]; simp; omega)]
      exact hih _ hc
    rw [if_neg (c := (200 : Int32) < nI k) (by rw [lt_i, nI_toInt (by omega)]; simp; omega)]
    have hk1 : 1 ≤ k ∧ k ≤ 200 := by omega
    rw [bnd_of _ (set3 c hk1)]
    have h55 : K3 b (sI c 32 3 (nI k)) := hc.set _
    have e55 : gI (sI c 32 3 (nI k)) 32 3 = nI k := gI_eq _ _ _ _
    generalize sI c 32 3 (nI k) = σ55 at h55 e55
    have d55 : Sd σ55 := h55.cq.sd hd ⟨k, hk1, e55⟩
    have m55 : Mkd σ55 := (h55.cq.D hd).2.2.2.1.mpr hm
    have q55 : p < qO σ55 := by rw [(h55.cq.eqs hd).2.2.2.2.2.2.2.2.1]; exact hp
    refine wp_vk (fun a τ => a = (1 : Int32) ∧ K3 b τ) (fun a τ q => by rw [q.1]; exact hih τ q.2) (fun j247 hj7 => ?_)
    refine wp_vk1 (fun _ => False) (fun a q => q.elim) (fun j246 hj6 => ?_)
    rw [if_neg (by decide)]
    refine wp_bndp (judged_s d55 (Ag.rf σ55) q55 (what := 0) (by decide)) fun v59 σ62 ⟨h62, y59⟩ => ?_
    obtain ⟨an', se', ru', st', gn', J1, e59⟩ := y59 m55
    have e59 : v59 = an' := e59
    subst e59
    have zone := JQ.zone hn ht hst h1 (show m ≤ 1000 by omega) (show k ≤ 1000 by omega) hJ (hJV k σ55 hk1 h55 e55 _ _ _ _ _ J1)
    have zin := zone_in (t := t) hm2 hk1
    rw [← elo, ← ehi] at zin
    -- what the two sides of the law's equality come to
    refine wp_vk (fun a τ => ((a = (1 : Int32) ∧ (v59 = an ∧ se' = se)) ∨ (a = (0 : Int32) ∧ ¬ (v59 = an ∧ se' = se))) ∧ K3 b τ) (fun a τ q => ?_) (fun j220 hj2 => ?_)
    · refine wp_vk1 (fun a' => (a' = (1 : Int32) ∧ (lo ≤ k ∧ k ≤ hi)) ∨ (a' = (0 : Int32) ∧ ¬ (lo ≤ k ∧ k ≤ hi))) (fun a' q' => ?_) (fun j239 hj3 => ?_)
      · have : a = a' := by
          rcases q.1 with ⟨x1, x2⟩ | ⟨x1, x2⟩ <;> rcases q' with ⟨z1, z2⟩ | ⟨z1, z2⟩
          · rw [x1, z1]
          · exact absurd (zin.mp (zone.mp x2)) z2
          · exact absurd (zone.mpr (zin.mpr z2)) x2
          · rw [x1, z1]
        rw [if_pos this]
        exact hj7 _ _ ⟨rfl, q.2⟩
      · refine wp_vk1 (fun _ => ¬ (lo ≤ k ∧ k ≤ hi)) (fun a' q' => hj3 _ (Or.inr ⟨rfl, q'⟩)) (fun j238 hj4 => ?_)
        by_cases g1 : k < lo
        · rw [if_pos (c := nI k < nI lo) (by rw [lt_i, nI_toInt (by omega), nI_toInt (by omega)]; omega)]
          exact hj4 _ (by omega)
        rw [if_neg (c := nI k < nI lo) (by rw [lt_i, nI_toInt (by omega), nI_toInt (by omega)]; omega)]
        by_cases g2 : hi < k
        · rw [if_pos (c := nI hi < nI k) (by rw [lt_i, nI_toInt (by omega), nI_toInt (by omega)]; omega)]
          exact hj4 _ (by omega)
        rw [if_neg (c := nI hi < nI k) (by rw [lt_i, nI_toInt (by omega), nI_toInt (by omega)]; omega)]
        exact hj3 _ (Or.inl ⟨rfl, by omega⟩)
    · refine wp_vk1 (fun τ => K3 b τ ∧ ¬ (v59 = an ∧ se' = se)) (fun τ q => hj2 _ _ ⟨Or.inr ⟨rfl, q.2⟩, q.1⟩) (fun j219 hj9 => ?_)
      have k62 : K3 b σ62 := h55.ag h62
      by_cases g1 : v59 = an
      · rw [if_pos g1]
        refine wp_bndp (judged_s d55 h62 q55 (what := 1) (by decide)) fun v67 σ70 ⟨h70, y67⟩ => ?_
        obtain ⟨an2, se2, ru2, st2, gn2, J2, e67⟩ := y67 m55
        have e67 : v67 = se2 := e67
        have e68 := (JV.one J1 J2).2.1
        rw [e67, ← e68]
        have k70 : K3 b σ70 := h55.ag h70
        by_cases g2 : se' = se
        · rw [if_pos g2]; exact hj2 _ _ ⟨Or.inl ⟨rfl, g1, g2⟩, k70⟩
        · rw [if_neg g2]; exact hj9 _ ⟨k70, fun q => g2 q.2⟩
      · rw [if_neg g1]
        exact hj9 _ ⟨k62, fun q => g1 q.1⟩
  · obtain ⟨rfl, rfl, hc⟩ := hI
    rw [if_pos (c := nI 5 ≤ nI 5) (nI_le (Nat.le_refl _) (by decide))]
    exact hk _ hc
end LAWJ
