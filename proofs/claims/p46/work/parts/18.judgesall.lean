/-! 18: the law's judges, whole. -/
section LAWJ2
variable {β σ : SS}
theorem min_nat {a b : Nat} (ha : a ≤ 1000) (hb : b ≤ 1000) (σ : SS) : fJ9_min_7cf53 σ (nI a) (nI b) = nI (min a b) := min_nI (by omega) (by omega) σ
theorem max_nat {a b : Nat} (ha : a ≤ 1000) (hb : b ≤ 1000) (σ : SS) : fJ9_max_7cf53 σ (nI a) (nI b) = nI (max a b) := max_nI (by omega) (by omega) σ
/-- a question's boxes, the lightest ticked one, the darkest other one -/
theorem boxes_s {b σ : SS} {p L G : Nat} {an ru : Int32} {k353 : Int32 → Int32 → SS → Option (Bool × SS)} {Q : Bool × SS → Prop} (hd : Sd b) (hm : Mkd b) (hp : p < qO b) (hs : Ag b σ) (hL : L ≤ 1000) (hG : G ≤ 324) (hP : ppO b ≤ G)
    (hB : ∀ i, i < nO b p → (((an >>> (nI i &&& 31)) &&& 1 = (1 : Int32)) → L ≤ dO b (psum (nO b) p + i)) ∧ (¬ ((an >>> (nI i &&& 31)) &&& 1 = (1 : Int32)) → ((ru >>> (nI i &&& 31)) &&& 1 = (0 : Int32)) → dO b (psum (nO b) p + i) ≤ G))
    (hk : ∀ l g σ', Ag b σ' → L ≤ l → l ≤ 1000 → g ≤ G → WP (k353 (nI l) (nI g) σ') Q) :
    WP (L_judges_L285 (nI p) an ru k353 fuel (1000 : Int32) (nI (ppO b)) (0 : Int32) σ) Q := by
  have hn := hd.N hp
  have hQ := hd.Q
  unfold L_judges_L285
  refine wf_4 (nO b p) (fun i x y c τ => ∃ l g, x = nI l ∧ y = nI g ∧ c = nI i ∧ Ag b τ ∧ L ≤ l ∧ l ≤ 1000 ∧ g ≤ G) ⟨1000, ppO b, rfl, rfl, rfl, hs, hL, Nat.le_refl _, hP⟩ (by omega) (fun i x y c τ rec hi hI ih => ?_) (fun x y c τ rec hI => ?_)
  · obtain ⟨l, g, rfl, rfl, rfl, hτ, h1, h2, h3⟩ := hI
    have eq : fX7_question τ (nI p) (1 : Int32) = some (nI (nO b p)) := by
      unfold fX7_question
      rw [ag_f hτ, if_pos (by rw [hasQ_eq hQ (hd.F hτ).2.1, nI_toInt (by omega)]; omega), if_neg (by decide), if_pos rfl, grd_eq _ (inb_nI (by omega) (by decide)), nI_clamp (by omega)]
      exact congrArg some ((hd.F hτ).2.2.2 p hp).2.2
    rw [bnd1_of _ eq, if_neg (nI_ge hi (by omega))]
    refine wp_bndp (dark_s hd hτ hp hi) fun v88 σ91 ⟨h91, y88⟩ => ?_
    have y88 : v88 = nI (dO b (psum (nO b) p + i)) := y88 hm
    subst y88
    have hD := hd.D (psum (nO b) p + i)
    by_cases c1 : (an >>> (nI i &&& 31)) &&& 1 = (1 : Int32)
    · rw [if_pos c1]
      refine wp_v ?_
      rw [min_nat h2 (by omega)]
      have := (hB i hi).1 c1
      exact ih _ _ _ _ ⟨_, g, rfl, rfl, nI_1 i, h91, by omega, by omega, h3⟩
    · rw [if_neg c1]
      by_cases c2 : (ru >>> (nI i &&& 31)) &&& 1 = (0 : Int32)
      · rw [if_pos c2]
        refine wp_v ?_
        rw [max_nat (by omega) (by omega)]
        have := (hB i hi).2 c1 c2
        exact ih _ _ _ _ ⟨l, _, rfl, rfl, nI_1 i, h91, h1, h2, by omega⟩
      · rw [if_neg c2]
        exact ih _ _ _ _ ⟨l, g, rfl, rfl, nI_1 i, h91, h1, h2, h3⟩
  · obtain ⟨l, g, rfl, rfl, rfl, hτ, h1, h2, h3⟩ := hI
    have eq : fX7_question τ (nI p) (1 : Int32) = some (nI (nO b p)) := by
      unfold fX7_question
      rw [ag_f hτ, if_pos (by rw [hasQ_eq hQ (hd.F hτ).2.1, nI_toInt (by omega)]; omega), if_neg (by decide), if_pos rfl, grd_eq _ (inb_nI (by omega) (by decide)), nI_clamp (by omega)]
      exact congrArg some ((hd.F hτ).2.2.2 p hp).2.2
    rw [bnd1_of _ eq, if_pos (nI_le (Nat.le_refl _) (by omega))]
    exact hk l g τ hτ h1 h2 h3
theorem quest1 (hd : Sd β) (hs : Ag β σ) {p : Nat} (hp : p < qO β) : fX7_question σ (nI p) (1 : Int32) = some (nI (nO β p)) := by
  have hQ := hd.Q
  unfold fX7_question
  rw [ag_f hs, if_pos (by rw [hasQ_eq hQ (hd.F hs).2.1, nI_toInt (by omega)]; omega), if_neg (by decide), if_pos rfl, grd_eq _ (inb_nI (by omega) (by decide)), nI_clamp (by omega)]
  exact congrArg some ((hd.F hs).2.2.2 p hp).2.2
theorem quest0 (hd : Sd β) (hs : Ag β σ) {p : Nat} (hp : p < qO β) : fX7_question σ (nI p) (0 : Int32) = if gI β (fO β + 1) p = 0 then some (1 : Int32) else some (2 : Int32) := by
  have hQ := hd.Q
  have hf := hd.f
  unfold fX7_question
  rw [ag_f hs, if_pos (by rw [hasQ_eq hQ (hd.F hs).2.1, nI_toInt (by omega)]; omega), if_pos rfl, grd_eq _ (inb_nI (by omega) (by decide)), nI_clamp (by omega), hs.2 _ _ (by unfold Sk; omega)]
theorem count2 (hd : Sd β) (hs : Ag β σ) : fX7_count σ (2 : Int32) = some (nI (qO β)) := by
  unfold fX7_count
  rw [if_neg (by decide), if_neg (by decide), if_pos rfl, ag_f hs]
  exact congrArg some (hd.F hs).2.1
theorem lav_mk (σ : SS) (n : Nat) : lav (mkL σ n) (2000 + gR σ 0 0) = true := decide_eq_true ⟨by omega, by rw [gR_mkL, if_pos rfl, if_pos rfl]; omega⟩
theorem lin_of {σ : SS} {c n k : Nat} (h1 : lav σ c = true) (h2 : gR σ c 0 = n) (hk : k < n) (hn : n < 2 ^ 31) : lin σ c (nI k) = true := by
  unfold lin; rw [h1, h2, inb_nI hk hn]; rfl
theorem judges_s (hd : Sd β) : WP (fL_judges β) (fun r => r.1 = true ∧ Kf β r.2) := by
  have hQ := hd.Q
  obtain ⟨m, hm2, em⟩ := hd.2.2.2.2
  unfold fL_judges L_judges_L4
  refine wf_3 (qO β) (fun i a b c => a = (1 : Int32) ∧ b = nI i ∧ Kf β c) ⟨rfl, rfl, Kf.rf β⟩ (by omega) (fun p a b c rec hp hI ih => ?_) (fun a b c rec hI => ?_)
  · obtain ⟨rfl, rfl, hc⟩ := hI
    have dc : Sd c := hc.sd hd
    have eqc := hc.cq.eqs hd
    have eQ : qO c = qO β := eqc.2.2.2.2.2.2.2.2.1
    refine wp_grd (inb_nI (show p < 13 by omega) (by decide)) ?_
    rw [bnd1_of _ (count2 dc (Ag.rf c)), eQ, if_neg (nI_ge hp (by omega))]
    refine wp_bndp (marked_s dc (Ag.rf c)) fun v5 σ8 ⟨h8, y5⟩ => ?_
    rcases y5 with ⟨hm, e5⟩ | ⟨hm, e5⟩
    · dsimp only at e5
      rw [e5, if_pos rfl]
      have k8 : Kf β σ8 := hc.tr h8.kf
      have e8 : gI σ8 32 3 = nI m := (k8.m 3).trans em
      rw [bnd_of _ (show fX7_set σ8 (3 : Int32) (1 : Int32) = some (gI σ8 32 3, sI σ8 32 3 (nI 1)) from set3 σ8 (k := 1) (by omega)), e8, bnd_of _ (set3 (sI σ8 32 3 (nI 1)) hm2)]
      have k17 : Kf β (sI (sI σ8 32 3 (nI 1)) 32 3 (nI m)) := ⟨k8.1, fun c k h1 h2 => by
        by_cases q : c = 32 ∧ k = 3
        · rw [q.1, q.2, gI_eq, em]
        · rw [gI_nk q, gI_nk q]; exact k8.2.1 c k h1 h2, k8.2.2⟩
      have e17 : gI (sI (sI σ8 32 3 (nI 1)) 32 3 (nI m)) 32 3 = nI m := gI_eq _ _ _ _
      generalize sI (sI σ8 32 3 (nI 1)) 32 3 (nI m) = b at k17 e17
      have db : Sd b := k17.sd hd
      have eqb := k17.cq.eqs hd
      have mb : Mkd b := (k17.cq.D hd).2.2.2.1.mpr ((hc.cq.D hd).2.2.2.1.mp hm)
      have pb : p < qO b := by rw [eqb.2.2.2.2.2.2.2.2.1]; exact hp
      obtain ⟨t, ht, est, est1⟩ := db.t pb
      refine wp_bndp (judged_s db (Ag.rf b) pb (what := 0) (by decide)) fun v18 σ21 ⟨h21, y18⟩ => ?_
      obtain ⟨an, se, ru, st, gn, J, e18⟩ := y18 mb
      have e18 : v18 = an := e18
      subst e18
      refine wp_bndp (judged_s db h21 pb (what := 1) (by decide)) fun v22 σ25 ⟨h25, y22⟩ => ?_
      obtain ⟨an2, se2, ru2, st2, gn2, J2, e22⟩ := y22 mb
      have e22 : v22 = se2 := e22
      rw [e22, ← (J.one J2).2.1]
      refine wp_bndp (steady_s db h25 pb (what := 0) (by decide) ht est e17 hm2.2) fun v26 σ29 ⟨h29, y26⟩ => ?_
      refine wp_bndp (steady_s db h29 pb (what := 1) (by decide) ht est e17 hm2.2) fun v30 σ33 ⟨h33, y30⟩ => ?_
      have y26 : v26 = _ := y26 mb
      have y30 : v30 = _ := y30 mb
      rw [if_pos rfl] at y26
      rw [if_neg (by decide)] at y30
      generalize elo : (if t < m then (if 2 * t < m then 2 * t + 1 else t + 1) else 1) = lo at y26
      generalize ehi : (if t < m then (if 2 * t < m then 200 else min (2 * t) 200) else min t 200) = hi at y30
      subst y26 y30
      have hlo : 1 ≤ lo ∧ lo ≤ 200 ∧ lo ≤ hi ∧ hi ≤ 200 ∧ lo ≤ m ∧ m ≤ hi := by
        rw [← elo, ← ehi]
        by_cases c1 : t < m
        · rw [if_pos c1, if_pos c1]
          by_cases c2 : 2 * t < m
          · rw [if_pos c2, if_pos c2]; omega
          · rw [if_neg c2, if_neg c2]; omega
        · rw [if_neg c1, if_neg c1]; omega
      refine wp_vk1 (fun a => a = (1 : Int32)) (fun a ea => ?_) (fun j102 hj => ?_)
      · subst ea
        refine wp_grd (inb_nI (show p < 12 by omega) (by decide)) ?_
        refine wp_v ?_
        refine wp_v ?_
        -- the five
        have kf33 : Kf b σ33 := h33.kf
        have hE : gR σ33 0 0 = gR b 0 0 := by rw [h33.1]
        have hlv : ∀ τ : SS, gR τ = gR (mkL σ33 5) → lav τ (2000 + gR σ33 0 0) = true := fun τ e => by
          have := lav_mk σ33 5
          unfold lav at *; rw [e]; exact this
        have hln : ∀ τ : SS, gR τ = gR (mkL σ33 5) → gR τ (2000 + gR σ33 0 0) 0 = 5 := fun τ e => by
          rw [e, gR_mkL, if_neg (by omega), if_pos rfl]
        have hli : ∀ (τ : SS) k, gR τ = gR (mkL σ33 5) → k < 5 → lin τ (2000 + gR σ33 0 0) (nI k) = true := fun τ k e hk => lin_of (hlv τ e) (hln τ e) hk (by decide)
        refine wp_grd (hli _ 0 rfl (by decide)) ?_
        refine wp_v ?_
        refine wp_grd (hli _ 1 rfl (by decide)) ?_
        refine wp_v ?_
        refine wp_grd (hli _ 2 rfl (by decide)) ?_
        refine wp_v ?_
        refine wp_grd (hli _ 3 rfl (by decide)) ?_
        refine wp_v ?_
        refine wp_grd (hli _ 4 rfl (by decide)) ?_
        refine wp_v ?_
        refine wp_grd (hlv _ rfl) ?_
        refine wp_v ?_
        rw [gR_sI, gR_sI, gR_sI, gR_sI, gR_sI, hln _ rfl]
        have a1 : nI lo - (1 : Int32) = nI (lo - 1) := nI_sub (a := lo) (b := 1) hlo.1
        have a2 : (nI lo + nI hi) / (2 : Int32) = nI ((lo + hi) / 2) := by
          rw [nI_add, show (2 : Int32) = nI 2 from rfl, pk_div (by omega) (by decide) (by decide)]
        have a3 : nI hi + (1 : Int32) = nI (hi + 1) := nI_1 hi
        rw [a1, a2, a3]
        generalize hc37 : 2000 + gR σ33 0 0 = c37
        have k47 : Kf b (sI (sI (sI (sI (sI (mkL σ33 5) c37 0 (nI (lo - 1))) c37 1 (nI lo)) c37 2 (nI ((lo + hi) / 2))) c37 3 (nI hi)) c37 4 (nI (hi + 1))) := by
          have h0 : Kf b (mkL σ33 5) := kf33.tr (Kf.mk _ _)
          have hcc : 2000 + gR b 0 0 ≤ c37 := by omega
          exact ((((h0.put hcc _ _).put hcc _ _).put hcc _ _).put hcc _ _).put hcc _ _
        have v0 : gI (sI (sI (sI (sI (sI (mkL σ33 5) c37 0 (nI (lo - 1))) c37 1 (nI lo)) c37 2 (nI ((lo + hi) / 2))) c37 3 (nI hi)) c37 4 (nI (hi + 1))) c37 0 = nI (lo - 1) := by
          rw [gI_nk (by omega), gI_nk (by omega), gI_nk (by omega), gI_nk (by omega), gI_eq]
        have v1 : gI (sI (sI (sI (sI (sI (mkL σ33 5) c37 0 (nI (lo - 1))) c37 1 (nI lo)) c37 2 (nI ((lo + hi) / 2))) c37 3 (nI hi)) c37 4 (nI (hi + 1))) c37 1 = nI lo := by
          rw [gI_nk (by omega), gI_nk (by omega), gI_nk (by omega), gI_eq]
        have v2 : gI (sI (sI (sI (sI (sI (mkL σ33 5) c37 0 (nI (lo - 1))) c37 1 (nI lo)) c37 2 (nI ((lo + hi) / 2))) c37 3 (nI hi)) c37 4 (nI (hi + 1))) c37 2 = nI ((lo + hi) / 2) := by
          rw [gI_nk (by omega), gI_nk (by omega), gI_eq]
        have v3 : gI (sI (sI (sI (sI (sI (mkL σ33 5) c37 0 (nI (lo - 1))) c37 1 (nI lo)) c37 2 (nI ((lo + hi) / 2))) c37 3 (nI hi)) c37 4 (nI (hi + 1))) c37 3 = nI hi := by
          rw [gI_nk (by omega), gI_eq]
        have v4 : gI (sI (sI (sI (sI (sI (mkL σ33 5) c37 0 (nI (lo - 1))) c37 1 (nI lo)) c37 2 (nI ((lo + hi) / 2))) c37 3 (nI hi)) c37 4 (nI (hi + 1))) c37 4 = nI (hi + 1) := gI_eq _ _ _ _
        have lv := hlv (sI (sI (sI (sI (sI (mkL σ33 5) c37 0 (nI (lo - 1))) c37 1 (nI lo)) c37 2 (nI ((lo + hi) / 2))) c37 3 (nI hi)) c37 4 (nI (hi + 1))) rfl
        have ln := hln (sI (sI (sI (sI (sI (mkL σ33 5) c37 0 (nI (lo - 1))) c37 1 (nI lo)) c37 2 (nI ((lo + hi) / 2))) c37 3 (nI hi)) c37 4 (nI (hi + 1))) rfl
        rw [hc37] at lv ln
        generalize sI (sI (sI (sI (sI (mkL σ33 5) c37 0 (nI (lo - 1))) c37 1 (nI lo)) c37 2 (nI ((lo + hi) / 2))) c37 3 (nI hi)) c37 4 (nI (hi + 1)) = z at k47 v0 v1 v2 v3 v4 lv ln
        have dz : Sd z := k47.sd db
        have eqz := k47.cq.eqs db
        obtain ⟨Dz1, Dz2, -, Mz, -⟩ := k47.cq.D db
        have mz : Mkd z := Mz.mpr mb
        have pz : p < qO z := by rw [eqz.2.2.2.2.2.2.2.2.1]; exact pb
        have ez : gI z 32 3 = nI m := (k47.m 3).trans e17
        have Jz : JV z p v18 se ru st gn := (k47.cq.jv db (fun k h1 h2 => k47.m k)).mpr (by rw [ez, ← e17]; exact J)
        have stz : (stQ (fun i => dO z (psum (nO z) p + i)) (ppO z) (nO z p) (nO z p)).2 = nI t := by rw [Dz1, Dz2, eqz.2.2.2.2.2.2.2.2.2.1]; exact est
        have stz1 : 1 ≤ (stQ (fun i => dO z (psum (nO z) p + i)) (ppO z) (nO z p) (nO z p)).1 := by rw [Dz1, Dz2, eqz.2.2.2.2.2.2.2.2.2.1]; exact est1
        have Jq := Jz.1
        rw [ez] at Jq
        refine margins_s (D := fun i => dO z (psum (nO z) p + i)) (P := ppO z) (n := nO z p) (one := gI z (fO z + 1) p = 0) (cl := gI z 32 4) (rb := gI z 32 5) dz mz pz (dz.N pz) ht stz stz1 hm2 Jq (fun k σ' hk1 h3 e3 an' se' ru' st' gn' hJ => ?_) elo.symm ehi.symm lv ln v0 v1 v2 v3 v4 (K3.rf z) (fun σ72 h72 => ?_)
        · have := (h3.cq.jv dz (fun k h1 h2 => h3.2 32 k (by unfold Sk; omega) (by omega))).mp hJ
          rw [e3] at this
          exact this.1
        · rw [bnd_of _ (set3 σ72 hm2)]
          have a76 : Ag z (sI σ72 32 3 (nI m)) := (h72.set _).back (by rw [gI_eq, ez])
          generalize sI σ72 32 3 (nI m) = σ76 at a76
          refine wp_bndp (judged_s dz a76 pz (what := 2) (by decide)) fun v77 σ80 ⟨h80, y77⟩ => ?_
          obtain ⟨an3, se3, ru3, st3, gn3, J3, e77⟩ := y77 mz
          have e77 : v77 = ru3 := e77
          rw [e77, ← (Jz.one J3).2.2.1]
          refine wp_bndp (darkP_s dz h80 pz) fun v81 σ84 ⟨h84, y81⟩ => ?_
          have y81 : v81 = nI (ppO z) := y81 mz
          subst y81
          obtain ⟨L, G, l1, l2, l3, l4, l5⟩ := JQ.stands (dz.N pz) (fun k => dz.D _) dz.P (fun k hk => dz.PD (dz.at pz hk)) ht stz stz1 hm2.2 Jq
          refine boxes_s dz mz pz h84 l1 l2 l3 l5 (fun l g σ96 h96 g1 g2 g3 => ?_)
          have kend : Kf β σ96 := k17.tr (k47.tr h96.kf)
          have hih : WP (rec 1 (nI p + 1) σ96) (fun r => r.1 = true ∧ Kf β r.2) := ih _ _ _ ⟨rfl, nI_1 p, kend⟩
          refine wp_vk1 (fun _ => False) (fun a q => q.elim) (fun j428 hj => ?_)
          rw [if_neg (by decide), if_pos (JQ.apart Jq)]
          refine wp_vk1 (fun _ => True) (fun a _ => ?_) (fun j379 hj9 => ?_)
          · refine wp_vk1 (fun _ => True) (fun a _ => ?_) (fun j390 hj0 => ?_)
            · refine wp_vk1 (fun _ => True) (fun a _ => ?_) (fun j415 hj5 => ?_)
              · rw [bnd1_of _ (quest1 dz h96 pz)]
                have := (dz.N pz).1
                rw [if_neg (c := nI (nO z p) ≤ 0) (by have := (dz.N pz).2; rw [le_i, nI_toInt (by omega)]; simp; omega)]
                exact hih
              · by_cases c2 : se = 2
                · rw [if_pos c2]
                  obtain ⟨o1, o2⟩ := JQ.double σ96 (dz.N pz).2 Jq c2
                  rw [if_neg o2, quest0 dz h96 pz, if_pos o1]
                  refine wp_bnd1 (Q := fun a => a = (1 : Int32)) ⟨_, rfl, rfl⟩ fun a ea => ?_
                  rw [if_pos ea]
                  exact hj5 () trivial
                · rw [if_neg c2]
                  exact hj5 () trivial
            · by_cases c1 : se = 1
              · rw [if_pos c1, if_pos (JQ.doubt ht stz (by omega) Jq c1)]
                exact hj0 () trivial
              · rw [if_neg c1]
                exact hj0 () trivial
          · by_cases c0 : v18 = 0
            · rw [if_pos c0]; exact hj9 () trivial
            · rw [if_neg c0]
              have hgap : G + m ≤ L := l4.resolve_left c0
              rw [nI_sub (by omega), if_neg (c := nI (l - g) < nI m) (by rw [lt_i, nI_toInt (by omega), nI_toInt (by omega)]; omega)]
              exact hj9 () trivial
      · refine wp_vk1 (fun _ => False) (fun a q => q.elim) (fun j101 hj1 => ?_)
        rw [if_neg (by decide)]
        rw [if_neg (c := nI lo < (1 : Int32)) (by rw [lt_i, nI_toInt (by omega)]; simp; omega)]
        rw [if_neg (c := nI m < nI lo) (by rw [lt_i, nI_toInt (by omega), nI_toInt (by omega)]; omega)]
        rw [if_neg (c := nI hi < nI m) (by rw [lt_i, nI_toInt (by omega), nI_toInt (by omega)]; omega)]
        rw [if_neg (c := (200 : Int32) < nI hi) (by rw [lt_i, nI_toInt (by omega)]; simp; omega)]
        exact hj _ rfl
    · dsimp only at e5
      rw [e5, if_neg (by decide)]
      exact wp_grd (by decide) ⟨_, rfl, rfl, hc.tr h8.kf⟩
  · obtain ⟨rfl, rfl, hc⟩ := hI
    have dc : Sd c := hc.sd hd
    have eQ : qO c = qO β := (hc.cq.eqs hd).2.2.2.2.2.2.2.2.1
    refine wp_grd (inb_nI (show qO β < 13 by omega) (by decide)) ?_
    rw [bnd1_of _ (count2 dc (Ag.rf c)), eQ, if_pos (nI_le (Nat.le_refl _) (by omega))]
    exact wp_grd (by decide) ⟨_, rfl, rfl, hc⟩
end LAWJ2
