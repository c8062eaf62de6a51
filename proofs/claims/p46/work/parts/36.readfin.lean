/-! 36: the law's reads: the last of its questions. -/
section FIN
variable {β τ : SS} {Tn : Nat → Nat} {l v m cl rb pe : Nat}
theorem sums_one {Q what : Nat} {an se ru st gn an' se' ru' st' gn' : Nat → Int32} (h : ∀ p, p < Q → JV β p (an p) (se p) (ru p) (st p) (gn p)) (h' : ∀ p, p < Q → JV β p (an' p) (se' p) (ru' p) (st' p) (gn' p)) : itr (smQ what se gn) 0 Q = itr (smQ what se' gn') 0 Q :=
  itr_congr fun p hp n => by
    obtain ⟨-, e2, -, -, e5⟩ := (h p hp).one (h' p hp)
    unfold smQ
    rw [e2, e5]
theorem fin_s (h : Prd β Tn l v) (hQ : 1 ≤ qO β) (h0 : (Tn 0).testBit 0 = false) (e3 : gI β 32 3 = nI m) (e4 : gI β 32 4 = nI cl) (e5 : gI β 32 5 = nI rb) (hm : 1 ≤ m ∧ m ≤ 1000) (hcl : 1 ≤ cl ∧ cl ≤ 1000) (hrb : 1 ≤ rb ∧ rb ≤ 1000) (ha : Ag β τ) :
    WP (vthen (fun (s150 : Int32) (σ151 : SS) =>
        vthen (fun (σ152 : SS) => some (false, σ152)) fun j1005 =>
        if s150 = 0 then j1005 σ151 else (
          bnd (fX7_apart σ151 (0 : Int32)) fun v153 σ156 =>
          vthen (fun (s157 : Int32) =>
            if v153 = s157 then (
              bnd (fX7_apart σ156 (1 : Int32)) fun v158 σ161 =>
              if v158 = nI (tC β Tn) then (
                if nI (psum (nO β) (qO β)) ≤ nI (tC β Tn) then j1005 σ161 else some (true, σ161)
                ) else j1005 σ161
              ) else j1005 σ156) fun j981 =>
          if nI (tC β Tn) ≤ 0 then j981 (0 : Int32) else j981 (nI (dK β v)))) fun j958 =>
      vthen (fun (σ162 : SS) => j958 (0 : Int32) σ162) fun j957 =>
      if (1 : Int32) = 0 then j957 τ else (
        bnd (fX7_dark τ (0 : Int32) (-1 : Int32)) fun v163 σ166 =>
        if v163 = 0 then (
          bnd (fX7_sheet σ166 (0 : Int32)) fun v167 σ170 =>
          if v167 = itr (smQ 0 (seE β Tn v m) (gnE β Tn v m)) 0 (qO β) then (
            bnd (fX7_sheet σ170 (1 : Int32)) fun v171 σ174 =>
            if v171 = itr (smQ 1 (seE β Tn v m) (gnE β Tn v m)) 0 (qO β) then (
              bnd (fX7_sheet σ174 (2 : Int32)) fun v175 σ178 =>
              if v175 = itr (smQ 2 (seE β Tn v m) (gnE β Tn v m)) 0 (qO β) then (
                bnd (fX7_unlike σ178) fun v179 σ182 =>
                if v179 = itr (ulE β Tn v m) 0 (qO β) then j958 (1 : Int32) σ182 else j957 σ182
                ) else j957 σ178
              ) else j957 σ174
            ) else j957 σ170
          ) else j957 σ166)) (fun r => r.1 = true ∧ Ag β r.2) := by
  have hmk := h.mk
  have hT := h.1.T
  have ht72 := h.tC72
  have hsn := h.some_not hQ h0
  have hg := h.gap hQ h0
  have hJ : ∀ p, p < qO β → JV β p (anE β Tn v m p) (seE β Tn v m p) (ruE β Tn v m rb p) (stE β Tn v p) (gnE β Tn v m p) := fun p hp => h.jvE hQ h0 e3 e4 e5 hm hcl hrb hp
  refine wp_vk (fun s t => s = (1 : Int32) ∧ Ag β t) (fun s150 σ151 q => ?_) (fun j958 hj => ?_)
  · obtain ⟨rfl, a1⟩ := q
    refine wp_v ?_
    rw [if_neg (by decide)]
    refine wp_bndp (apart_s h.1 a1 (what := 0) (by decide)) fun v153 σ156 ⟨a2, y2⟩ => ?_
    have a2 : Ag β σ156 := a2
    have y2 : v153 = _ := y2 hmk
    rw [if_pos rfl, hg] at y2
    dsimp only at y2
    refine wp_vk1 (fun s => s = nI (if tC β Tn = 0 then 0 else dK β v)) (fun s157 e157 => ?_) (fun j hj => ?_)
    · rw [y2, e157, if_pos rfl]
      refine wp_bndp (apart_s h.1 a2 (what := 1) (by decide)) fun v158 σ161 ⟨a3, y3⟩ => ?_
      have a3 : Ag β σ161 := a3
      have y3 : v158 = _ := y3 hmk
      rw [if_neg (by decide), hg] at y3
      dsimp only at y3
      rw [y3, if_pos rfl, if_neg (by rw [lenN (by omega) (by omega)]; omega)]
      exact ⟨_, rfl, rfl, a3⟩
    · by_cases c : tC β Tn = 0
      · rw [if_pos (by rw [show (0 : Int32) = nI 0 from rfl, lenN (by omega) (by omega)]; omega)]
        exact hj _ (by rw [if_pos c]; rfl)
      · rw [if_neg (by rw [show (0 : Int32) = nI 0 from rfl, lenN (by omega) (by omega)]; omega)]
        exact hj _ (by rw [if_neg c])
  · refine wp_v ?_
    rw [if_neg (by decide)]
    refine wp_bndp (darkP_s h.1 ha (p := 0) hQ) fun v163 σ166 ⟨a1, y1⟩ => ?_
    have a1 : Ag β σ166 := a1
    have y1 : v163 = nI (ppO β) := y1 hmk
    rw [y1, h.P hQ h0, if_pos (show nI 0 = (0 : Int32) from rfl)]
    refine wp_bndp (sheet_s h.1 a1 (what := 0) (by decide)) fun v167 σ170 ⟨a2, _, y2⟩ => ?_
    obtain ⟨an, se, ru, st, gn, J2, y2⟩ := y2 hmk
    have y2 : v167 = itr (smQ 0 se gn) 0 (qO β) := y2
    rw [y2, sums_one J2 hJ, if_pos rfl]
    refine wp_bndp (sheet_s h.1 a2 (what := 1) (by decide)) fun v171 σ174 ⟨a3, _, y3⟩ => ?_
    obtain ⟨an, se, ru, st, gn, J3, y3⟩ := y3 hmk
    have y3 : v171 = itr (smQ 1 se gn) 0 (qO β) := y3
    rw [y3, sums_one J3 hJ, if_pos rfl]
    refine wp_bndp (sheet_s h.1 a3 (what := 2) (by decide)) fun v175 σ178 ⟨a4, _, y4⟩ => ?_
    obtain ⟨an, se, ru, st, gn, J4, y4⟩ := y4 hmk
    have y4 : v175 = itr (smQ 2 se gn) 0 (qO β) := y4
    rw [y4, sums_one J4 hJ, if_pos rfl]
    refine wp_bndp (unlike_s h.1 a4) fun v179 σ182 ⟨a5, y5⟩ => ?_
    obtain ⟨an, se, ru, st, gn, J5, y5⟩ := y5 hmk
    have y5 : v179 = itr (fun p n => if an p = gI β 30 p then n else n + 1) 0 (qO β) := y5
    have e5 : itr (fun p n => if an p = gI β 30 p then n else n + 1) (0 : Int32) (qO β) = itr (ulE β Tn v m) 0 (qO β) := itr_congr fun p hp n => by
      unfold ulE
      rw [((J5 p hp).one (hJ p hp)).1]
    rw [y5, e5, if_pos rfl]
    exact hj _ _ ⟨rfl, a5⟩
end FIN
