/-! 34: the law's reads: one question's values, asked. -/
theorem pop_z : ∀ T, T < 64 → (pop12 (nI T) ≤ (0 : Int32) ↔ T = 0) := by decide +kernel
section EXPECT
variable (β : SS) (Tn : Nat → Nat) (v m rb : Nat)
def anE (p : Nat) : Int32 := nI (if m ≤ dK β v then Tn p else 0)
def seE (p : Nat) : Int32 := if gI β (fO β + 1) p = 0 ∧ ¬ pop12 (nI (Tn p)) ≤ 1 ∧ m ≤ dK β v then 2 else if Tn p ≠ 0 ∧ dK β v < m ∧ m ≤ 2 * dK β v then 1 else 0
def ruE (p : Nat) : Int32 := nI (if m ≤ dK β v then 0 else if rb ≤ dK β v then Tn p else 0)
def stE (p : Nat) : Int32 := nI (if Tn p = 0 then 0 else dK β v)
def gnE (p : Nat) : Int32 := gnS (gI β (fO β + 4) p) (anE β Tn v m p) (seE β Tn v m p) (gI β (fO β + 5) p) (gI β 32 6)
end EXPECT
section ASKED
variable {β τ : SS} {Tn : Nat → Nat} {l v m cl rb pe p : Nat}
theorem seE_r : seE β Tn v m p = 0 ∨ seE β Tn v m p = 1 ∨ seE β Tn v m p = 2 := by
  unfold seE
  split
  · exact Or.inr (Or.inr rfl)
  · split
    · exact Or.inr (Or.inl rfl)
    · exact Or.inl rfl
theorem Prd.jvE (h : Prd β Tn l v) (hQ : 1 ≤ qO β) (h0 : (Tn 0).testBit 0 = false) (e3 : gI β 32 3 = nI m) (e4 : gI β 32 4 = nI cl) (e5 : gI β 32 5 = nI rb) (hm : 1 ≤ m ∧ m ≤ 1000) (hcl : 1 ≤ cl ∧ cl ≤ 1000) (hrb : 1 ≤ rb ∧ rb ≤ 1000) (hp : p < qO β) : JV β p (anE β Tn v m p) (seE β Tn v m p) (ruE β Tn v m rb p) (stE β Tn v p) (gnE β Tn v m p) :=
  h.jv hQ h0 e3 e4 e5 hm hcl hrb hp (fun q => by unfold seE; rw [if_pos q]) (fun q => by unfold seE; rw [if_neg q]) rfl
/-- the law's own answers -/
theorem vals_s {P : Bool × SS → Prop} {K : Int32 → Int32 → Int32 → Int32 → Option (Bool × SS)} {ii ct : Nat} (hT : Tn p < 64) (hd : 1 ≤ dK β v ∧ dK β v ≤ 324) (hm : m ≤ 1000) (hrb : rb ≤ 1000) (hp : p < 5)
    (li : ∀ k, k < 300 → lin τ ii (nI k) = true) (w16 : gI τ ii (16 + 16 * p) = 1 ↔ gI β (fO β + 1) p = 0) (w19 : gI τ ii (19 + 16 * p) = gI β (fO β + 5) p) (wc : gI τ ct p = nI (Tn p)) (e6 : gI β 32 6 = nI pe)
    (hK : WP (K (anE β Tn v m p) (seE β Tn v m p) (ruE β Tn v m rb p) (gnE β Tn v m p)) P) :
    WP (vthen (fun (s87 : Int32) =>
          vthen (fun (s88 : Int32) =>
            vthen (fun (s89 : Int32) =>
              vthen (fun (s90 : Int32) =>
                vthen (fun (s91 : Int32) =>
                  vthen (fun (s92 : Int32) =>
                    vthen (fun (s93 : Int32) => K s88 s91 s92 s93) fun j654 =>
                    vthen (fun (_u : Unit) => j654 (0 : Int32)) fun j618 =>
                    if gI β (fO β + 4) p = 0 then j618 () else (
                      if s91 ≤ 0 then (
                        if s88 = gI β (fO β + 4) p then (
                          grd (lin τ ii ((19 : Int32) + ((16 : Int32) * nI p))) <|
                          j654 (gI τ ii (Int32.toNatClampNeg ((19 : Int32) + ((16 : Int32) * nI p))))
                          ) else (if s88 ≤ 0 then j654 (0 : Int32) else j654 (-nI pe))
                        ) else j618 ())) fun j606 =>
                  vthen (fun (_u : Unit) => j606 (0 : Int32)) fun j605 =>
                  if s88 = 0 then (if nI (dK β v) < nI rb then j605 () else j606 (gI τ ct (Int32.toNatClampNeg (nI p)))) else j605 ()) fun j583 =>
                if s90 = 0 then j583 s89 else j583 (2 : Int32)) fun j570 =>
              vthen (fun (_u : Unit) => j570 (0 : Int32)) fun j569 =>
              if s87 = 0 then j569 () else (
                if pop12 (nI (Tn p)) ≤ (1 : Int32) then j569 () else (
                  grd (lin τ ii ((16 : Int32) + ((16 : Int32) * nI p))) <|
                  if (gI τ ii (Int32.toNatClampNeg ((16 : Int32) + ((16 : Int32) * nI p)))) = (1 : Int32) then j570 (1 : Int32) else j569 ()))) fun j538 =>
            vthen (fun (_u : Unit) => j538 (0 : Int32)) fun j537 =>
            if pop12 (nI (Tn p)) ≤ 0 then j537 () else (
              if s87 = 0 then (if ((2 : Int32) * nI (dK β v)) < nI m then j537 () else j538 (1 : Int32)) else j537 ())) fun j512 =>
          if s87 = 0 then j512 (0 : Int32) else j512 (gI τ ct (Int32.toNatClampNeg (nI p)))) fun j496 =>
        if nI (dK β v) < nI m then j496 (0 : Int32) else j496 (1 : Int32)) P := by
  have ix : ∀ a : Nat, nI a + (16 : Int32) * nI p = nI (a + 16 * p) := fun a => by rw [show (16 : Int32) = nI 16 from rfl, nI_mul, nI_add]
  have ltm : (nI (dK β v) < nI m) = (dK β v < m) := ltnN (by omega) (by omega)
  have ep : Int32.toNatClampNeg (nI p) = p := nI_clamp (by omega)
  refine wp_vk1 (fun s => s = if m ≤ dK β v then (1 : Int32) else 0) (fun s87 e87 => ?_) (fun j hj => ?_)
  rotate_left
  · by_cases c : dK β v < m
    · rw [if_pos (by rw [ltm]; exact c)]; exact hj _ (by rw [if_neg (by omega)])
    · rw [if_neg (by rw [ltm]; exact c)]; exact hj _ (by rw [if_pos (by omega)])
  have s87z : s87 = 0 ↔ ¬ m ≤ dK β v := by
    rw [e87]
    by_cases c : m ≤ dK β v
    · rw [if_pos c]; exact ⟨fun q => absurd q (by decide), fun q => absurd c q⟩
    · rw [if_neg c]; exact ⟨fun _ => c, fun _ => rfl⟩
  refine wp_vk1 (fun s => s = anE β Tn v m p) (fun s88 e88 => ?_) (fun j hj => ?_)
  rotate_left
  · by_cases c : m ≤ dK β v
    · rw [if_neg (fun q => s87z.mp q c), ep, wc]; exact hj _ (by unfold anE; rw [if_pos c])
    · rw [if_pos (s87z.mpr c)]; exact hj _ (by unfold anE; rw [if_neg c]; rfl)
  have s88z : s88 = 0 ↔ (m ≤ dK β v → Tn p = 0) := by
    rw [e88]
    unfold anE
    by_cases c : m ≤ dK β v
    · rw [if_pos c]
      exact ⟨fun q _ => nI_injN (by omega) (by omega) (q.trans (show (0 : Int32) = nI 0 from rfl)), fun q => by rw [q c]; rfl⟩
    · rw [if_neg c]; exact ⟨fun _ q => absurd q c, fun _ => rfl⟩
  have s88l : s88 ≤ 0 ↔ s88 = 0 := by
    rw [e88]
    unfold anE
    generalize hz : (if m ≤ dK β v then Tn p else 0) = z
    have hz2 : z < 64 := by rw [← hz]; split <;> omega
    rw [show (0 : Int32) = nI 0 from rfl, lenN (by omega) (by omega)]
    exact ⟨fun q => by rw [show z = 0 by omega], fun q => by rw [nI_injN (by omega) (by omega) q]; omega⟩
  refine wp_vk1 (fun s => s = if Tn p ≠ 0 ∧ dK β v < m ∧ m ≤ 2 * dK β v then (1 : Int32) else 0) (fun s89 e89 => ?_) (fun j hj => ?_)
  rotate_left
  · refine wp_v ?_
    by_cases c : Tn p = 0
    · rw [if_pos ((pop_z _ hT).mpr c)]; exact hj _ (by rw [if_neg (fun q => q.1 c)])
    · rw [if_neg (fun q => c ((pop_z _ hT).mp q))]
      by_cases c2 : m ≤ dK β v
      · rw [if_neg (fun q => s87z.mp q c2)]; exact hj _ (by rw [if_neg (fun q => by omega)])
      · rw [if_pos (s87z.mpr c2), show (2 : Int32) = nI 2 from rfl, nI_mul]
        by_cases c3 : 2 * dK β v < m
        · rw [if_pos (by rw [ltnN (by omega) (by omega)]; exact c3)]; exact hj _ (by rw [if_neg (fun q => by omega)])
        · rw [if_neg (by rw [ltnN (by omega) (by omega)]; exact c3)]; exact hj _ (by rw [if_pos ⟨c, by omega, by omega⟩])
  refine wp_vk1 (fun s => s = if gI β (fO β + 1) p = 0 ∧ ¬ pop12 (nI (Tn p)) ≤ 1 ∧ m ≤ dK β v then (1 : Int32) else 0) (fun s90 e90 => ?_) (fun j hj => ?_)
  rotate_left
  · refine wp_v ?_
    by_cases c2 : m ≤ dK β v
    · rw [if_neg (fun q => s87z.mp q c2)]
      by_cases c3 : pop12 (nI (Tn p)) ≤ (1 : Int32)
      · rw [if_pos c3]; exact hj _ (by rw [if_neg (fun q => q.2.1 c3)])
      · rw [if_neg c3, show (16 : Int32) + (16 : Int32) * nI p = nI (16 + 16 * p) from ix 16, nI_clamp (by omega)]
        refine wp_grd (li _ (by omega)) ?_
        by_cases c4 : gI β (fO β + 1) p = 0
        · rw [if_pos (w16.mpr c4)]; exact hj _ (by rw [if_pos ⟨c4, c3, c2⟩])
        · rw [if_neg (fun q => c4 (w16.mp q))]; exact hj _ (by rw [if_neg (fun q => c4 q.1)])
    · rw [if_pos (s87z.mpr c2)]; exact hj _ (by rw [if_neg (fun q => c2 q.2.2)])
  refine wp_vk1 (fun s => s = seE β Tn v m p) (fun s91 e91 => ?_) (fun j hj => ?_)
  rotate_left
  · by_cases c : gI β (fO β + 1) p = 0 ∧ ¬ pop12 (nI (Tn p)) ≤ 1 ∧ m ≤ dK β v
    · rw [if_pos c] at e90
      rw [e90, if_neg (by decide)]; exact hj _ (by unfold seE; rw [if_pos c])
    · rw [if_neg c] at e90
      rw [e90, if_pos rfl]; exact hj _ (by unfold seE; rw [if_neg c]; exact e89)
  refine wp_vk1 (fun s => s = ruE β Tn v m rb p) (fun s92 e92 => ?_) (fun j hj => ?_)
  rotate_left
  · refine wp_v ?_
    have ltr : (nI (dK β v) < nI rb) = (dK β v < rb) := ltnN (by omega) (by omega)
    by_cases c2 : m ≤ dK β v
    · by_cases c3 : s88 = 0
      · have hz := s88z.mp c3 c2
        rw [if_pos c3]
        by_cases c4 : dK β v < rb
        · rw [if_pos (by rw [ltr]; exact c4)]; exact hj _ (by unfold ruE; rw [if_pos c2]; rfl)
        · rw [if_neg (by rw [ltr]; exact c4), ep, wc, hz]; exact hj _ (by unfold ruE; rw [if_pos c2])
      · rw [if_neg c3]; exact hj _ (by unfold ruE; rw [if_pos c2]; rfl)
    · rw [if_pos (s88z.mpr fun q => absurd q c2)]
      by_cases c4 : dK β v < rb
      · rw [if_pos (by rw [ltr]; exact c4)]; exact hj _ (by unfold ruE; rw [if_neg c2, if_neg (by omega)]; rfl)
      · rw [if_neg (by rw [ltr]; exact c4), ep, wc]; exact hj _ (by unfold ruE; rw [if_neg c2, if_pos (by omega)])
  refine wp_vk1 (fun s => s = gnE β Tn v m p) (fun s93 e93 => ?_) (fun j hj => ?_)
  · rw [e88, e91, e92, e93]; exact hK
  · refine wp_v ?_
    have s91l : s91 ≤ 0 ↔ s91 = 0 := by
      rw [e91]
      rcases seE_r (β := β) (Tn := Tn) (v := v) (m := m) (p := p) with q | q | q <;> rw [q] <;> decide
    by_cases c1 : gI β (fO β + 4) p = 0
    · rw [if_pos c1]; exact hj _ (by unfold gnE gnS; rw [if_pos c1])
    · rw [if_neg c1]
      by_cases c2 : s91 = 0
      · rw [if_pos (s91l.mpr c2)]
        rw [e91] at c2
        by_cases c3 : s88 = gI β (fO β + 4) p
        · rw [if_pos c3, show (19 : Int32) + (16 : Int32) * nI p = nI (19 + 16 * p) from ix 19, nI_clamp (by omega), w19]
          refine wp_grd (li _ (by omega)) (hj _ ?_)
          unfold gnE gnS
          rw [if_neg c1, if_pos c2, if_pos (by rw [← e88]; exact c3)]
        · rw [if_neg c3]
          by_cases c4 : s88 = 0
          · rw [if_pos (s88l.mpr c4)]
            refine hj _ ?_
            unfold gnE gnS
            rw [if_neg c1, if_pos c2, if_neg (by rw [← e88]; exact c3), if_pos (by rw [← e88]; exact c4)]
          · rw [if_neg (fun q => c4 (s88l.mp q))]
            refine hj _ ?_
            unfold gnE gnS
            rw [if_neg c1, if_pos c2, if_neg (by rw [← e88]; exact c3), if_neg (by rw [← e88]; exact c4), e6]
      · rw [if_neg (fun q => c2 (s91l.mp q))]
        rw [e91] at c2
        exact hj _ (by unfold gnE gnS; rw [if_neg c1, if_neg c2])
end ASKED
