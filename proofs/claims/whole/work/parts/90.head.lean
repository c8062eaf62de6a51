/-! Form kept: the head. -/
def upN (N : Nat → Nat) (q c p : Nat) : Nat := if p = q then c else N p
/-- cells of a bank of the reference's -/
def OB (bb c k : Nat) : Prop := (c = 75 ∧ 5 * bb ≤ k ∧ k < 5 * bb + 5) ∨ (76 ≤ c ∧ c ≤ 79 ∧ 12 * bb ≤ k ∧ k < 12 * bb + 12) ∨ (80 ≤ c ∧ c ≤ 81 ∧ 72 * bb ≤ k ∧ k < 72 * bb + 72)
/-- all but tokens, the class's draft, the reference's other bank, is as it was -/
def Om (g bb : Nat) (a0 b0 a b : SS) : Prop := (gR a = gR a0 ∧ gR b = gR b0) ∧ (∀ c k, c ≠ 26 → ¬ (g ≤ c ∧ c ≤ g + 7) → gI a c k = gI a0 c k) ∧ (∀ c k, ¬ (c = 73 ∧ 2 ≤ k ∧ k ≤ 9) → ¬ OB bb c k → gI b c k = gI b0 c k) ∧ gI b 73 11 = nI bb
theorem Om.sb {g bb : Nat} {a0 b0 : SS} (hg : 27 < g ∨ g + 7 < 26) : Sb (Om g bb a0 b0) := by
  rintro a b a' b' ⟨⟨h1, h2⟩, h3, h4, h5⟩ q1 q2 q3 q4
  exact ⟨⟨q1.trans h1, q3.trans h2⟩, fun c k c1 c2 => by rw [q2 c k c1]; exact h3 c k c1 c2, fun c k c1 c2 => by rw [q4 c k c1]; exact h4 c k c1 c2, by rw [q4 _ _ (by omega)]; exact h5⟩
section OMS
variable {g bb : Nat} {a0 b0 a b : SS}
theorem Om.cl (h : Om g bb a0 b0 a b) {c k : Nat} {v : Int32} (hc : c = 26 ∨ (g ≤ c ∧ c ≤ g + 7)) : Om g bb a0 b0 (sI a c k v) b := by
  obtain ⟨⟨h1, h2⟩, h3, h4, h5⟩ := h
  exact ⟨⟨h1, h2⟩, fun c' k' c1 c2 => by rw [gI_ne (by omega)]; exact h3 c' k' c1 c2, h4, h5⟩
theorem Om.rr (h : Om g bb a0 b0 a b) {c k : Nat} {v : Int32} (hc : OB bb c k) : Om g bb a0 b0 a (sI b c k v) := by
  obtain ⟨⟨h1, h2⟩, h3, h4, h5⟩ := h
  have hc' := hc
  unfold OB at hc'
  refine ⟨⟨h1, h2⟩, h3, fun c' k' c1 c2 => ?_, by rw [gI_ne (by omega)]; exact h5⟩
  rw [gI_nk fun e => c2 (by rw [e.1, e.2]; exact hc)]
  exact h4 c' k' c1 c2
end OMS
/-- the head so far: class's m numbers, the reference's m' -/
def rgH (k v : Nat) : Prop := (k < 2 → 4 ≤ v ∧ v ≤ 40) ∧ (2 ≤ k → 1 ≤ v ∧ v ≤ 6)
def HV (g bb : Nat) (a0 b0 : SS) (V : Nat → Nat) (m m' : Nat) (a b : SS) : Prop := Om g bb a0 b0 a b ∧ gI a g 5 = 0 ∧ gI a g 6 = 0 ∧ gI b 75 (5 * bb + 4) = 0 ∧ (∀ k, k < m → gI a g (k + 1) = nI (V k)) ∧ (∀ k, k < m' → gI b 75 (5 * bb + k) = nI (V k)) ∧ ∀ k, k < m' → rgH k (V k)
section HEAD
variable {T : Nat → Nat} {n s g bb : Nat} {a0 b0 a b : SS} {V : Nat → Nat} {m m' : Nat}
theorem HV.sb (hg : 27 < g ∨ g + 7 < 26) : Sb (HV g bb a0 b0 V m m') := by
  rintro a b a' b' ⟨h1, h2, h3, h4, h5, h6, h7⟩ q1 q2 q3 q4
  exact ⟨Om.sb hg a b a' b' h1 q1 q2 q3 q4, by rw [q2 _ _ (by omega)]; exact h2, by rw [q2 _ _ (by omega)]; exact h3, by rw [q4 _ _ (by omega)]; exact h4, fun k hk => by rw [q2 _ _ (by omega)]; exact h5 k hk, fun k hk => by rw [q4 _ _ (by omega)]; exact h6 k hk, h7⟩
theorem hnum {γ δ : Type} {P : γ → δ → Prop} {kk : SS → Option γ} {kk' : SS → Option δ} {kf : SS → Option γ} {kf' : SS → Option δ} {lo hi : Nat} {u1 u2 : Int32} (hT : TT T n) (hg : 27 < g ∨ g + 7 < 26) (hb : bb < 2) (hm : m < 4) (hu : u1 + u2 = nI m) (hlo : ∀ v, lo ≤ v → v ≤ hi → rgH m v) (hhi : hi < 1000) (hlh : lo ≤ hi) (h : K2 T n s a b) (hv : HV g bb a0 b0 V m m a b) (ht : ∀ a' b' s' V', K2 T n s' a' b' → HV g bb a0 b0 V' (m + 1) (m + 1) a' b' → W2 (kk a') (kk' b') P) (hn : ∀ a' b', FlO (Om g bb a0 b0) a' b' → W2 (kf a') (kf' b') P) : W2 (bnd (fX2_takeNumber a (nI lo) (nI hi)) fun b6 σ8 => if b6 = true then vthen (sI σ8 g (m + 1) (gI σ8 26 6)) fun σ9 => kk σ9 else kf σ8) (bnd (fX8_isNumber b (nI lo) (nI hi)) fun b10 σ12 => if b10 = true then grd (inb ((((5 : Int32) * (gI σ12 73 11)) + u1) + u2) 10) <| vthen (sI σ12 75 (Int32.toNatClampNeg ((((5 : Int32) * (gI σ12 73 11)) + u1) + u2)) (gI σ12 73 7)) fun σ14 => bnd1 (fX8_next σ14) fun σ15 => kk' σ15 else kf' σ12) P := by
  have ho := hv.1
  refine num2 hT (Om.sb hg) h ho (fun v v1 v2 v3 v4 => ?_) (fun a' b' hF => ?_)
  · rw [nI_leI (by omega) (by omega)] at v2 v3
    have hr := hlo v v2 v3
    have e5 : (((5 : Int32) * (gI b 73 11)) + u1) + u2 = nI (5 * bb + m) := by
      rw [ho.2.2.2, Int32.add_assoc, hu, show (5 : Int32) = nI 5 from rfl, nI_mul, nI_add]
    rw [if_pos rfl, e5, nI_clamp (by omega), v4]
    refine w2_gr (inb_nI (by omega) (by decide)) (w2_vr ?_)
    obtain ⟨-, h2, h3, h4, h5, h6, h7⟩ := hv
    have u1' : upN V m v m = v := if_pos rfl
    have u2' : ∀ k, k ≠ m → upN V m v k = V k := fun k hk => if_neg hk
    have hK : K2 T n s (sI a 26 6 (nI v)) (sI b 75 (5 * bb + m) (nI v)) := (h.cl (Or.inl ⟨rfl, rfl⟩)).rr (by omega)
    have hV : HV g bb a0 b0 (upN V m v) m (m + 1) (sI a 26 6 (nI v)) (sI b 75 (5 * bb + m) (nI v)) := by
      refine ⟨(ho.cl (Or.inl rfl)).rr (by unfold OB; omega), by rw [gI_ne (by omega)]; exact h2, by rw [gI_ne (by omega)]; exact h3, by rw [gI_nk (by omega)]; exact h4, fun k hk => ?_, fun k hk => ?_, fun k hk => ?_⟩
      · rw [gI_ne (by omega), u2' k (by omega)]; exact h5 k hk
      · by_cases e : k = m
        · rw [e, gI_eq, u1']
        · rw [gI_nk (by omega), u2' k e]; exact h6 k (by omega)
      · by_cases e : k = m
        · rw [e, u1']; exact hr
        · rw [u2' k e]; exact h7 k (by omega)
    refine w2_bnd1 (adv2 hT (HV.sb hg) hK hV) fun a' b' hq => ?_
    obtain ⟨q1, ⟨z1, z2, z3, z4, z5, z6, z7⟩, q3⟩ := hq
    rw [if_pos rfl, q3, gI_eq]
    refine w2_vl (ht _ _ _ (upN V m v) (q1.cl (Or.inr (by omega))) ⟨z1.cl (Or.inr (by omega)), by rw [gI_nk (by omega)]; exact z2, by rw [gI_nk (by omega)]; exact z3, z4, fun k hk => ?_, z6, z7⟩)
    by_cases e : k = m
    · rw [e, gI_eq, u1']
    · rw [gI_nk (by omega)]; exact z5 k (by omega)
  · rw [if_neg (by decide), if_neg (by decide)]
    exact hn a' b' hF
end HEAD
