/-! The law's own arrays of ints: cells 2000 and on, as many as the store says (gR σ 0 0), each of its own length (gR σ c 0). -/
def mkL (σ : SS) (n : Nat) : SS := (fun c' => if c' = 2000 + gR σ 0 0 then (fun _ => 0) else σ.1 c', σ.2.1, fun c' => if c' = 0 then (fun j => if j = 0 then gR σ 0 0 + 1 else gR σ 0 j) else if c' = 2000 + gR σ 0 0 then (fun _ => n) else σ.2.2 c')
theorem gI_mkL (σ : SS) (n c k : Nat) : gI (mkL σ n) c k = if c = 2000 + gR σ 0 0 then 0 else gI σ c k := by
  unfold gI mkL; dsimp only; split <;> rfl
theorem gL_mkL (σ : SS) (n c k : Nat) : gL (mkL σ n) c k = gL σ c k := rfl
theorem gR_mkL (σ : SS) (n c k : Nat) : gR (mkL σ n) c k = if c = 0 then (if k = 0 then gR σ 0 0 + 1 else gR σ 0 k) else if c = 2000 + gR σ 0 0 then n else gR σ c k := by
  unfold mkL
  show (if c = 0 then (fun j => if j = 0 then gR σ 0 0 + 1 else gR σ 0 j) else if c = 2000 + gR σ 0 0 then (fun _ => n) else σ.2.2 c) k = _
  split
  · rfl
  · split <;> rfl
theorem fx_low : ∀ q ∈ fxTab, 1 ≤ q.1 ∧ q.1 < 2000 := by decide
theorem WT_mkL {σ : SS} (h : WT σ) (n : Nat) : WT (mkL σ n) := by
  have e : ∀ c k, 1 ≤ c → c < 2000 → gR (mkL σ n) c k = gR σ c k := fun c k h1 h2 => by rw [gR_mkL, if_neg (by omega), if_neg (by omega)]
  unfold WT at *
  rw [e 1 2 (by omega) (by omega), e 1 3 (by omega) (by omega), e 1 5 (by omega) (by omega), e 1 6 (by omega) (by omega)]
  exact ⟨fun q hq => by rw [e _ _ (fx_low q hq).1 (fx_low q hq).2]; exact h.1 q hq, h.2⟩
def lav (σ : SS) (c : Nat) : Bool := decide (2000 ≤ c ∧ c < 2000 + gR σ 0 0)
def lin (σ : SS) (c : Nat) (i : Int32) : Bool := lav σ c && inb i (gR σ c 0)
theorem lin_1 {σ : SS} {c : Nat} {i : Int32} (h : lin σ c i = true) : lav σ c = true := (Bool.and_eq_true_iff.mp h).1
theorem lin_2 {σ : SS} {c : Nat} {i : Int32} (h : lin σ c i = true) : inb i (gR σ c 0) = true := (Bool.and_eq_true_iff.mp h).2
theorem lav_ex {σ : SS} {c : Nat} (h : lav σ c = true) : ∃ i, i < gR σ 0 0 ∧ c = 2000 + i := by
  have h := of_decide_eq_true h
  exact ⟨c - 2000, by omega, by omega⟩
theorem Wc.law {g : GG} {σ : SS} {H : Heap} (w : Wc g 73 σ H) {c : Nat} (h : lav σ c = true) : va_at g.2.2.1 vwCl (ad g c, lawE g σ c) H := by
  obtain ⟨i, hi, rfl⟩ := lav_ex h
  exact w.2.2.1.2 i (by unfold ext; rw [if_pos rfl]; exact hi)
theorem Wc.lawP {g : GG} {σ : SS} {H : Heap} (w : Wc g 73 σ H) {c : Nat} (h : lav σ c = true) : va_P g.2.2.1 vwCl [(ad g c, lawE g σ c)] H := by
  intro k q hk
  cases k with
  | zero => cases hk; exact w.law h
  | succ k => cases hk
/-- one of the law's cells is written -/
theorem Wc.setLaw {g : GG} {σ : SS} {H H1 : Heap} {c k : Nat} {v : Int32} (h : Wc g 73 σ H) (hc : lav σ c = true) (hat : va_at g.2.2.1 vwCl (ad g c, lawE g (sI σ c k v) c) H1) (hz : H1.size = H.size) (oq : ∀ q : Nat, q ≠ ad g c → H1[q]? = H[q]?) : Wc g 73 (sI σ c k v) H1 := by
  obtain ⟨i0, hi0, rfl⟩ := lav_ex hc
  obtain ⟨a1, a2, ⟨a3, a5⟩, a4⟩ := h
  refine ⟨by rw [hz]; exact a1, a2, ⟨fun c' g1 g2 => ?_, fun i hi => ?_⟩, fun hn => (a4 hn).sI _ _ _⟩
  · rw [show cnt 73 = 72 from rfl] at g2
    obtain ⟨x1, x2, x3⟩ := oth_sI (σ := σ) (c := 2000 + i0) (k := k) (v := v) c' (by omega)
    rw [cellE_congr x1 x2 x3]
    refine (a3 c' g1 g2).kept (oq _ ?_)
    rw [ad_law, ad_lt g (by omega)]; omega
  · by_cases he : i = i0
    · subst he; exact hat
    · obtain ⟨x1, x2, x3⟩ := oth_sI (σ := σ) (c := 2000 + i0) (k := k) (v := v) (2000 + i) (by omega)
      rw [lawE_congr x1 x3]
      refine (a5 i hi).kept (oq _ ?_)
      rw [ad_law, ad_law]; omega
/-- one of the law's cells is made -/
theorem Wc.pushLaw {g : GG} {σ : SS} {H H1 : Heap} {n : Nat} (h : Wc g 73 σ H) (hz : H1.size = H.size + 1) (oq : ∀ q, q < H.size → H1[q]? = H[q]?) (hat : va_at g.2.2.1 vwCl (ad g (2000 + gR σ 0 0), .inl (g.2.2.2.1 20, n, .inl (fun _ => 0))) H1) : Wc g 73 (mkL σ n) H1 := by
  obtain ⟨a1, a2, ⟨a3, a5⟩, a4⟩ := h
  have e0 : ext 73 σ = gR σ 0 0 := if_pos rfl
  have e1 : ext 73 (mkL σ n) = gR σ 0 0 + 1 := by unfold ext; rw [if_pos rfl, gR_mkL, if_pos rfl, if_pos rfl]
  have hsz : H.size = g.2.1 + 73 + gR σ 0 0 := by rw [a1, e0, show cnt 73 = 72 from rfl]
  refine ⟨by rw [hz, hsz, e1, show cnt 73 = 72 from rfl]; omega, a2, ⟨fun c' g1 g2 => ?_, fun i hi => ?_⟩, fun hn => WT_mkL (a4 hn) n⟩
  · have g3 := g2
    rw [show cnt 73 = 72 from rfl] at g3
    have x1 : gI (mkL σ n) c' = gI σ c' := by funext j; rw [gI_mkL, if_neg (by omega)]
    have x3 : gR (mkL σ n) c' = gR σ c' := by funext j; rw [gR_mkL, if_neg (by omega), if_neg (by omega)]
    rw [cellE_congr x1 rfl x3]
    refine (a3 c' g1 g2).kept (oq _ ?_)
    show ad g c' < H.size
    rw [hsz, ad_lt g (by omega)]; omega
  · rw [e1] at hi
    by_cases he : i = gR σ 0 0
    · subst he
      have y : lawE g (mkL σ n) (2000 + gR σ 0 0) = .inl (g.2.2.2.1 20, n, .inl (fun _ => 0)) := by
        unfold lawE
        rw [gR_mkL, if_neg (by omega), if_pos rfl]
        congr 4
        funext j
        rw [gI_mkL, if_pos rfl]
      rw [y]; exact hat
    · have x1 : gI (mkL σ n) (2000 + i) = gI σ (2000 + i) := by funext j; rw [gI_mkL, if_neg (by omega)]
      have x3 : gR (mkL σ n) (2000 + i) = gR σ (2000 + i) := by funext j; rw [gR_mkL, if_neg (by omega), if_neg (by omega)]
      rw [lawE_congr x1 x3]
      refine (a5 i (by rw [e0]; omega)).kept (oq _ ?_)
      show ad g (2000 + i) < H.size
      rw [hsz, ad_law]; omega
theorem ad_AL (g : GG) {σ : SS} {c : Nat} (h : lav σ c = true) : AA g (ad g c) := by
  obtain ⟨i, hi, rfl⟩ := lav_ex h
  show g.2.1 < ad g (2000 + i)
  rw [ad_law]; omega
section ROWS8
variable {g : GG} {M : MM} {F : State → Array Value → List Frame → State → Prop} {zc zs pc index : Nat} {ls : List (Nat × Value)} {rest st : List Value} {σ : SS} {c0 : Nat}
theorem r_wid {n c2 s2 : Nat} (h : zc ≤ c2 ∧ zs ≤ s2) (k : RR g M F (n, c2, s2) pc ls st σ) : RR g M F (n, zc, zs) pc ls st σ := fun _ _ _ _ _ _ _ _ _ _ _ C w o v a l => W.widen h.1 h.2 (k _ _ _ _ _ _ _ _ _ _ _ C w o v a l)
theorem y_iald {i : Int32} {k : Nat} (hi : lin σ c0 i = true) (hk : i.toNatClampNeg = k) (hd : decode M.2.1 pc = .ok (.iaload, 1)) (kk : RR g M F (NF, zc, zs) (pc + 1) ls (.int (gI σ c0 k) :: rest) σ) : RR g M F (NF, zc, zs) pc ls (.int i :: .ref (ad g c0) :: rest) σ := by
  subst hk
  exact fun _ _ _ _ _ _ _ _ _ _ _ C w o v a l => va_iald C.1 C.2.1 o.1 (w.lawP (lin_1 hi)) 0 0 rfl rfl (inb_vp (lin_2 hi)) hd (kk _ _ _ _ _ _ _ _ _ _ _ C w o v a l)
theorem y_alen (hc : lav σ c0 = true) (hd : decode M.2.1 pc = .ok (.arraylength, 1)) (kk : RR g M F (NF, zc, zs) (pc + 1) ls (.int (nI (gR σ c0 0)) :: rest) σ) : RR g M F (NF, zc, zs) pc ls (.ref (ad g c0) :: rest) σ :=
  fun _ _ _ _ _ _ _ _ _ _ _ C w o v a l => va_alen C.1 C.2.1 o.1 (w.lawP hc) 0 0 rfl rfl rfl hd (kk _ _ _ _ _ _ _ _ _ _ _ C w o v a l)
theorem y_iast {i x : Int32} {j : Nat} (hi : lin σ c0 i = true) (hk : i.toNatClampNeg = j) (hd : decode M.2.1 pc = .ok (.iastore, 1)) (k : ∀ σ1, σ1 = sI σ c0 j x → RR g M F (NF, zc, zs) (pc + 1) ls rest σ1) : RR g M F (NF, zc, zs) pc ls (.int x :: .int i :: .ref (ad g c0) :: rest) σ := by
  subst hk
  have k := k _ rfl
  intro p e s m args below meth c H locs lsA C w o v a l
  have hin := inb_vp (lin_2 hi)
  have hc := lin_1 hi
  have hcell := w.law hc
  refine W.iast C.1 C.2.1 hcell ((o.1.2 0 _ rfl).1 (gR σ c0 0) (fun j => .int (gI σ c0 j))) (fun q => by cases q) (by show ¬ (i < 0 ∨ (arrV _ _ _).slots.size ≤ _); rw [arrV_size]; exact hin) rfl rfl hd fun H1 e z1 oq => ?_
  refine k _ _ _ _ _ _ _ _ _ _ _ C (w.setLaw hc (ar_set (n := gR σ c0 0) e ?_) z1 oq) o (v.put z1 oq (ad_AL g hc)) a l
  rw [vp_cell_i, vp_cell_i, arrV_store]
  congr 1
  funext q
  by_cases hq : q = i.toNatClampNeg
  · subst hq; simp [updV, gI_sI]
  · simp [updV, gI_sI, hq]
theorem y_new {v0 : Int32} {N : Nat} (h1 : Cond.arrayClass .int ∈ lw_gt) (hv : ¬ v0 < 0) (hvN : v0.toNatClampNeg = N) (hb : N ≤ 2000) (hR : zc + 1 ≤ M.2.2.2.2.cells ∧ zs + N ≤ M.2.2.2.2.slots) (hd : decode M.2.1 pc = .ok (.newarray .int, 2))
    (kk : ∀ c, c = 2000 + gR σ 0 0 → ∀ σ1, σ1 = mkL σ N → RR g M F (NF, zc + 1, zs + N) (pc + 2) ls (.ref (ad g c) :: rest) σ1) : RR g M F (NF, zc, zs) pc ls (.int v0 :: rest) σ := by
  have kk := kk _ rfl _ rfl
  intro p e s m args below meth c H locs lsA C w o v a l
  have hsz : H.size = ad g (2000 + gR σ 0 0) := by
    rw [ad_law, w.1, show cnt (NF, zc, zs).1 = 72 from rfl, show ext (NF, zc, zs).1 σ = gR σ 0 0 from rfl]
  refine va_newaK (atype := .int) C.1 C.2.1 (C.2.2.2.2.1 _ h1) rfl hd rfl hv hvN (by show N * 4 ≤ 536870912; omega) hR.1 hR.2 hsz fun H1 cA e1 z1 o1 hAr hNm => ?_
  have z2 : H1.size = H.size + 1 := by rw [z1, hsz]
  have o2 : ∀ q, q < H.size → H1[q]? = H[q]? := fun q hq => o1 q (by rw [← hsz]; exact hq)
  refine kk _ _ _ _ _ _ _ _ _ _ _ C (w.pushLaw z2 o2 ?_) o (S_push v z2 o2) a l
  have hcA : cA = g.2.2.2.1 20 := Option.some.inj (hNm.symm.trans (o.1.2 0 _ rfl).2)
  show H1[ad g (2000 + gR σ 0 0)]? = some (vp_cell _ _)
  rw [e1, vp_cell_i, hcA]
  rfl
end ROWS8
theorem lav_inv {σ : SS} {c : Nat} (h : lav σ c = true) : lav σ c = true := h
theorem wtM {σ σ1 : SS} {n : Nat} (e : σ1 = mkL σ n) (h : WT σ) : WT σ1 := e ▸ WT_mkL h n
theorem z_lt {v : Int32} {n : Nat} (h : inb v n = true) : v.toNatClampNeg < n := Nat.not_le.mp fun q => inb_vp h (Or.inr q)
theorem z_nn {v : Int32} {n : Nat} (h : inb v n = true) : ¬ v < 0 := fun q => inb_vp h (Or.inl q)
theorem z_add {v : Int32} {n k : Nat} {w : Int32} (h : inb v n = true) (hw : w = nI k) (hn : n + k < 2 ^ 31) : (v + w).toNatClampNeg = v.toNatClampNeg + k := by
  have h1 := z_lt h
  have h2 : (0 : Int) ≤ v.toInt := by have := Int32.not_lt.mp (z_nn h); simpa using Int32.le_iff_toInt_le.mp this
  have e : v.toNatClampNeg = v.toInt.toNat := rfl
  subst hw
  show (v + nI k).toInt.toNat = _
  rw [Int32.toInt_add]
  have e2 : (nI k).toInt = k := by
    show (Int32.ofNat k).toInt = k
    exact Int32.toInt_ofNat_of_lt (by omega)
  rw [e2, e]
  rw [Int.bmod_eq_of_le (by omega) (by omega)]
  omega
