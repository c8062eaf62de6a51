/-! Rows of the constructors: cells are made one behind another, each as the store has it. -/
def Zr (σ : SS) (n : Nat) : Prop := ∀ c, n < c → (∀ k, gI σ c k = 0) ∧ (∀ k, gL σ c k = 0) ∧ ∀ k, gR σ c k = 0
theorem Zr.mono {σ : SS} {n m : Nat} (h : Zr σ n) (hm : n ≤ m) : Zr σ m := fun c hc => h c (by omega)
theorem Zr.sR {σ : SS} {n c k v : Nat} (h : Zr σ n) (hc : c ≤ n) : Zr (sR σ c k v) n := fun c' h1 => ⟨(h c' h1).1, (h c' h1).2.1, fun j => by rw [gR_sR, if_neg (by omega)]; exact (h c' h1).2.2 j⟩
theorem Zr.sI {σ : SS} {n c k : Nat} {v : Int32} (h : Zr σ n) (hc : c ≤ n) : Zr (sI σ c k v) n := fun c' h1 => ⟨fun j => by rw [gI_sI, if_neg (by omega)]; exact (h c' h1).1 j, (h c' h1).2.1, (h c' h1).2.2⟩
theorem Zr.fl {σ : SS} {n c k : Nat} {v : Int32} (h : Zr σ n) (hc : c ≤ n) : Zr (flI σ c k v) n := fun c' h1 => ⟨fun j => by unfold flI; rw [gI_sA, if_neg (by omega)]; exact (h c' h1).1 j, (h c' h1).2.1, (h c' h1).2.2⟩
def okT (t : FieldType) : Bool := match t with
  | .int => true
  | .boolean => true
  | .long => true
  | .object _ => true
  | .array _ => true
  | _ => false
theorem fval_zero {g : GG} {σ : SS} {c ci k : Nat} (h1 : gI σ c k = 0) (h2 : gL σ c k = 0) (h3 : gR σ c k = 0) (ht : okT (tyC ci k) = true) : defaultValue (tyC ci k) = fval g σ c ci k := by
  unfold fval
  rw [h1, h2, h3]
  cases h : tyC ci k <;> first | rfl | (rw [h] at ht; cases ht)
theorem vp_V_flds {g : GG} {σ : SS} {c ci k : Nat} (h : k < nfC ci) : vp_V (fldsC g σ c ci) k = fval g σ c ci k := by
  unfold vp_V; rw [List.getD_eq_getElem?_getD, fldsC_at h]; rfl
theorem ad_top {g : GG} {n : Nat} {σ : SS} {H : Heap} (w : Wc g n σ H) (hn : n < 72) : H.size = ad g (n + 1) := by
  rw [ad_lt g (by omega), w.1]; unfold cnt ext; rw [if_neg (by omega), if_neg (by omega)]; omega
/-- one cell more -/
theorem Wc.push {g : GG} {n : Nat} {σ : SS} {H H1 : Heap} (h : Wc g n σ H) (hn : n < 72) (hz : H1.size = H.size + 1) (oq : ∀ q, q < H.size → H1[q]? = H[q]?) (hat : va_at g.2.2.1 vwCl (ad g (n + 1), cellE g σ (n + 1)) H1) : Wc g (n + 1) σ H1 := by
  have hsz := ad_top h hn
  obtain ⟨a1, a2, ⟨a3, a5⟩, a4⟩ := h
  have c1 : cnt n = n := if_neg (by omega)
  have c2 : cnt (n + 1) = n + 1 := if_neg (by omega)
  have d1 : ext n σ = 0 := if_neg (by omega)
  have d2 : ext (n + 1) σ = 0 := if_neg (by omega)
  refine ⟨by rw [hz, a1, c1, c2, d1, d2]; omega, by omega, ⟨fun c g1 g2 => ?_, fun i hi => absurd hi (by rw [d2]; omega)⟩, fun e => absurd e (by show ¬ n + 1 = 73; omega)⟩
  rw [c2] at g2
  by_cases hc : c = n + 1
  · subst hc; exact hat
  · refine (a3 c g1 (by rw [c1]; omega)).kept (oq _ ?_)
    show ad g c < H.size
    rw [hsz, ad_lt g (by omega), ad_lt g (by omega)]; omega
/-- all is made and laid -/
theorem Wc.seal {g : GG} {σ : SS} {H : Heap} (h : Wc g 72 σ H) (hw : WT σ) (h0 : gR σ 0 0 = 0) : Wc g 73 σ H := by
  have d2 : ext 73 σ = 0 := by unfold ext; rw [if_pos rfl]; exact h0
  have d1 : ext 72 σ = 0 := if_neg (by decide)
  exact ⟨by rw [d2, h.1, d1]; rfl, by decide, ⟨h.2.2.1.1, fun i hi => absurd hi (by rw [d2]; omega)⟩, fun _ => hw⟩
theorem S_push {A : Nat → Prop} {H0 H H1 : Heap} {locs : List Loc} (v : va_S A H0 H locs) (hz : H1.size = H.size + 1) (oq : ∀ q, q < H.size → H1[q]? = H[q]?) : va_S A H0 H1 locs :=
  ⟨Nat.le_trans v.1 (by omega), fun x h1 h2 => (oq x (Nat.lt_of_lt_of_le h1 v.1)).trans (v.2.1 x h1 h2), v.2.2⟩
section ROWSE
variable {g : GG} {M : MM} {F : State → Array Value → List Frame → State → Prop} {n k sl pc index : Nat} {ls : List (Nat × Value)} {rest : List Value} {σ : SS}
theorem r_new {ci N : Nat} {C : String} {T : u_T} (hn : n < 72) (hs : shp (n + 1) = (ci, 0)) (h9 : ci < 9) (hc : vwCl[ci]? = some (C, T, N)) (hin : ∀ w ∈ u_ws C T N, w ∈ lw_gt) (hty : ∀ j, j < N → parseFieldDescriptor (T j).2.2.1 = some (tyC ci j)) (hok : ∀ j, j < N → okT (tyC ci j) = true) (hN : nfC ci = N) (hZ : Zr σ n)
    (h1 : Cond.classLink M.1.cls index C ∈ lw_gt) (h2 : Cond.instantiable C N ∈ lw_gt) (h3 : Cond.initialized C ∈ lw_gt) (hR : k + 1 ≤ M.2.2.2.2.cells ∧ sl + N ≤ M.2.2.2.2.slots) (hd : decode M.2.1 pc = .ok (.new index, 3))
    (kk : RR g M F (n + 1, k + 1, sl + N) (pc + 3) ls (.ref (ad g (n + 1)) :: rest) σ) : RR g M F (n, k, sl) pc ls rest σ := by
  intro p e s m args below meth c H locs lsA C w o v a l
  have hts := C.2.2.2.2.1
  have hKn := o.1.1 ci _ hc
  refine W.newcK C.1 C.2.1 C.2.2.2.1 (hts _ h1) (hts _ h2) (hts _ h3) rfl hd hR.1 hR.2 hKn.2.1 (ad_top w hn) fun H1 kC hkC e1 z1 o1 => ?_
  have hsz := ad_top w hn
  have z2 : H1.size = H.size + 1 := by rw [z1, hsz]
  have o2 : ∀ q, q < H.size → H1[q]? = H[q]? := fun q hq => o1 q (by rw [← hsz]; exact hq)
  refine kk _ _ _ _ _ _ _ _ _ _ _ C (w.push hn z2 o2 ?_) o (S_push v z2 o2) a l
  rw [cellE_o hs h9]
  refine ⟨_, hc, (u_born (tyC ci) hts (fun w hw => hin w hw) hKn hkC e1 hty).to fun j hj => ?_⟩
  obtain ⟨q1, q2, q3⟩ := hZ (n + 1) (by omega)
  show defaultValue (tyC ci j) = vp_V (fldsC g σ (n + 1) ci) j
  rw [vp_V_flds (by rw [hN]; exact hj)]
  exact fval_zero (q1 j) (q2 j) (q3 j) (hok j hj)
theorem r_newi {atype : ArrayType} {kd t0 N : Nat} {v0 : Int32} (hn : n < 72) (hs : shp (n + 1) = (kd, N)) (hk : kd = 20 ∨ kd = 21 ∨ kd = 22) (ht : (tysG g)[t0]? = some (g.2.2.2.1 kd, newarray.typeOf atype)) (hdf : defaultValue (newarray.typeOf atype) = .int 0) (hZ : Zr σ n) (h1 : Cond.arrayClass (newarray.typeOf atype) ∈ lw_gt)
    (hv : ¬ v0 < 0) (hvN : v0.toNatClampNeg = N) (hb : N * componentBytes (newarray.typeOf atype) ≤ 536870912) (hR : k + 1 ≤ M.2.2.2.2.cells ∧ sl + N ≤ M.2.2.2.2.slots) (hd : decode M.2.1 pc = .ok (.newarray atype, 2))
    (hce : cellE g σ (n + 1) = .inl (g.2.2.2.1 kd, N, .inl (gI σ (n + 1))))
    (hnm : ∀ (s : State) (cA : ClassId), va_RA s (g.2.2.2.1 kd) (newarray.typeOf atype) → s.vm.findClass ("[" ++ (newarray.typeOf atype).toString) = some cA → cA = g.2.2.2.1 kd)
    (kk : RR g M F (n + 1, k + 1, sl + N) (pc + 2) ls (.ref (ad g (n + 1)) :: rest) σ) : RR g M F (n, k, sl) pc ls (.int v0 :: rest) σ := by
  intro p e s m args below meth c H locs lsA C w o v a l
  have hsz := ad_top w hn
  refine va_newaK C.1 C.2.1 (C.2.2.2.2.1 _ h1) rfl hd rfl hv hvN hb hR.1 hR.2 hsz fun H1 cA e1 z1 o1 hAr hNm => ?_
  have z2 : H1.size = H.size + 1 := by rw [z1, hsz]
  have o2 : ∀ q, q < H.size → H1[q]? = H[q]? := fun q hq => o1 q (by rw [← hsz]; exact hq)
  refine kk _ _ _ _ _ _ _ _ _ _ _ C (w.push hn z2 o2 ?_) o (S_push v z2 o2) a l
  rw [hce]
  show H1[ad g (n + 1)]? = some (vp_cell _ _)
  rw [e1, vp_cell_i, hnm s cA (o.1.2 t0 _ ht).2 hNm, hdf]
  congr 1
  congr 1
  funext j
  rw [(hZ (n + 1) (by omega)).1 j]
theorem r_newl {N : Nat} {v0 : Int32} (hn : n < 72) (hs : shp (n + 1) = (23, N)) (hZ : Zr σ n) (h1 : Cond.arrayClass (newarray.typeOf .long) ∈ lw_gt)
    (hv : ¬ v0 < 0) (hvN : v0.toNatClampNeg = N) (hb : N * componentBytes (newarray.typeOf .long) ≤ 536870912) (hR : k + 1 ≤ M.2.2.2.2.cells ∧ sl + N ≤ M.2.2.2.2.slots) (hd : decode M.2.1 pc = .ok (.newarray .long, 2))
    (kk : RR g M F (n + 1, k + 1, sl + N) (pc + 2) ls (.ref (ad g (n + 1)) :: rest) σ) : RR g M F (n, k, sl) pc ls (.int v0 :: rest) σ := by
  intro p e s m args below meth c H locs lsA C w o v a l
  have hsz := ad_top w hn
  refine va_newaK C.1 C.2.1 (C.2.2.2.2.1 _ h1) rfl hd rfl hv hvN hb hR.1 hR.2 hsz fun H1 cA e1 z1 o1 hAr hNm => ?_
  have z2 : H1.size = H.size + 1 := by rw [z1, hsz]
  have o2 : ∀ q, q < H.size → H1[q]? = H[q]? := fun q hq => o1 q (by rw [← hsz]; exact hq)
  refine kk _ _ _ _ _ _ _ _ _ _ _ C (w.push hn z2 o2 ?_) o (S_push v z2 o2) a l
  rw [cellE_l hs]
  have hcA : cA = g.2.2.2.1 23 := Option.some.inj (hNm.symm.trans (o.1.2 3 _ rfl).2)
  show H1[ad g (n + 1)]? = some (vp_cell _ _)
  rw [e1, vp_cell_l, hcA]
  congr 1
  congr 1
  funext j
  rw [(hZ (n + 1) (by omega)).2.1 j]
  rfl
theorem r_newq {N : Nat} {v0 : Int32} (hn : n < 72) (hs : shp (n + 1) = (24, N)) (hZ : Zr σ n) (h1 : Cond.classLink M.1.cls index "SheetReader$Scan" ∈ lw_gt)
    (hv : ¬ v0 < 0) (hvN : v0.toNatClampNeg = N) (hb : v0.toNatClampNeg * 4 ≤ 536870912) (hR : k + 1 ≤ M.2.2.2.2.cells ∧ sl + v0.toNatClampNeg ≤ M.2.2.2.2.slots) (hd : decode M.2.1 pc = .ok (.anewarray index, 3))
    (kk : RR g M F (n + 1, k + 1, sl + v0.toNatClampNeg) (pc + 3) ls (.ref (ad g (n + 1)) :: rest) σ) : RR g M F (n, k, sl) pc ls (.int v0 :: rest) σ := by
  intro p e s m args below meth c H locs lsA C w o v a l
  have hsz := ad_top w hn
  refine W.anew C.1 C.2.1 C.2.2.2.1 (C.2.2.2.2.1 _ h1) (va_AO.use o.2.2.2.2.2.2.2.2.2.1) rfl hd rfl hv hb hR.1 hR.2 fun cA kA comp f1 f2 f3 f4 => ?_
  generalize hH1 : H.push ({ cls := cA, slots := Array.replicate v0.toNatClampNeg .null, vm := .none } : Cell) = H1
  have z2 : H1.size = H.size + 1 := by rw [← hH1, Array.size_push]
  have e1 : H1[H.size]? = some (arrV cA v0.toNatClampNeg (fun _ => .null)) := by rw [← hH1, Array.getElem?_push_size, ← arrV_new]
  have o2 : ∀ q, q < H.size → H1[q]? = H[q]? := fun q hq => by rw [← hH1, Array.getElem?_push, if_neg (Nat.ne_of_lt hq)]
  rw [hsz]
  refine kk _ _ _ _ _ _ _ _ _ _ _ C (w.push hn z2 o2 ?_) o (S_push v z2 o2) a l
  rw [cellE_q hs]
  have hcA : cA = g.2.2.2.1 24 := by
    obtain ⟨kB, cB, b1, b2, b3, b4⟩ := (o.1.2 4 _ rfl).2
    exact Option.some.inj (f1.symm.trans b4)
  show H1[ad g (n + 1)]? = some (vp_cell _ _)
  rw [← hsz, e1, vp_cell_q, hcA, hvN]
  congr 1
  congr 1
  funext j
  show Value.null = va_rf (rq g (gR σ (n + 1) j))
  rw [(hZ (n + 1) (by omega)).2.2 j]
  rfl
theorem r_objI (h1 : Cond.methodLink M.1.cls index Lib.objectInit ∈ lw_gt) (h2 : Cond.instanceMethod Lib.objectInit ∈ lw_gt) (h3 : Cond.code Lib.objectInit ⟨#[0xb1]⟩ 1 none ∈ lw_gt) {z : Nat × Nat × Nat} {b : Nat} (hR : 1 ≤ M.2.2.2.2.frames ∧ 20 ≤ M.2.2.2.2.locals) (hrest : (rest.map fun v => v.category).sum ≤ 8) (hd : decode M.2.1 pc = .ok (.invokespecial index, 3))
    (kk : RR g M F z (pc + 3) ls rest σ) : RR g M F z pc ls (.ref b :: rest) σ := fun _ _ _ _ _ _ _ _ _ _ _ C w o v a l =>
  W.objInit C.1 C.2.1 C.2.2.2.1 (C.2.2.2.2.1 _ h1) (C.2.2.2.2.1 _ h2) (C.2.2.2.2.1 _ h3) rfl (by rw [C.2.2.1]; exact l.1) rfl hd hR.1 (by show 2 * 0 + _ + 12 ≤ _; have := hR.2; omega) (W.eq (g2 := F0 _ (pc + 3) _ rest) rfl (kk _ _ _ _ _ _ _ _ _ _ _ C w o v a l))
/-- a final field is written, in the constructor of its own class -/
theorem r_putF {z : Nat × Nat × Nat} {ci N kf m0 index c0 : Nat} {C : String} {T : u_T} {ty0 : Nat → FieldType} {ty : FieldType} {v : Value} {σ1 : SS} (hc : vwCl[ci]? = some (C, T, N)) (hin : ∀ w ∈ u_ws C T N, w ∈ lw_gt) (hty : ∀ k, k < N → parseFieldDescriptor (T k).2.2.1 = some (ty0 k)) (hnm : ∀ a, a < N → ∀ b, b < N → a ≠ b → (T a).2.1 ≠ (T b).2.1) (hk : kf < N) (hsc : (T kf).1 = C) (hl : Cond.fieldLink M.1.cls index C (T kf).2.1 (T kf).2.2.1 ∈ lw_gt)
    (hfin : (T kf).2.2.2 = true) (hini : M.1.name = "<init>") (hdecl : C = M.1.cls) (hd0 : parseFieldDescriptor (T kf).2.2.1 = some ty) (hnr : narrow ty v = v) (hfit : fits ty v = true) (hs : shp c0 = (ci, m0)) (h9 : ci < 9) (hz : 1 ≤ c0 ∧ c0 ≤ cnt z.1) (hN : nfC ci = N)
    (hset : (fldsC g σ c0 ci).set kf v = fldsC g σ1 c0 ci) (ho : ∀ c', c' ≠ c0 → gI σ1 c' = gI σ c' ∧ gL σ1 c' = gL σ c' ∧ gR σ1 c' = gR σ c') (hw : z.1 = NF → WT σ → WT σ1)
    (hd : decode M.2.1 pc = .ok (.putfield index, 3)) (k : RR g M F z (pc + 3) ls rest σ1) : RR g M F z pc ls (v :: .ref (ad g c0) :: rest) σ := by
  intro p e s m args below meth c H locs lsA C w o va a l
  have hts := C.2.2.2.2.1
  have hlt : c0 < 1000 := Nat.lt_of_le_of_lt (Nat.le_trans hz.2 (cnt_le _)) w.2.1
  have hap := va_apart (own := M.1.cls) hts hin ty0 hty hnm o.1 hc
  obtain ⟨r, q0, cell, q1, q2, q3, q4⟩ := w.at hz (cellE_o hs h9)
  have hr : r = (_, T, N) := Option.some.inj (q0.symm.trans hc)
  subst hr
  obtain ⟨hS, hfc, kC, hkC, hkind⟩ := o.1.1 ci _ hc
  obtain ⟨cf, kf', fi, f, hi, hsl⟩ := hS kf hk
  have hlay := hts _ (hin _ (u_in_lay hk))
  unfold u_lay at hlay
  rw [if_pos hfin] at hlay
  have hst := (u_facts hfc hkC (u_lays hts hin hk) hi).1
  have hcf : m.cls = cf := by
    obtain ⟨_, _, c', _, _, _, -, -, hf', -, -, -, hown2, -⟩ := Cond.laysFinal_spec hlay
    have e1 : c' = cf := by have := hi.symm.trans hf'; simp at this; exact this.1.symm
    rw [hsc, hdecl] at hown2
    rw [← e1]; exact Option.some.inj (C.2.2.2.1.symm.trans hown2)
  have h6 := u_fits hfc hkC hkind (Or.inr hlay) hi hd0 hnr hfit
  have hi2 := hi
  rw [hsc] at hi2
  refine W.putFinK C.1 C.2.1 C.2.2.2.1 (hts _ hl) hi2 hst hcf (C.2.2.2.2.2.2.2.trans hini) (by rw [q2]; exact h6) q1 q3 (by rw [hsl]; exact k2_hasslot (q4 kf hk)) rfl rfl hd fun H' e1 e2 e3 => ?_
  rw [hsl] at e1 ⊢
  have hlen : kf < (fldsC g σ c0 ci).length := by unfold fldsC; rw [List.length_map, List.length_range, hN]; exact hk
  refine k _ _ _ _ _ _ _ _ _ _ _ C (w.set hz (cellE_o hs h9) ⟨_, hc, t_OB.to (V := updV (vp_V (fldsC g σ c0 ci)) kf v) ⟨_, e1, q2, q3, t_set q4 hap hk v⟩ (fun j _ => by rw [vp_updV_set hlen v j, hset])⟩ e2 e3 ho (fun hn => hw hn (w.2.2.2 hn))) o (va.put e2 e3 (ad_AA g hz.1 hlt)) a l
/-- a scan is laid into the array of drawers -/
theorem r_aast {z : Nat × Nat × Nat} {c0 c1 n0 : Nat} {i : Int32} (hs : shp c0 = (24, n0)) (hz : 1 ≤ c0 ∧ c0 ≤ cnt z.1) (hs1 : shp c1 = (6, 0)) (hz1 : 1 ≤ c1 ∧ c1 ≤ cnt z.1) (hi : inb i n0 = true) (hw : z.1 ≠ NF) (hd : decode M.2.1 pc = .ok (.aastore, 1))
    (k : RR g M F z (pc + 1) ls rest (sR σ c0 i.toNatClampNeg c1)) : RR g M F z pc ls (.ref (ad g c1) :: .int i :: .ref (ad g c0) :: rest) σ := by
  intro p e s m args below meth c H locs lsA C w o v a l
  have hin := inb_vp hi
  have hlt : c0 < 1000 := Nat.lt_of_le_of_lt (Nat.le_trans hz.2 (cnt_le _)) w.2.1
  have hlt2 : i.toNatClampNeg < n0 := Nat.not_le.mp fun q => hin (Or.inr q)
  have h0 : ¬ i < 0 := fun q => hin (Or.inl q)
  have hcell := w.at hz (cellE_q (σ := σ) (g := g) hs)
  obtain ⟨r', hr', cellV, g1, g2, g3, -⟩ := w.at hz1 (cellE_o (σ := σ) (g := g) hs1 (by decide))
  have hr : r' = (RX6, TX6, 4) := Option.some.inj (hr'.symm.trans rfl)
  subst hr
  obtain ⟨kA, comp, k1, k2, hcomp, -⟩ := (o.1.2 4 _ rfl).2
  have hcls := o.1.1 6 _ rfl
  have e2 : comp = g.2.2.1.1 6 := Option.some.inj (hcomp.symm.trans hcls.2.1)
  subst e2
  obtain ⟨kC, hkC, -⟩ := hcls.2.2
  refine W.aast C.1 C.2.1 hcell (fun q h => by cases h) (fun h => by cases h) k1 k2 rfl hkC ⟨h0, by show _ < (arrV _ _ _).slots.size; rw [arrV_size]; exact hlt2⟩ g1 (fun q h => by rw [g3] at h; cases h) (by rw [g2]; exact hkC) (by rw [g2]; exact va_assign hcls.2) rfl rfl hd fun H1 e zz oq => ?_
  refine k _ _ _ _ _ _ _ _ _ _ _ C (w.set hz (cellE_q hs) (ar_set e ?_) zz oq oth_sR (fun hn => absurd hn hw)) o (v.put zz oq (ad_AA g hz.1 hlt)) a l
  rw [vp_cell_q, vp_cell_q, arrV_store]
  congr 2
  funext q
  have e3 : va_rf (rq g c1) = .ref (ad g c1) := by rw [rq_rf, rv_pos g hz1.1]
  by_cases hq : q = i.toNatClampNeg
  · subst hq; simp [updV, gR_sR, e3]
  · simp [updV, gR_sR, hq]
/-- a constructor of a class that is a nest mate -/
theorem r_callIN {z : Nat × Nat × Nat} {N : MM} {b n1 : Nat} {host : String} {σ1 : SS} (hM : Ct g N [.ref b] z.1 σ none n1 σ1) (hq : (M.1.cls, index, N.1, host) ∈ nestT) (hnm : N.1.name = "<init>") (hret : N.2.2.2.1 = none)
    (hcode : Cond.code N.1 N.2.1 N.2.2.1 N.2.2.2.1 ∈ lw_gt) (hini : Cond.initialized N.1.cls ∈ lw_gt) (hin : Cond.instanceMethod N.1 ∈ lw_gt)
    (hd0 : N.1.cls ≠ "java/lang/invoke/MethodHandle" ∧ N.1.cls ≠ "java/lang/invoke/VarHandle" ∧ (parseMethodDescriptor N.1.desc).map (fun d => d.parameters.length) = some 0) (hR : N.2.2.2.2.frames + 1 ≤ M.2.2.2.2.frames ∧ 8 + (N.2.2.1 + 11) + N.2.2.2.2.locals ≤ M.2.2.2.2.locals)
    (hrest : (rest.map fun v => v.category).sum ≤ 8) (hd : decode M.2.1 pc = .ok (.invokespecial index, 3)) (hf : z.2.1 + N.2.2.2.2.cells ≤ M.2.2.2.2.cells ∧ z.2.2 + N.2.2.2.2.slots ≤ M.2.2.2.2.slots)
    (k : RR g M F (n1, z.2.1 + N.2.2.2.2.cells, z.2.2 + N.2.2.2.2.slots) (pc + 3) ls rest σ1) : RR g M F z pc ls (.ref b :: rest) σ := by
  intro p e s m args below meth c H locs lsA C w o v a l
  rw [hret] at hcode
  refine r_after (N := N) (rest := rest) (a := ([Value.ref b] : List Value).toArray) (o1 := none) (va_runIN (As := []) (b := b) (nL := M.2.2.1) (rest := rest) (n := 0) (⟨C.1, C.2.1, C.2.2.1, C.2.2.2.1, C.2.2.2.2.1⟩ : CallFix p m c M.2.1 M.2.2.1 s args lw_gt M.1.cls) hM ⟨va_cnB (Ts := lw_gt) (bytes := N.2.1) (maxL := N.2.2.1) (ret := none) 0 C.2.2.2.2.1 (fun w h => by
    rcases List.mem_cons.mp h with e | h
    · rw [e, hret]; exact ⟨hcode, lw_gt_good hcode⟩
    · exact ⟨h, lw_gt_good h⟩) (by rw [hret]) rfl rfl (o.2.2.2.2.2.2.2.2.1 _ hq) (C.2.2.2.2.1 _ hini) hd0 hR, hnm, C.2.2.2.2.1 _ hin⟩ ⟨ct_blind, fun U hU hW => ⟨rfl, ct_pre w o v a U hU hW⟩⟩ rfl rfl l.1 rfl ?_ hd hf) C o v a l (fun _ => k)
  exact (Nat.zero_add _).symm ▸ hrest
/-- a constructor, called from without -/
theorem r_callI {z : Nat × Nat × Nat} {N : MM} {b n1 : Nat} {σ1 : SS} (hM : Ct g N [.ref b] z.1 σ none n1 σ1) (hl : Cond.methodLink M.1.cls index N.1 ∈ lw_gt) (hnm : N.1.name = "<init>") (hret : N.2.2.2.1 = none)
    (hcode : Cond.code N.1 N.2.1 N.2.2.1 N.2.2.2.1 ∈ lw_gt) (hini : Cond.initialized N.1.cls ∈ lw_gt) (hin : Cond.instanceMethod N.1 ∈ lw_gt)
    (hd0 : N.1.cls ≠ "java/lang/invoke/MethodHandle" ∧ N.1.cls ≠ "java/lang/invoke/VarHandle" ∧ (parseMethodDescriptor N.1.desc).map (fun d => d.parameters.length) = some 0) (hR : N.2.2.2.2.frames + 1 ≤ M.2.2.2.2.frames ∧ 8 + (N.2.2.1 + 11) + N.2.2.2.2.locals ≤ M.2.2.2.2.locals)
    (hrest : (rest.map fun v => v.category).sum ≤ 8) (hd : decode M.2.1 pc = .ok (.invokespecial index, 3)) (hf : z.2.1 + N.2.2.2.2.cells ≤ M.2.2.2.2.cells ∧ z.2.2 + N.2.2.2.2.slots ≤ M.2.2.2.2.slots)
    (k : RR g M F (n1, z.2.1 + N.2.2.2.2.cells, z.2.2 + N.2.2.2.2.slots) (pc + 3) ls rest σ1) : RR g M F z pc ls (.ref b :: rest) σ := by
  intro p e s m args below meth c H locs lsA C w o v a l
  rw [hret] at hcode
  refine r_after (N := N) (rest := rest) (a := ([Value.ref b] : List Value).toArray) (o1 := none) (va_runI (As := []) (b := b) (nL := M.2.2.1) (rest := rest) (n := 0) (⟨C.1, C.2.1, C.2.2.1, C.2.2.2.1, C.2.2.2.2.1⟩ : CallFix p m c M.2.1 M.2.2.1 s args lw_gt M.1.cls) hM ⟨callB_of (Ts := lw_gt) (bytes := N.2.1) (maxL := N.2.2.1) (ret := none) 0 C.2.2.2.2.1 (fun w h => by
    rcases List.mem_cons.mp h with e | h
    · rw [e, hret]; exact ⟨hcode, lw_gt_good hcode⟩
    · exact ⟨h, lw_gt_good h⟩) (by rw [hret]) rfl rfl (C.2.2.2.2.1 _ hini) (C.2.2.2.2.1 _ hl) hd0 hR, hnm, C.2.2.2.2.1 _ hin⟩ ⟨ct_blind, fun U hU hW => ⟨rfl, ct_pre w o v a U hU hW⟩⟩ rfl rfl l.1 rfl ?_ hd hf) C o v a l (fun _ => k)
  exact (Nat.zero_add _).symm ▸ hrest
end ROWSE
