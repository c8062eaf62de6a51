section ROWS2
variable {g : GG} {M : MM} {F : State → Array Value → List Frame → State → Prop} {z : Nat × Nat × Nat} {pc : Nat} {ls : List (Nat × Value)} {rest : List Value} {σ : SS}
/-! arrays: reads -/
theorem r_iald {c0 n : Nat} {i : Int32} (hs : shp c0 = (20, n)) (hz : 1 ≤ c0 ∧ c0 ≤ cnt z.1) (hi : inb i n = true) (hd : decode M.2.1 pc = .ok (.iaload, 1)) (k : RR g M F z (pc + 1) ls (.int (gI σ c0 i.toNatClampNeg) :: rest) σ) : RR g M F z pc ls (.int i :: .ref (ad g c0) :: rest) σ :=
  fun _ _ _ _ _ _ _ _ _ _ _ C w o v a l => va_iald C.1 C.2.1 o.1 (w.P hz (cellE_i hs)) 0 0 rfl rfl (inb_vp hi) hd (k _ _ _ _ _ _ _ _ _ _ _ C w o v a l)
theorem r_bald {c0 n : Nat} {i : Int32} (hs : shp c0 = (21, n)) (hz : 1 ≤ c0 ∧ c0 ≤ cnt z.1) (hi : inb i n = true) (hd : decode M.2.1 pc = .ok (.baload, 1)) (k : RR g M F z (pc + 1) ls (.int (gI σ c0 i.toNatClampNeg) :: rest) σ) : RR g M F z pc ls (.int i :: .ref (ad g c0) :: rest) σ :=
  fun _ _ _ _ _ _ _ _ _ _ _ C w o v a l => va_bald C.1 C.2.1 o.1 (w.P hz (cellE_b hs)) 0 1 rfl rfl (inb_vp hi) hd (k _ _ _ _ _ _ _ _ _ _ _ C w o v a l)
theorem r_zald {c0 n : Nat} {i : Int32} (hs : shp c0 = (22, n)) (hz : 1 ≤ c0 ∧ c0 ≤ cnt z.1) (hi : inb i n = true) (hd : decode M.2.1 pc = .ok (.baload, 1)) (k : RR g M F z (pc + 1) ls (.int (gI σ c0 i.toNatClampNeg) :: rest) σ) : RR g M F z pc ls (.int i :: .ref (ad g c0) :: rest) σ :=
  fun _ _ _ _ _ _ _ _ _ _ _ C w o v a l => va_zald C.1 C.2.1 o.1 (w.P hz (cellE_z hs)) 0 2 rfl rfl (inb_vp hi) hd (k _ _ _ _ _ _ _ _ _ _ _ C w o v a l)
theorem r_lald {c0 n : Nat} {i : Int32} (hs : shp c0 = (23, n)) (hz : 1 ≤ c0 ∧ c0 ≤ cnt z.1) (hi : inb i n = true) (hd : decode M.2.1 pc = .ok (.laload, 1)) (k : RR g M F z (pc + 1) ls (.long (gL σ c0 i.toNatClampNeg) :: rest) σ) : RR g M F z pc ls (.int i :: .ref (ad g c0) :: rest) σ :=
  fun _ _ _ _ _ _ _ _ _ _ _ C w o v a l => va_lald C.1 C.2.1 o.1 (w.P hz (cellE_l hs)) 0 3 rfl rfl (inb_vp hi) hd (k _ _ _ _ _ _ _ _ _ _ _ C w o v a l)
theorem rq_rf (g : GG) (r : Nat) : va_rf (rq g r) = rv g r := by
  unfold rq rv; split <;> rfl
theorem r_aald {c0 n : Nat} {i : Int32} (hs : shp c0 = (24, n)) (hz : 1 ≤ c0 ∧ c0 ≤ cnt z.1) (hi : inb i n = true) (hd : decode M.2.1 pc = .ok (.aaload, 1)) (k : RR g M F z (pc + 1) ls (rv g (gR σ c0 i.toNatClampNeg) :: rest) σ) : RR g M F z pc ls (.int i :: .ref (ad g c0) :: rest) σ :=
  fun _ _ _ _ _ _ _ _ _ _ _ C w o v a l => va_aldq C.1 C.2.1 o.1 (w.P hz (cellE_q hs)) 0 4 rfl rfl (inb_vp hi) hd (by rw [rq_rf]; exact k _ _ _ _ _ _ _ _ _ _ _ C w o v a l)
/-! arrays: writes -/
theorem ar_set {D : va_G} {cl : List vw_C} {a : Nat} {cA : ClassId} {n : Nat} {x : (Nat → Int32) ⊕ (Nat → Int64) ⊕ (Nat → UInt32) ⊕ (Nat → UInt64) ⊕ (Nat → Option Nat)} {H1 : Heap} {cell : Cell} (e : H1[a]? = some cell) (h : cell = vp_cell cA (n, x)) : va_at D cl (a, .inl (cA, n, x)) H1 := by
  show H1[a]? = some (vp_cell _ _)
  rw [e, h]
theorem r_iast {c0 n : Nat} {i x : Int32} (hs : shp c0 = (20, n)) (hz : 1 ≤ c0 ∧ c0 ≤ cnt z.1) (hi : inb i n = true) (hd : decode M.2.1 pc = .ok (.iastore, 1)) (k : RR g M F z (pc + 1) ls rest (sI σ c0 i.toNatClampNeg x)) : RR g M F z pc ls (.int x :: .int i :: .ref (ad g c0) :: rest) σ := by
  intro p e s m args below meth c H locs lsA C w o v a l
  have hin := inb_vp hi
  have hlt : c0 < 1000 := Nat.lt_of_le_of_lt (Nat.le_trans hz.2 (cnt_le _)) w.2.1
  have hcell := w.at hz (cellE_i (σ := σ) (g := g) hs)
  refine W.iast C.1 C.2.1 hcell ((o.1.2 0 _ rfl).1 n (fun j => .int (gI σ c0 j))) (fun q => by cases q) (by show ¬ (i < 0 ∨ (arrV _ _ _).slots.size ≤ _); rw [arrV_size]; exact hin) rfl rfl hd fun H1 e z1 oq => ?_
  refine k _ _ _ _ _ _ _ _ _ _ _ C (w.set hz (cellE_i hs) (ar_set e ?_) z1 oq (fun c' hc => ⟨by funext j; rw [gI_sI]; simp [hc], rfl, rfl⟩) (fun hn => (w.2.2.2 hn).sI _ _ _)) o (v.put z1 oq (ad_AA g hz.1 hlt)) a l
  rw [vp_cell_i, vp_cell_i, arrV_store]
  congr 1
  funext q
  by_cases hq : q = i.toNatClampNeg
  · subst hq; simp [updV, gI_sI]
  · simp [updV, gI_sI, hq]
theorem r_bast {c0 n : Nat} {i x : Int32} (hs : shp c0 = (21, n)) (hz : 1 ≤ c0 ∧ c0 ≤ cnt z.1) (hi : inb i n = true) (hd : decode M.2.1 pc = .ok (.bastore, 1)) (k : RR g M F z (pc + 1) ls rest (sI σ c0 i.toNatClampNeg x.toInt8.toInt32)) : RR g M F z pc ls (.int x :: .int i :: .ref (ad g c0) :: rest) σ := by
  intro p e s m args below meth c H locs lsA C w o v a l
  have hin := inb_vp hi
  have hlt : c0 < 1000 := Nat.lt_of_le_of_lt (Nat.le_trans hz.2 (cnt_le _)) w.2.1
  have hcell := w.at hz (cellE_b (σ := σ) (g := g) hs)
  refine W.bast C.1 C.2.1 hcell ((o.1.2 1 _ rfl).1 n (fun j => .int (gI σ c0 j))) (fun q => by cases q) (by show ¬ (i < 0 ∨ (arrV _ _ _).slots.size ≤ _); rw [arrV_size]; exact hin) rfl rfl hd fun H1 e z1 oq => ?_
  refine k _ _ _ _ _ _ _ _ _ _ _ C (w.set hz (cellE_b hs) (ar_set e ?_) z1 oq (fun c' hc => ⟨by funext j; rw [gI_sI]; simp [hc], rfl, rfl⟩) (fun hn => (w.2.2.2 hn).sI _ _ _)) o (v.put z1 oq (ad_AA g hz.1 hlt)) a l
  rw [vp_cell_i, vp_cell_i, arrV_store]
  congr 1
  funext q
  by_cases hq : q = i.toNatClampNeg
  · subst hq; simp [updV, gI_sI, narrow]
  · simp [updV, gI_sI, hq]
theorem r_zast {c0 n : Nat} {i x : Int32} (hs : shp c0 = (22, n)) (hz : 1 ≤ c0 ∧ c0 ≤ cnt z.1) (hi : inb i n = true) (hx : narrow .boolean (.int x) = .int x) (hd : decode M.2.1 pc = .ok (.bastore, 1)) (k : RR g M F z (pc + 1) ls rest (sI σ c0 i.toNatClampNeg x)) : RR g M F z pc ls (.int x :: .int i :: .ref (ad g c0) :: rest) σ := by
  intro p e s m args below meth c H locs lsA C w o v a l
  have hin := inb_vp hi
  have hlt : c0 < 1000 := Nat.lt_of_le_of_lt (Nat.le_trans hz.2 (cnt_le _)) w.2.1
  have hcell := w.at hz (cellE_z (σ := σ) (g := g) hs)
  refine W.zast C.1 C.2.1 hcell ((o.1.2 2 _ rfl).1 n (fun j => .int (gI σ c0 j))) (fun q => by cases q) (by show ¬ (i < 0 ∨ (arrV _ _ _).slots.size ≤ _); rw [arrV_size]; exact hin) rfl rfl hd fun H1 e z1 oq => ?_
  refine k _ _ _ _ _ _ _ _ _ _ _ C (w.set hz (cellE_z hs) (ar_set e ?_) z1 oq (fun c' hc => ⟨by funext j; rw [gI_sI]; simp [hc], rfl, rfl⟩) (fun hn => (w.2.2.2 hn).sI _ _ _)) o (v.put z1 oq (ad_AA g hz.1 hlt)) a l
  rw [vp_cell_i, vp_cell_i, arrV_store]
  congr 1
  funext q
  by_cases hq : q = i.toNatClampNeg
  · subst hq; simp [updV, gI_sI, hx]
  · simp [updV, gI_sI, hq]
theorem r_last {c0 n : Nat} {i : Int32} {x : Int64} (hs : shp c0 = (23, n)) (hz : 1 ≤ c0 ∧ c0 ≤ cnt z.1) (hi : inb i n = true) (hd : decode M.2.1 pc = .ok (.lastore, 1)) (k : RR g M F z (pc + 1) ls rest (sL σ c0 i.toNatClampNeg x)) : RR g M F z pc ls (.long x :: .int i :: .ref (ad g c0) :: rest) σ := by
  intro p e s m args below meth c H locs lsA C w o v a l
  have hin := inb_vp hi
  have hlt : c0 < 1000 := Nat.lt_of_le_of_lt (Nat.le_trans hz.2 (cnt_le _)) w.2.1
  have hcell := w.at hz (cellE_l (σ := σ) (g := g) hs)
  refine W.last C.1 C.2.1 hcell ((o.1.2 3 _ rfl).1 n (fun j => .long (gL σ c0 j))) (fun q => by cases q) (by show ¬ (i < 0 ∨ (arrV _ _ _).slots.size ≤ _); rw [arrV_size]; exact hin) rfl rfl hd fun H1 e z1 oq => ?_
  refine k _ _ _ _ _ _ _ _ _ _ _ C (w.set hz (cellE_l hs) (ar_set e ?_) z1 oq (fun c' hc => ⟨rfl, by funext j; rw [gL_sL]; simp [hc], rfl⟩) (fun hn => (w.2.2.2 hn).sL _ _ _)) o (v.put z1 oq (ad_AA g hz.1 hlt)) a l
  rw [vp_cell_l, vp_cell_l, arrV_store]
  congr 1
  funext q
  by_cases hq : q = i.toNatClampNeg
  · subst hq; simp [updV, gL_sL]
  · simp [updV, gL_sL, hq]
/-! tables that nobody writes -/
theorem r_ti {a0 n t0 : Nat} {i : Int32} (hT : ∀ s, Ko g s → va_T .int a0 n (fun j => .int (roV t0 j)) (AA g) s s.heap) (hi : inb i n = true) (hd : decode M.2.1 pc = .ok (.iaload, 1)) (k : RR g M F z (pc + 1) ls (.int (roV t0 i.toNatClampNeg) :: rest) σ) : RR g M F z pc ls (.int i :: .ref a0 :: rest) σ :=
  fun _ _ _ _ _ _ _ _ _ _ _ C w o v aa l => va_ti C.1 C.2.1 (hT _ o) v (inb_vp hi) rfl hd (k _ _ _ _ _ _ _ _ _ _ _ C w o v aa l)
theorem r_tlen {a0 n : Nat} {f : Nat → Value} (hT : ∀ s, Ko g s → va_T .int a0 n f (AA g) s s.heap) (hd : decode M.2.1 pc = .ok (.arraylength, 1)) (k : RR g M F z (pc + 1) ls (.int (nI n) :: rest) σ) : RR g M F z pc ls (.ref a0 :: rest) σ :=
  fun _ _ _ _ _ _ _ _ _ _ _ C w o v aa l => va_tlen C.1 C.2.1 (hT _ o) v rfl hd (k _ _ _ _ _ _ _ _ _ _ _ C w o v aa l)
theorem r_gets {C0 n d : String} {index : Nat} {v0 : Value} (hZ : ∀ s, Ko g s → va_Z C0 n d v0 (AA g) s s.heap) (hl : Cond.fieldLink M.1.cls index C0 n d ∈ lw_gt) (hd : decode M.2.1 pc = .ok (.getstatic index, 3)) (k : RR g M F z (pc + 3) ls (v0 :: rest) σ) : RR g M F z pc ls rest σ :=
  fun _ _ _ _ _ _ _ _ _ _ _ C w o v a l => va_gets C.1 C.2.1 (hZ _ o) v C.2.2.2.1 (C.2.2.2.2.1 _ hl) (fun _ h => h) hd (k _ _ _ _ _ _ _ _ _ _ _ C w o v a l)
/-- an array's length -/
theorem r_alen {c0 n : Nat} (hs : shp c0 = (20, n)) (hz : 1 ≤ c0 ∧ c0 ≤ cnt z.1) (hd : decode M.2.1 pc = .ok (.arraylength, 1)) (k : RR g M F z (pc + 1) ls (.int (nI n) :: rest) σ) : RR g M F z pc ls (.ref (ad g c0) :: rest) σ :=
  fun _ _ _ _ _ _ _ _ _ _ _ C w o v a l => va_alen C.1 C.2.1 o.1 (w.P hz (cellE_i hs)) 0 0 rfl rfl rfl hd (k _ _ _ _ _ _ _ _ _ _ _ C w o v a l)
theorem r_alenb {c0 n : Nat} (hs : shp c0 = (21, n)) (hz : 1 ≤ c0 ∧ c0 ≤ cnt z.1) (hd : decode M.2.1 pc = .ok (.arraylength, 1)) (k : RR g M F z (pc + 1) ls (.int (nI n) :: rest) σ) : RR g M F z pc ls (.ref (ad g c0) :: rest) σ :=
  fun _ _ _ _ _ _ _ _ _ _ _ C w o v a l => va_alen C.1 C.2.1 o.1 (w.P hz (cellE_b hs)) 0 1 rfl rfl rfl hd (k _ _ _ _ _ _ _ _ _ _ _ C w o v a l)
/-! ends -/
theorem fin_q {p : Program} {e : Env} {s : State} {m : MethodId} {args : Array Value} {below : List Frame} {meth : Method} {c : Code} {H : Heap} {locs : List Loc} {cells slots k1 k2 : Nat} {Qc : Array Value → State → Outcome → State → Prop} {fr : Addr → Prop} {gg : JFrame} (h1 : cells ≤ k1) (h2 : slots ≤ k2)
    (h : W p g.1 e M.2.2.2.2 s m args below meth c H locs k1 k2 (MQ below Qc args s k1 k2 fr) gg) : W p g.1 e M.2.2.2.2 s m args below meth c H locs cells slots (MQ below Qc args s k1 k2 fr) gg := W.widen h1 h2 h
theorem r_iret {v : Int32} {n : Nat} (hr : M.2.2.2.1 = some .int) (hn : n = z.1) (hc : z.2.1 ≤ M.2.2.2.2.cells ∧ z.2.2 ≤ M.2.2.2.2.slots) (hd : decode M.2.1 pc = .ok (.ireturn, 1)) : RR g M (FinR g M (some (.int v)) n σ) z pc ls [.int v] σ := by
  subst hn
  exact fun _ _ _ _ _ _ _ _ _ _ _ C w o vS a l => fin_q hc.1 hc.2 (W.iret C.1 C.2.1 (C.2.2.2.2.2.1.trans hr) (fun t ht _ => ⟨rfl, by rw [ht]; exact w, vS.F ht⟩) vS.2.2 hd C.2.2.2.2.2.2.1)
theorem r_zret {v : Int32} {n : Nat} {ty : FieldType} (hr : M.2.2.2.1 = some ty) (hv : narrow ty (.int v) = .int v) (hn : n = z.1) (hc : z.2.1 ≤ M.2.2.2.2.cells ∧ z.2.2 ≤ M.2.2.2.2.slots) (hd : decode M.2.1 pc = .ok (.ireturn, 1)) : RR g M (FinR g M (some (.int v)) n σ) z pc ls [.int v] σ := by
  subst hn
  exact fun _ _ _ _ _ _ _ _ _ _ _ C w o vS a l => fin_q hc.1 hc.2 (W.zret C.1 C.2.1 (C.2.2.2.2.2.1.trans hr) hv (fun t ht _ => ⟨rfl, by rw [ht]; exact w, vS.F ht⟩) vS.2.2 hd C.2.2.2.2.2.2.1)
theorem r_lret {v : Int64} {n : Nat} (hr : M.2.2.2.1 = some .long) (hn : n = z.1) (hc : z.2.1 ≤ M.2.2.2.2.cells ∧ z.2.2 ≤ M.2.2.2.2.slots) (hd : decode M.2.1 pc = .ok (.lreturn, 1)) : RR g M (FinR g M (some (.long v)) n σ) z pc ls [.long v] σ := by
  subst hn
  exact fun _ _ _ _ _ _ _ _ _ _ _ C w o vS a l => fin_q hc.1 hc.2 (W.lret C.1 C.2.1 (C.2.2.2.2.2.1.trans hr) (fun t ht _ => ⟨rfl, by rw [ht]; exact w, vS.F ht⟩) vS.2.2 hd C.2.2.2.2.2.2.1)
theorem r_vret {n : Nat} (hr : M.2.2.2.1 = none) (hn : n = z.1) (hc : z.2.1 ≤ M.2.2.2.2.cells ∧ z.2.2 ≤ M.2.2.2.2.slots) (hd : decode M.2.1 pc = .ok (.return_, 1)) : RR g M (FinR g M none n σ) z pc ls [] σ := by
  subst hn
  exact fun _ _ _ _ _ _ _ _ _ _ _ C w o vS a l => fin_q hc.1 hc.2 (W.vret C.1 C.2.1 (C.2.2.2.2.2.1.trans hr) (fun t ht _ => ⟨rfl, by rw [ht]; exact w, vS.F ht⟩) vS.2.2 hd C.2.2.2.2.2.2.1)
/-! a contract out of the walk from the entry -/
theorem Ct.of {av : List Value} {n n' : Nat} {o : Option Value} {σ' : SS} (hy : plainName M.1.cls = true) (hlen : (lg_sl av).length ≤ M.2.2.1) (k : (n = NF → WT σ) → RR g M (FinR g M o n' σ') (n, 0, 0) 0 (lv_args 0 av) [] σ) : Ct g M av n σ o n' σ' := by
  refine Met.ofW (cc := M.2.1) (maxL := M.2.2.1) (ret := M.2.2.2.1) hy rfl ?_
  intro p e s m args below meth c s₁ B hml hv
  obtain ⟨rfl, hW, hK, hA⟩ := hv
  have hts := atoms_spec (ws := .code M.1 M.2.1 M.2.2.1 M.2.2.2.1 :: lw_gt) B.pre
  have hown : s.vm.findClass M.1.cls = some m.cls := findClass_of_methodNamed B.named
  have hin : meth.name = M.1.name := (name_of_methodNamed B.named B.method).1
  have hl := lv_entry av (n := M.2.2.1) hlen
  rw [lg_entry_eq]
  exact k hW.2.2.2 _ _ _ _ _ _ _ _ _ _ _ ⟨B.exec, B.bytes, hml, hown, fun w h => hts w (List.mem_cons_of_mem _ h), B.returns, B.notSynchronized, hin⟩ hW hK va_S.rf hA hl
/-! calls -/
theorem ct_blind {av : List Value} {n : Nat} : FrameBlind (va_Pc av (fun U => Wc g n σ U.heap ∧ Ko g U ∧ (∀ q, U.heap.size ≤ q → AA g q))) := by
  intro a U f mk q
  obtain ⟨q1, q2, q3, q4⟩ := q
  refine ⟨q1, q2, ⟨va_K.moved (u := U) (U := U.calling f mk a) (Vm.Alike.refl U.vm) q3.1, ?_⟩, q4⟩
  obtain ⟨x1, x2, x3, x4, x5, x6, x7, x8, x9, x10⟩ := q3.2
  have hvm : U.vm.Alike (U.calling f mk a).vm := Vm.Alike.refl U.vm
  exact ⟨⟨x1.1.moved hvm, x1.2.moved hvm⟩, ⟨x2.1.moved hvm, x2.2.moved hvm⟩, x3, x4.moved hvm, fun i hi => (x5 i hi).same (U := U.calling f mk a) rfl, x6.moved hvm, x7.moved hvm, fun q hq => (x8 q hq).same rfl (U := U.calling f mk a) rfl, x9.moved hvm, x10.moved hvm⟩
theorem ct_pre {s : State} {H : Heap} {locs : List Loc} {n : Nat} (w : Wc g n σ H) (o : Ko g s) (v : va_S (AA g) s.heap H locs) (a : ∀ q, s.heap.size ≤ q → AA g q) (U : State) (hU : U.heap = H) (hW : s.WarmedH U.vm) : Wc g n σ U.heap ∧ Ko g U ∧ (∀ q, U.heap.size ≤ q → AA g q) := by
  refine ⟨by rw [hU]; exact w, ⟨o.1.moved hW.alike, o.2.go hW (fun q h1 h2 => by rw [hU]; exact v.2.1 q h1 h2)⟩, fun q hq => a q (Nat.le_trans v.1 (by rw [← hU]; exact hq))⟩
theorem r_after {N : MM} {p : Program} {e : Env} {s : State} {m : MethodId} {args : Array Value} {below : List Frame} {meth : Method} {c : Code} {H : Heap} {locs : List Loc} {lsA : Array Slot} {st0 : List Value} {o1 : Option Value} {n1 : Nat} {σ1 : SS} {a : Array Value}
    (hr : va_Run p g.1 e M.2.2.2.2 s m args below meth c H locs z.2.1 z.2.2 N.2.2.2.2.cells N.2.2.2.2.slots (F0 m pc lsA st0) rest ((fun (_ : Array Value) (st : State) (oc : Outcome) (t : State) => oc = .returned o1 ∧ Wc g n1 σ1 t.heap ∧ va_F (AA g) st t) a) (AA g))
    (C : Cx M p s m args meth c) (o : Ko g s) (v : va_S (AA g) s.heap H locs) (ha : ∀ q, s.heap.size ≤ q → AA g q) (l : lv_has lsA M.2.2.1 ls)
    (k : (n1 = NF → WT σ1) → RR g M F (n1, z.2.1 + N.2.2.2.2.cells, z.2.2 + N.2.2.2.2.slots) (pc + 3) ls (o1.toList ++ rest) σ1) : W p g.1 e M.2.2.2.2 s m args below meth c H locs z.2.1 z.2.2 (F s args below) (F0 m pc lsA st0) := by
  intro T hT X
  obtain ⟨v0, st₀, t, T', L, h0, X', hL, e1, e2, ⟨q1, q2, q3, q4⟩, st⟩ := hr T hT X
  cases q1
  rw [h0] at q3 q4
  obtain ⟨t2, a1, b1⟩ := k q2.2.2.2 _ _ _ _ _ _ _ _ T'.heap (locs ++ L) lsA C (by rw [e1]; exact q2) o
    ⟨Nat.le_trans v.1 (by rw [e1]; exact q3), fun q g1 g2 => by rw [e1, q4 q (Nat.lt_of_lt_of_le g1 v.1) g2]; exact v.2.1 q g1 g2, fun q hq => by
      rcases List.mem_append.mp hq with h | h
      · exact v.2.2 q h
      · exact hL q h⟩ ha l T' rfl X'
  exact ⟨t2, st t2 a1, b1⟩
theorem call_b {N : MM} {s : State} {args : Array Value} {index nn : Nat} (ht : ∀ w ∈ lw_gt, w.before args s = true) (hcode : Cond.code N.1 N.2.1 N.2.2.1 N.2.2.2.1 ∈ lw_gt) (hini : Cond.initialized N.1.cls ∈ lw_gt) (hl : Cond.methodLink M.1.cls index N.1 ∈ lw_gt)
    (hd : N.1.cls ≠ "java/lang/invoke/MethodHandle" ∧ N.1.cls ≠ "java/lang/invoke/VarHandle" ∧ (parseMethodDescriptor N.1.desc).map (fun d => d.parameters.length) = some nn) (hR : N.2.2.2.2.frames + 1 ≤ M.2.2.2.2.frames ∧ 8 + (N.2.2.1 + 11) + N.2.2.2.2.locals ≤ M.2.2.2.2.locals) :
    CallB M.2.2.2.2 s args M.1.cls index N.1 N.2.1 N.2.2.1 N.2.2.2.1 (.code N.1 N.2.1 N.2.2.1 N.2.2.2.1 :: lw_gt) N.2.2.2.2 N.2.2.2.2.cells N.2.2.2.2.slots nn :=
  callB_of (Ts := lw_gt) nn ht (fun w h => by
    rcases List.mem_cons.mp h with e | h
    · rw [e]; exact ⟨hcode, lw_gt_good hcode⟩
    · exact ⟨h, lw_gt_good h⟩) rfl rfl rfl (ht _ hini) (ht _ hl) hd hR
/-- an instance method of the receiver's own class -/
theorem r_callV {N : MM} {As : List Value} {c0 ci k0 index nn n1 : Nat} {C0 : String} {T0 : u_T} {N0 : Nat} {o1 : Option Value} {σ1 : SS} (hM : Ct g N (.ref (ad g c0) :: As) z.1 σ o1 n1 σ1) (hsh : shp c0 = (ci, k0)) (h9 : ci < 9) (hz : 1 ≤ c0 ∧ c0 ≤ cnt z.1) (hcl : vwCl[ci]? = some (C0, T0, N0)) (hC : N.1.cls = C0)
    (hcode : Cond.code N.1 N.2.1 N.2.2.1 N.2.2.2.1 ∈ lw_gt) (hini : Cond.initialized N.1.cls ∈ lw_gt) (hl : Cond.methodLink M.1.cls index N.1 ∈ lw_gt) (hin : Cond.instanceMethod N.1 ∈ lw_gt) (hse : Cond.selects N.1.cls N.1 N.1 ∈ lw_gt)
    (hd0 : N.1.cls ≠ "java/lang/invoke/MethodHandle" ∧ N.1.cls ≠ "java/lang/invoke/VarHandle" ∧ (parseMethodDescriptor N.1.desc).map (fun d => d.parameters.length) = some nn) (hR : N.2.2.2.2.frames + 1 ≤ M.2.2.2.2.frames ∧ 8 + (N.2.2.1 + 11) + N.2.2.2.2.locals ≤ M.2.2.2.2.locals)
    (hnn : As.length = nn) (hrest : (rest.map fun v => v.category).sum ≤ 8) (hd : decode M.2.1 pc = .ok (.invokevirtual index, 3)) (hf : z.2.1 + N.2.2.2.2.cells ≤ M.2.2.2.2.cells ∧ z.2.2 + N.2.2.2.2.slots ≤ M.2.2.2.2.slots) {st0 : List Value} (hst : st0 = As.reverse ++ .ref (ad g c0) :: rest)
    (k : (n1 = NF → WT σ1) → RR g M F (n1, z.2.1 + N.2.2.2.2.cells, z.2.2 + N.2.2.2.2.slots) (pc + 3) ls (o1.toList ++ rest) σ1) : RR g M F z pc ls st0 σ := by
  subst hst
  intro p e s m args below meth c H locs lsA C w o v a l
  refine r_after (N := N) (rest := rest) (a := (Value.ref (ad g c0) :: As).toArray) (va_runV (As := As) (b := ad g c0) (C := N.1.cls) (nL := M.2.2.1) (rest := rest) (⟨C.1, C.2.1, C.2.2.1, C.2.2.2.1, C.2.2.2.2.1⟩ : CallFix p m c M.2.1 M.2.2.1 s args lw_gt M.1.cls) hM ⟨call_b C.2.2.2.2.1 hcode hini hl hd0 hR, C.2.2.2.2.1 _ hin, C.2.2.2.2.1 _ hse⟩ ⟨ct_blind, ?_, fun U hU hW => ⟨rfl, ct_pre w o v a U hU hW⟩⟩ rfl hnn l.1 rfl ?_ hd hf) C o v a l k
  · rw [hC]; exact va_recv o.1 (w.P hz (cellE_o hsh h9)) (ci := ci) (q0 := 0) hcl rfl
  · exact (Nat.zero_add _).symm ▸ hrest
theorem r_callS {N : MM} {As : List Value} {index nn n1 : Nat} {o1 : Option Value} {σ1 : SS} (hM : Ct g N As z.1 σ o1 n1 σ1)
    (hcode : Cond.code N.1 N.2.1 N.2.2.1 N.2.2.2.1 ∈ lw_gt) (hini : Cond.initialized N.1.cls ∈ lw_gt) (hl : Cond.methodLink M.1.cls index N.1 ∈ lw_gt) (hin : Cond.static N.1 ∈ lw_gt)
    (hd0 : N.1.cls ≠ "java/lang/invoke/MethodHandle" ∧ N.1.cls ≠ "java/lang/invoke/VarHandle" ∧ (parseMethodDescriptor N.1.desc).map (fun d => d.parameters.length) = some nn) (hR : N.2.2.2.2.frames + 1 ≤ M.2.2.2.2.frames ∧ 8 + (N.2.2.1 + 11) + N.2.2.2.2.locals ≤ M.2.2.2.2.locals)
    (hnn : As.length = nn) (hrest : (rest.map fun v => v.category).sum ≤ 8) (hd : decode M.2.1 pc = .ok (.invokestatic index, 3)) (hf : z.2.1 + N.2.2.2.2.cells ≤ M.2.2.2.2.cells ∧ z.2.2 + N.2.2.2.2.slots ≤ M.2.2.2.2.slots) {st0 : List Value} (hst : st0 = As.reverse ++ rest)
    (k : (n1 = NF → WT σ1) → RR g M F (n1, z.2.1 + N.2.2.2.2.cells, z.2.2 + N.2.2.2.2.slots) (pc + 3) ls (o1.toList ++ rest) σ1) : RR g M F z pc ls st0 σ := by
  subst hst
  intro p e s m args below meth c H locs lsA C w o v a l
  refine r_after (N := N) (rest := rest) (a := As.toArray) (va_runS (As := As) (nL := M.2.2.1) (rest := rest) (⟨C.1, C.2.1, C.2.2.1, C.2.2.2.1, C.2.2.2.2.1⟩ : CallFix p m c M.2.1 M.2.2.1 s args lw_gt M.1.cls) hM ⟨call_b C.2.2.2.2.1 hcode hini hl hd0 hR, C.2.2.2.2.1 _ hin⟩ ⟨ct_blind, fun U hU hW => ⟨rfl, ct_pre w o v a U hU hW⟩⟩ rfl hnn l.1 rfl ?_ hd hf) C o v a l k
  exact (Nat.zero_add _).symm ▸ hrest
end ROWS2
