/-! The law's own methods, walked by a program. -/
theorem dL_next_0 : decode cL_next 0 = .ok (.aload_n 0, 1) := by decide +kernel
theorem dL_next_1 : decode cL_next 1 = .ok (.iconst 0, 1) := by decide +kernel
theorem dL_next_2 : decode cL_next 2 = .ok (.aload_n 0, 1) := by decide +kernel
theorem dL_next_3 : decode cL_next 3 = .ok (.iconst 0, 1) := by decide +kernel
theorem dL_next_4 : decode cL_next 4 = .ok (.iaload, 1) := by decide +kernel
theorem dL_next_5 : decode cL_next 5 = .ok (.ldc 7, 2) := by decide +kernel
theorem dL_next_7 : decode cL_next 7 = .ok (.imul, 1) := by decide +kernel
theorem dL_next_8 : decode cL_next 8 = .ok (.sipush 12345, 3) := by decide +kernel
theorem dL_next_11 : decode cL_next 11 = .ok (.iadd, 1) := by decide +kernel
theorem dL_next_12 : decode cL_next 12 = .ok (.iastore, 1) := by decide +kernel
theorem dL_next_13 : decode cL_next 13 = .ok (.aload_n 0, 1) := by decide +kernel
theorem dL_next_14 : decode cL_next 14 = .ok (.iconst 0, 1) := by decide +kernel
theorem dL_next_15 : decode cL_next 15 = .ok (.dup2, 1) := by decide +kernel
theorem dL_next_16 : decode cL_next 16 = .ok (.iaload, 1) := by decide +kernel
theorem dL_next_17 : decode cL_next 17 = .ok (.aload_n 0, 1) := by decide +kernel
theorem dL_next_18 : decode cL_next 18 = .ok (.iconst 0, 1) := by decide +kernel
theorem dL_next_19 : decode cL_next 19 = .ok (.iaload, 1) := by decide +kernel
theorem dL_next_20 : decode cL_next 20 = .ok (.bipush 15, 2) := by decide +kernel
theorem dL_next_22 : decode cL_next 22 = .ok (.iushr, 1) := by decide +kernel
theorem dL_next_23 : decode cL_next 23 = .ok (.ixor, 1) := by decide +kernel
theorem dL_next_24 : decode cL_next 24 = .ok (.iastore, 1) := by decide +kernel
theorem dL_next_25 : decode cL_next 25 = .ok (.aload_n 0, 1) := by decide +kernel
theorem dL_next_26 : decode cL_next 26 = .ok (.iconst 0, 1) := by decide +kernel
theorem dL_next_27 : decode cL_next 27 = .ok (.iaload, 1) := by decide +kernel
theorem dL_next_28 : decode cL_next 28 = .ok (.bipush 9, 2) := by decide +kernel
theorem dL_next_30 : decode cL_next 30 = .ok (.iushr, 1) := by decide +kernel
theorem dL_next_31 : decode cL_next 31 = .ok (.ireturn, 1) := by decide +kernel
def mL_next : MM := (yL_next, cL_next, 1, Option.some Jvm.ClassFile.FieldType.int, { frames := 0, cells := 0, slots := 0, locals := 0 })
def fL_next (σ : SS) (a0 : Nat) : Option (Int32 × SS) :=
  grd (lin σ a0 (0 : Int32)) <|
  vthen (sI σ a0 0 (((gI σ a0 0) * (1103515245 : Int32)) + (12345 : Int32))) fun σ2 =>
  grd (lin σ2 a0 (0 : Int32)) <|
  vthen (sI σ2 a0 0 ((gI σ2 a0 0) ^^^ ((Int32.toUInt32 (gI σ2 a0 0) >>> (Int32.toUInt32 (15 : Int32) &&& Int32.toUInt32 31)).toInt32))) fun σ4 =>
  grd (lin σ4 a0 (0 : Int32)) <|
  some (((Int32.toUInt32 (gI σ4 a0 0) >>> (Int32.toUInt32 (9 : Int32) &&& Int32.toUInt32 31)).toInt32), σ4)

set_option maxRecDepth 20000 in
set_option maxHeartbeats 4000000 in
theorem sL_next {g : GG} {σ : SS} {a0 : Nat} {r : Int32 × SS} (hr : fL_next σ a0 = some r)  : Ct g mL_next [.ref (ad g a0)] NF σ (some (.int r.1)) NF r.2 := by
  refine Ct.of (by decide +kernel) (nle rfl) fun hw0 => ?_
  have hw := hw0 rfl
  unfold fL_next at hr
  change RR g mL_next (FinR g mL_next (some (.int r.1)) NF r.2) (NF, 0, 0) 0 [(0, .ref (ad g a0))] [] σ
  refine r_aload_n (pc := 0) (j := 0) dL_next_0 rfl rfl ?_
  refine r_iconst (pc := 1) (v := (0 : Int32)) dL_next_1 rfl ?_
  refine r_aload_n (pc := 2) (j := 0) dL_next_2 rfl rfl ?_
  refine r_iconst (pc := 3) (v := (0 : Int32)) dL_next_3 rfl ?_
  obtain ⟨h1, hr⟩ := grd_inv hr
  refine y_iald (pc := 4) (k := 0) h1 rfl dL_next_4 ?_
  refine r_ldc (pc := 5) (v := (1103515245 : Int32)) dL_next_5 tw_3_128 ?_
  refine r_imul (pc := 7) dL_next_7 ?_
  refine r_sipush (pc := 8) (v := (12345 : Int32)) dL_next_8 rfl ?_
  refine r_iadd (pc := 11) dL_next_11 ?_
  refine y_iast (pc := 12) (j := 0) h1 rfl dL_next_12 fun σ2 eσ2 => ?_
  replace hr := vthen_inv hr σ2 eσ2
  have hσ2 := wtI eσ2 hw
  refine r_aload_n (pc := 13) (j := 0) dL_next_13 rfl rfl ?_
  refine r_iconst (pc := 14) (v := (0 : Int32)) dL_next_14 rfl ?_
  refine r_dup2 (pc := 15) dL_next_15 rfl rfl ?_
  obtain ⟨h3, hr⟩ := grd_inv hr
  refine y_iald (pc := 16) (k := 0) h3 rfl dL_next_16 ?_
  refine r_aload_n (pc := 17) (j := 0) dL_next_17 rfl rfl ?_
  refine r_iconst (pc := 18) (v := (0 : Int32)) dL_next_18 rfl ?_
  refine y_iald (pc := 19) (k := 0) h3 rfl dL_next_19 ?_
  refine r_bipush (pc := 20) (v := (15 : Int32)) dL_next_20 rfl ?_
  refine r_iushr (pc := 22) dL_next_22 ?_
  refine r_ixor (pc := 23) dL_next_23 ?_
  refine y_iast (pc := 24) (j := 0) h3 rfl dL_next_24 fun σ4 eσ4 => ?_
  replace hr := vthen_inv hr σ4 eσ4
  have hσ4 := wtI eσ4 hσ2
  refine r_aload_n (pc := 25) (j := 0) dL_next_25 rfl rfl ?_
  refine r_iconst (pc := 26) (v := (0 : Int32)) dL_next_26 rfl ?_
  obtain ⟨h5, hr⟩ := grd_inv hr
  refine y_iald (pc := 27) (k := 0) h5 rfl dL_next_27 ?_
  refine r_bipush (pc := 28) (v := (9 : Int32)) dL_next_28 rfl ?_
  refine r_iushr (pc := 30) dL_next_30 ?_
  exact l_osi hr (r_iret (pc := 31) (v := ((Int32.toUInt32 (gI σ4 a0 0) >>> (Int32.toUInt32 (9 : Int32) &&& Int32.toUInt32 31)).toInt32)) rfl rfl ⟨nle rfl, nle rfl⟩ dL_next_31)

theorem qL_next {g : GG} {σ : SS} {a0 : Nat} {v : Int32} {σ2 : SS} {M : MM} {F : State → Array Value → List Frame → State → Prop} {zc zs pc index : Nat} {ls : List (Nat × Value)} {rest : List Value} (hf : fL_next σ a0 = some (v, σ2))  (hl : Cond.methodLink M.1.cls index yL_next ∈ lw_gt) (hz : zc ≤ M.2.2.2.2.cells ∧ zs ≤ M.2.2.2.2.slots) (hR : mL_next.2.2.2.2.frames + 1 ≤ M.2.2.2.2.frames ∧ 8 + (mL_next.2.2.1 + 11) + mL_next.2.2.2.2.locals ≤ M.2.2.2.2.locals) (hrest : (rest.map fun v => v.category).sum ≤ 8) (hd : decode M.2.1 pc = .ok (.invokestatic index, 3)) (k : WT σ2 → RR g M F (NF, zc, zs) (pc + 3) ls (.int v :: rest) σ2) : RR g M F (NF, zc, zs) pc ls (.ref (ad g a0) :: rest) σ :=
  r_callS (z := (NF, zc, zs)) (N := mL_next) (nn := 1) (o1 := some (.int v)) (sL_next hf ) tw_3_127 tw_1_0 hl tw_3_126 ⟨by decide, by decide, rfl⟩ hR rfl hrest hd hz rfl (fun h => k (h rfl))

theorem dL_put_0 : decode cL_put 0 = .ok (.iconst 0, 1) := by decide +kernel
theorem dL_put_1 : decode cL_put 1 = .ok (.istore_n 3, 1) := by decide +kernel
theorem dL_put_2 : decode cL_put 2 = .ok (.iload_n 3, 1) := by decide +kernel
theorem dL_put_3 : decode cL_put 3 = .ok (.aload_n 2, 1) := by decide +kernel
theorem dL_put_4 : decode cL_put 4 = .ok (.arraylength, 1) := by decide +kernel
theorem dL_put_5 : decode cL_put 5 = .ok (.if_icmp .ge 17, 3) := by decide +kernel
theorem dL_put_8 : decode cL_put 8 = .ok (.aload_n 0, 1) := by decide +kernel
theorem dL_put_9 : decode cL_put 9 = .ok (.iload_n 1, 1) := by decide +kernel
theorem dL_put_10 : decode cL_put 10 = .ok (.iload_n 3, 1) := by decide +kernel
theorem dL_put_11 : decode cL_put 11 = .ok (.iadd, 1) := by decide +kernel
theorem dL_put_12 : decode cL_put 12 = .ok (.aload_n 2, 1) := by decide +kernel
theorem dL_put_13 : decode cL_put 13 = .ok (.iload_n 3, 1) := by decide +kernel
theorem dL_put_14 : decode cL_put 14 = .ok (.iaload, 1) := by decide +kernel
theorem dL_put_15 : decode cL_put 15 = .ok (.iastore, 1) := by decide +kernel
theorem dL_put_16 : decode cL_put 16 = .ok (.iinc 3 1, 3) := by decide +kernel
theorem dL_put_19 : decode cL_put 19 = .ok (.goto (-17), 3) := by decide +kernel
theorem dL_put_22 : decode cL_put 22 = .ok (.iload_n 1, 1) := by decide +kernel
theorem dL_put_23 : decode cL_put 23 = .ok (.aload_n 2, 1) := by decide +kernel
theorem dL_put_24 : decode cL_put 24 = .ok (.arraylength, 1) := by decide +kernel
theorem dL_put_25 : decode cL_put 25 = .ok (.iadd, 1) := by decide +kernel
theorem dL_put_26 : decode cL_put 26 = .ok (.ireturn, 1) := by decide +kernel
def mL_put : MM := (yL_put, cL_put, 4, Option.some Jvm.ClassFile.FieldType.int, { frames := 0, cells := 0, slots := 0, locals := 0 })
def L_put_L2 (o0_ : Nat) (u1_ : Int32) (o2_ : Nat)  : Nat → Int32 → SS → Option (Int32 × SS) :=
  lp (fun _ _ => none) fun rec v3_ σ_ =>
    grd (lav σ_ o2_) <|
    if (nI (gR σ_ o2_ 0)) ≤ v3_ then (
      grd (lav σ_ o2_) <|
      some ((u1_ + (nI (gR σ_ o2_ 0))), σ_)
      ) else (
      grd (lin σ_ o2_ v3_) <|
      grd (lin σ_ o0_ (u1_ + v3_)) <|
      vthen (sI σ_ o0_ (Int32.toNatClampNeg (u1_ + v3_)) (gI σ_ o2_ (Int32.toNatClampNeg v3_))) fun σ5 =>
      rec (v3_ + (1 : Int32)) σ5
      )

def fL_put (σ : SS) (a0 : Nat) (a1 : Int32) (a2 : Nat) : Option (Int32 × SS) :=
  L_put_L2 a0 a1 a2
  fuel (0 : Int32) σ

set_option maxRecDepth 20000 in
theorem sL_put_L2 {g : GG} {r : Int32 × SS} {o0_ : Nat} {u1_ : Int32} {o2_ : Nat} {zc_ zs_ : Nat}  (hz_ : zc_ ≤ mL_put.2.2.2.2.cells ∧ zs_ ≤ mL_put.2.2.2.2.slots)
    (n : Nat) : ∀ (v3_ : Int32) (σ_ : SS), L_put_L2 o0_ u1_ o2_ n v3_ σ_ = some r → WT σ_ → RR g mL_put (FinR g mL_put (some (.int r.1)) NF r.2) (NF, zc_, zs_) 2 [(0, .ref (ad g o0_)), (1, .int u1_), (2, .ref (ad g o2_)), (3, .int v3_)] [] σ_ := by
  unfold L_put_L2
  refine lp_ind (P := fun (rec : Int32 → SS → Option (Int32 × SS)) => ∀ (v3_ : Int32) (σ_ : SS), rec v3_ σ_ = some r → WT σ_ → RR g mL_put (FinR g mL_put (some (.int r.1)) NF r.2) (NF, zc_, zs_) 2 [(0, .ref (ad g o0_)), (1, .int u1_), (2, .ref (ad g o2_)), (3, .int v3_)] [] σ_) ?_ ?_ n
  · intro v3_ σ_ hr; cases hr
  intro rec ih v3_ σ_ hr hw_
  refine r_iload_n (pc := 2) (j := 3) dL_put_2 rfl rfl ?_
  refine r_aload_n (pc := 3) (j := 2) dL_put_3 rfl rfl ?_
  obtain ⟨h1, hr⟩ := grd_inv hr
  refine y_alen (pc := 4) h1 dL_put_4 ?_
  refine r_icmp_ge (pc := 5) (tgt := 22) dL_put_5 rfl (fun hc => ?_) (fun hc => ?_)
  · replace hr := ite_t hc hr
    refine r_iload_n (pc := 22) (j := 1) dL_put_22 rfl rfl ?_
    refine r_aload_n (pc := 23) (j := 2) dL_put_23 rfl rfl ?_
    obtain ⟨h2, hr⟩ := grd_inv hr
    refine y_alen (pc := 24) h2 dL_put_24 ?_
    refine r_iadd (pc := 25) dL_put_25 ?_
    exact l_osi hr (r_iret (pc := 26) (v := (u1_ + (nI (gR σ_ o2_ 0)))) rfl rfl hz_ dL_put_26)
  replace hr := ite_f hc hr
  refine r_aload_n (pc := 8) (j := 0) dL_put_8 rfl rfl ?_
  refine r_iload_n (pc := 9) (j := 1) dL_put_9 rfl rfl ?_
  refine r_iload_n (pc := 10) (j := 3) dL_put_10 rfl rfl ?_
  refine r_iadd (pc := 11) dL_put_11 ?_
  refine r_aload_n (pc := 12) (j := 2) dL_put_12 rfl rfl ?_
  refine r_iload_n (pc := 13) (j := 3) dL_put_13 rfl rfl ?_
  obtain ⟨h3, hr⟩ := grd_inv hr
  refine y_iald (pc := 14) (k := (Int32.toNatClampNeg v3_)) h3 rfl dL_put_14 ?_
  obtain ⟨h4, hr⟩ := grd_inv hr
  refine y_iast (pc := 15) (j := (Int32.toNatClampNeg (u1_ + v3_))) h4 rfl dL_put_15 fun σ5 eσ5 => ?_
  replace hr := vthen_inv hr σ5 eσ5
  have hσ5 := wtI eσ5 hw_
  refine r_iinc (pc := 16) (j := 3) (v := (v3_ + (1 : Int32))) (ls1 := [(3, .int (v3_ + (1 : Int32))), (0, .ref (ad g o0_)), (1, .int u1_), (2, .ref (ad g o2_))]) dL_put_16 rfl rfl (nle rfl) rfl ?_
  refine r_goto (pc := 19) (tgt := 2) dL_put_19 rfl ?_
  exact r_pick (ls1 := [(0, .ref (ad g o0_)), (1, .int u1_), (2, .ref (ad g o2_)), (3, .int (v3_ + (1 : Int32)))]) [1, 2, 3, 0] rfl (ih (v3_ + (1 : Int32)) σ5 hr hσ5)

set_option maxRecDepth 20000 in
set_option maxHeartbeats 4000000 in
theorem sL_put {g : GG} {σ : SS} {a0 : Nat} {a1 : Int32} {a2 : Nat} {r : Int32 × SS} (hr : fL_put σ a0 a1 a2 = some r)  : Ct g mL_put [.ref (ad g a0), .int a1, .ref (ad g a2)] NF σ (some (.int r.1)) NF r.2 := by
  refine Ct.of (by decide +kernel) (nle rfl) fun hw0 => ?_
  have hw := hw0 rfl
  unfold fL_put at hr
  change RR g mL_put (FinR g mL_put (some (.int r.1)) NF r.2) (NF, 0, 0) 0 [(0, .ref (ad g a0)), (1, .int a1), (2, .ref (ad g a2))] [] σ
  refine r_iconst (pc := 0) (v := (0 : Int32)) dL_put_0 rfl ?_
  refine r_istore_n (pc := 1) (ls1 := [(3, .int (0 : Int32)), (0, .ref (ad g a0)), (1, .int a1), (2, .ref (ad g a2))]) dL_put_1 rfl (nle rfl) rfl ?_
  refine r_pick (ls1 := [(0, .ref (ad g a0)), (1, .int a1), (2, .ref (ad g a2)), (3, .int (0 : Int32))]) [1, 2, 3, 0] rfl ?_
  refine sL_put_L2 ⟨nle rfl, nle rfl⟩    fuel (0 : Int32) σ hr hw

theorem qL_put {g : GG} {σ : SS} {a0 : Nat} {a1 : Int32} {a2 : Nat} {v : Int32} {σ2 : SS} {M : MM} {F : State → Array Value → List Frame → State → Prop} {zc zs pc index : Nat} {ls : List (Nat × Value)} {rest : List Value} (hf : fL_put σ a0 a1 a2 = some (v, σ2))  (hl : Cond.methodLink M.1.cls index yL_put ∈ lw_gt) (hz : zc ≤ M.2.2.2.2.cells ∧ zs ≤ M.2.2.2.2.slots) (hR : mL_put.2.2.2.2.frames + 1 ≤ M.2.2.2.2.frames ∧ 8 + (mL_put.2.2.1 + 11) + mL_put.2.2.2.2.locals ≤ M.2.2.2.2.locals) (hrest : (rest.map fun v => v.category).sum ≤ 8) (hd : decode M.2.1 pc = .ok (.invokestatic index, 3)) (k : WT σ2 → RR g M F (NF, zc, zs) (pc + 3) ls (.int v :: rest) σ2) : RR g M F (NF, zc, zs) pc ls (.ref (ad g a2) :: .int a1 :: .ref (ad g a0) :: rest) σ :=
  r_callS (z := (NF, zc, zs)) (N := mL_put) (nn := 3) (o1 := some (.int v)) (sL_put hf ) tw_3_134 tw_1_0 hl tw_3_133 ⟨by decide, by decide, rfl⟩ hR rfl hrest hd hz rfl (fun h => k (h rfl))

theorem dL_number_0 : decode cL_number 0 = .ok (.iload_n 1, 1) := by decide +kernel
theorem dL_number_1 : decode cL_number 1 = .ok (.istore_n 3, 1) := by decide +kernel
theorem dL_number_2 : decode cL_number 2 = .ok (.aload_n 0, 1) := by decide +kernel
theorem dL_number_3 : decode cL_number 3 = .ok (.iload_n 3, 1) := by decide +kernel
theorem dL_number_4 : decode cL_number 4 = .ok (.bipush 32, 2) := by decide +kernel
theorem dL_number_6 : decode cL_number 6 = .ok (.iastore, 1) := by decide +kernel
theorem dL_number_7 : decode cL_number 7 = .ok (.iinc 3 1, 3) := by decide +kernel
theorem dL_number_10 : decode cL_number 10 = .ok (.iload_n 2, 1) := by decide +kernel
theorem dL_number_11 : decode cL_number 11 = .ok (.bipush 9, 2) := by decide +kernel
theorem dL_number_13 : decode cL_number 13 = .ok (.if_icmp .le 16, 3) := by decide +kernel
theorem dL_number_16 : decode cL_number 16 = .ok (.aload_n 0, 1) := by decide +kernel
theorem dL_number_17 : decode cL_number 17 = .ok (.iload_n 3, 1) := by decide +kernel
theorem dL_number_18 : decode cL_number 18 = .ok (.bipush 48, 2) := by decide +kernel
theorem dL_number_20 : decode cL_number 20 = .ok (.iload_n 2, 1) := by decide +kernel
theorem dL_number_21 : decode cL_number 21 = .ok (.bipush 10, 2) := by decide +kernel
theorem dL_number_23 : decode cL_number 23 = .ok (.idiv, 1) := by decide +kernel
theorem dL_number_24 : decode cL_number 24 = .ok (.iadd, 1) := by decide +kernel
theorem dL_number_25 : decode cL_number 25 = .ok (.iastore, 1) := by decide +kernel
theorem dL_number_26 : decode cL_number 26 = .ok (.iinc 3 1, 3) := by decide +kernel
theorem dL_number_29 : decode cL_number 29 = .ok (.aload_n 0, 1) := by decide +kernel
theorem dL_number_30 : decode cL_number 30 = .ok (.iload_n 3, 1) := by decide +kernel
theorem dL_number_31 : decode cL_number 31 = .ok (.bipush 48, 2) := by decide +kernel
theorem dL_number_33 : decode cL_number 33 = .ok (.iload_n 2, 1) := by decide +kernel
theorem dL_number_34 : decode cL_number 34 = .ok (.bipush 10, 2) := by decide +kernel
theorem dL_number_36 : decode cL_number 36 = .ok (.irem, 1) := by decide +kernel
theorem dL_number_37 : decode cL_number 37 = .ok (.iadd, 1) := by decide +kernel
theorem dL_number_38 : decode cL_number 38 = .ok (.iastore, 1) := by decide +kernel
theorem dL_number_39 : decode cL_number 39 = .ok (.iload_n 3, 1) := by decide +kernel
theorem dL_number_40 : decode cL_number 40 = .ok (.iconst 1, 1) := by decide +kernel
theorem dL_number_41 : decode cL_number 41 = .ok (.iadd, 1) := by decide +kernel
theorem dL_number_42 : decode cL_number 42 = .ok (.ireturn, 1) := by decide +kernel
def mL_number : MM := (yL_number, cL_number, 4, Option.some Jvm.ClassFile.FieldType.int, { frames := 0, cells := 0, slots := 0, locals := 0 })
def fL_number (σ : SS) (a0 : Nat) (a1 : Int32) (a2 : Int32) : Option (Int32 × SS) :=
  grd (lin σ a0 a1) <|
  vthen (sI σ a0 (Int32.toNatClampNeg a1) (32 : Int32)) fun σ2 =>
  vthen (fun (v3 : Int32) (σ4 : SS) =>
    grd (lin σ4 a0 v3) <|
    vthen (sI σ4 a0 (Int32.toNatClampNeg v3) ((48 : Int32) + (irm a2 (10 : Int32)))) fun σ6 =>
    some ((v3 + (1 : Int32)), σ6)
    ) fun j29 =>
  if a2 ≤ (9 : Int32) then (
    j29 (a1 + (1 : Int32)) σ2
    ) else (
    grd (lin σ2 a0 (a1 + (1 : Int32))) <|
    vthen (sI σ2 a0 (Int32.toNatClampNeg (a1 + (1 : Int32))) ((48 : Int32) + (a2 / (10 : Int32)))) fun σ8 =>
    j29 ((a1 + (1 : Int32)) + (1 : Int32)) σ8
    )

set_option maxRecDepth 20000 in
set_option maxHeartbeats 4000000 in
theorem sL_number {g : GG} {σ : SS} {a0 : Nat} {a1 : Int32} {a2 : Int32} {r : Int32 × SS} (hr : fL_number σ a0 a1 a2 = some r)  : Ct g mL_number [.ref (ad g a0), .int a1, .int a2] NF σ (some (.int r.1)) NF r.2 := by
  refine Ct.of (by decide +kernel) (nle rfl) fun hw0 => ?_
  have hw := hw0 rfl
  unfold fL_number at hr
  change RR g mL_number (FinR g mL_number (some (.int r.1)) NF r.2) (NF, 0, 0) 0 [(0, .ref (ad g a0)), (1, .int a1), (2, .int a2)] [] σ
  refine r_iload_n (pc := 0) (j := 1) dL_number_0 rfl rfl ?_
  refine r_istore_n (pc := 1) (ls1 := [(3, .int a1), (0, .ref (ad g a0)), (1, .int a1), (2, .int a2)]) dL_number_1 rfl (nle rfl) rfl ?_
  refine r_aload_n (pc := 2) (j := 1) dL_number_2 rfl rfl ?_
  refine r_iload_n (pc := 3) (j := 0) dL_number_3 rfl rfl ?_
  refine r_bipush (pc := 4) (v := (32 : Int32)) dL_number_4 rfl ?_
  obtain ⟨h1, hr⟩ := grd_inv hr
  refine y_iast (pc := 6) (j := (Int32.toNatClampNeg a1)) h1 rfl dL_number_6 fun σ2 eσ2 => ?_
  replace hr := vthen_inv hr σ2 eσ2
  have hσ2 := wtI eσ2 hw
  refine r_iinc (pc := 7) (j := 0) (v := (a1 + (1 : Int32))) (ls1 := [(3, .int (a1 + (1 : Int32))), (0, .ref (ad g a0)), (1, .int a1), (2, .int a2)]) dL_number_7 rfl rfl (nle rfl) rfl ?_
  refine r_iload_n (pc := 10) (j := 3) dL_number_10 rfl rfl ?_
  refine r_bipush (pc := 11) (v := (9 : Int32)) dL_number_11 rfl ?_
  obtain ⟨j29, ej29, hr⟩ := vth_ex hr
  have hj29 : ∀ (v3 : Int32) (σ4 : SS), j29 v3 σ4 = some r → WT σ4 → RR g mL_number (FinR g mL_number (some (.int r.1)) NF r.2) (NF, 0, 0) 29 [(0, .ref (ad g a0)), (2, .int a2), (3, .int v3)] [] σ4 := by
    intro v3 σ4 hr hσ4
    replace hr := (congrFun (congrFun ej29 v3) σ4).symm.trans hr
    refine r_aload_n (pc := 29) (j := 0) dL_number_29 rfl rfl ?_
    refine r_iload_n (pc := 30) (j := 2) dL_number_30 rfl rfl ?_
    refine r_bipush (pc := 31) (v := (48 : Int32)) dL_number_31 rfl ?_
    refine r_iload_n (pc := 33) (j := 1) dL_number_33 rfl rfl ?_
    refine r_bipush (pc := 34) (v := (10 : Int32)) dL_number_34 rfl ?_
    refine r_irem (pc := 36) dL_number_36 (by decide) ?_
    refine r_iadd (pc := 37) dL_number_37 ?_
    obtain ⟨h5, hr⟩ := grd_inv hr
    refine y_iast (pc := 38) (j := (Int32.toNatClampNeg v3)) h5 rfl dL_number_38 fun σ6 eσ6 => ?_
    replace hr := vthen_inv hr σ6 eσ6
    have hσ6 := wtI eσ6 hσ4
    refine r_iload_n (pc := 39) (j := 2) dL_number_39 rfl rfl ?_
    refine r_iconst (pc := 40) (v := (1 : Int32)) dL_number_40 rfl ?_
    refine r_iadd (pc := 41) dL_number_41 ?_
    exact l_osi hr (r_iret (pc := 42) (v := (v3 + (1 : Int32))) rfl rfl ⟨nle rfl, nle rfl⟩ dL_number_42)
  refine r_icmp_le (pc := 13) (tgt := 29) dL_number_13 rfl (fun hc => ?_) (fun hc => ?_)
  · replace hr := ite_t hc hr
    exact r_pick (ls1 := [(0, .ref (ad g a0)), (2, .int a2), (3, .int (a1 + (1 : Int32)))]) [1, 3, 0] rfl (hj29 (a1 + (1 : Int32)) σ2 hr hσ2)
  replace hr := ite_f hc hr
  refine r_aload_n (pc := 16) (j := 1) dL_number_16 rfl rfl ?_
  refine r_iload_n (pc := 17) (j := 0) dL_number_17 rfl rfl ?_
  refine r_bipush (pc := 18) (v := (48 : Int32)) dL_number_18 rfl ?_
  refine r_iload_n (pc := 20) (j := 3) dL_number_20 rfl rfl ?_
  refine r_bipush (pc := 21) (v := (10 : Int32)) dL_number_21 rfl ?_
  refine r_idiv (pc := 23) dL_number_23 (by decide) ?_
  refine r_iadd (pc := 24) dL_number_24 ?_
  obtain ⟨h7, hr⟩ := grd_inv hr
  refine y_iast (pc := 25) (j := (Int32.toNatClampNeg (a1 + (1 : Int32)))) h7 rfl dL_number_25 fun σ8 eσ8 => ?_
  replace hr := vthen_inv hr σ8 eσ8
  have hσ8 := wtI eσ8 hσ2
  refine r_iinc (pc := 26) (j := 0) (v := ((a1 + (1 : Int32)) + (1 : Int32))) (ls1 := [(3, .int ((a1 + (1 : Int32)) + (1 : Int32))), (0, .ref (ad g a0)), (1, .int a1), (2, .int a2)]) dL_number_26 rfl rfl (nle rfl) rfl ?_
  exact r_pick (ls1 := [(0, .ref (ad g a0)), (2, .int a2), (3, .int ((a1 + (1 : Int32)) + (1 : Int32)))]) [1, 3, 0] rfl (hj29 ((a1 + (1 : Int32)) + (1 : Int32)) σ8 hr hσ8)

theorem qL_number {g : GG} {σ : SS} {a0 : Nat} {a1 : Int32} {a2 : Int32} {v : Int32} {σ2 : SS} {M : MM} {F : State → Array Value → List Frame → State → Prop} {zc zs pc index : Nat} {ls : List (Nat × Value)} {rest : List Value} (hf : fL_number σ a0 a1 a2 = some (v, σ2))  (hl : Cond.methodLink M.1.cls index yL_number ∈ lw_gt) (hz : zc ≤ M.2.2.2.2.cells ∧ zs ≤ M.2.2.2.2.slots) (hR : mL_number.2.2.2.2.frames + 1 ≤ M.2.2.2.2.frames ∧ 8 + (mL_number.2.2.1 + 11) + mL_number.2.2.2.2.locals ≤ M.2.2.2.2.locals) (hrest : (rest.map fun v => v.category).sum ≤ 8) (hd : decode M.2.1 pc = .ok (.invokestatic index, 3)) (k : WT σ2 → RR g M F (NF, zc, zs) (pc + 3) ls (.int v :: rest) σ2) : RR g M F (NF, zc, zs) pc ls (.int a2 :: .int a1 :: .ref (ad g a0) :: rest) σ :=
  r_callS (z := (NF, zc, zs)) (N := mL_number) (nn := 3) (o1 := some (.int v)) (sL_number hf ) tw_3_137 tw_1_0 hl tw_3_136 ⟨by decide, by decide, rfl⟩ hR rfl hrest hd hz rfl (fun h => k (h rfl))

theorem dL_isOver_0 : decode cL_isOver 0 = .ok (.iconst 0, 1) := by decide +kernel
theorem dL_isOver_1 : decode cL_isOver 1 = .ok (.istore 4, 2) := by decide +kernel
theorem dL_isOver_3 : decode cL_isOver 3 = .ok (.iload 4, 2) := by decide +kernel
theorem dL_isOver_5 : decode cL_isOver 5 = .ok (.iload_n 1, 1) := by decide +kernel
theorem dL_isOver_6 : decode cL_isOver 6 = .ok (.if_icmp .ge 109, 3) := by decide +kernel
theorem dL_isOver_9 : decode cL_isOver 9 = .ok (.iconst 0, 1) := by decide +kernel
theorem dL_isOver_10 : decode cL_isOver 10 = .ok (.istore 5, 2) := by decide +kernel
theorem dL_isOver_12 : decode cL_isOver 12 = .ok (.iload 5, 2) := by decide +kernel
theorem dL_isOver_14 : decode cL_isOver 14 = .ok (.aload_n 0, 1) := by decide +kernel
theorem dL_isOver_15 : decode cL_isOver 15 = .ok (.bipush 17, 2) := by decide +kernel
theorem dL_isOver_17 : decode cL_isOver 17 = .ok (.bipush 16, 2) := by decide +kernel
theorem dL_isOver_19 : decode cL_isOver 19 = .ok (.iload 4, 2) := by decide +kernel
theorem dL_isOver_21 : decode cL_isOver 21 = .ok (.imul, 1) := by decide +kernel
theorem dL_isOver_22 : decode cL_isOver 22 = .ok (.iadd, 1) := by decide +kernel
theorem dL_isOver_23 : decode cL_isOver 23 = .ok (.iaload, 1) := by decide +kernel
theorem dL_isOver_24 : decode cL_isOver 24 = .ok (.if_icmp .ge 85, 3) := by decide +kernel
theorem dL_isOver_27 : decode cL_isOver 27 = .ok (.aload_n 0, 1) := by decide +kernel
theorem dL_isOver_28 : decode cL_isOver 28 = .ok (.bipush 20, 2) := by decide +kernel
theorem dL_isOver_30 : decode cL_isOver 30 = .ok (.bipush 16, 2) := by decide +kernel
theorem dL_isOver_32 : decode cL_isOver 32 = .ok (.iload 4, 2) := by decide +kernel
theorem dL_isOver_34 : decode cL_isOver 34 = .ok (.imul, 1) := by decide +kernel
theorem dL_isOver_35 : decode cL_isOver 35 = .ok (.iadd, 1) := by decide +kernel
theorem dL_isOver_36 : decode cL_isOver 36 = .ok (.iconst 2, 1) := by decide +kernel
theorem dL_isOver_37 : decode cL_isOver 37 = .ok (.iload 5, 2) := by decide +kernel
theorem dL_isOver_39 : decode cL_isOver 39 = .ok (.imul, 1) := by decide +kernel
theorem dL_isOver_40 : decode cL_isOver 40 = .ok (.iadd, 1) := by decide +kernel
theorem dL_isOver_41 : decode cL_isOver 41 = .ok (.iaload, 1) := by decide +kernel
theorem dL_isOver_42 : decode cL_isOver 42 = .ok (.istore 6, 2) := by decide +kernel
theorem dL_isOver_44 : decode cL_isOver 44 = .ok (.aload_n 0, 1) := by decide +kernel
theorem dL_isOver_45 : decode cL_isOver 45 = .ok (.bipush 21, 2) := by decide +kernel
theorem dL_isOver_47 : decode cL_isOver 47 = .ok (.bipush 16, 2) := by decide +kernel
theorem dL_isOver_49 : decode cL_isOver 49 = .ok (.iload 4, 2) := by decide +kernel
theorem dL_isOver_51 : decode cL_isOver 51 = .ok (.imul, 1) := by decide +kernel
theorem dL_isOver_52 : decode cL_isOver 52 = .ok (.iadd, 1) := by decide +kernel
theorem dL_isOver_53 : decode cL_isOver 53 = .ok (.iconst 2, 1) := by decide +kernel
theorem dL_isOver_54 : decode cL_isOver 54 = .ok (.iload 5, 2) := by decide +kernel
theorem dL_isOver_56 : decode cL_isOver 56 = .ok (.imul, 1) := by decide +kernel
theorem dL_isOver_57 : decode cL_isOver 57 = .ok (.iadd, 1) := by decide +kernel
theorem dL_isOver_58 : decode cL_isOver 58 = .ok (.iaload, 1) := by decide +kernel
theorem dL_isOver_59 : decode cL_isOver 59 = .ok (.istore 7, 2) := by decide +kernel
theorem dL_isOver_61 : decode cL_isOver 61 = .ok (.iload_n 2, 1) := by decide +kernel
theorem dL_isOver_62 : decode cL_isOver 62 = .ok (.iload 6, 2) := by decide +kernel
theorem dL_isOver_64 : decode cL_isOver 64 = .ok (.aload_n 0, 1) := by decide +kernel
theorem dL_isOver_65 : decode cL_isOver 65 = .ok (.iconst 1, 1) := by decide +kernel
theorem dL_isOver_66 : decode cL_isOver 66 = .ok (.iaload, 1) := by decide +kernel
theorem dL_isOver_67 : decode cL_isOver 67 = .ok (.iadd, 1) := by decide +kernel
theorem dL_isOver_68 : decode cL_isOver 68 = .ok (.if_icmp .ge 35, 3) := by decide +kernel
theorem dL_isOver_71 : decode cL_isOver 71 = .ok (.iload 6, 2) := by decide +kernel
theorem dL_isOver_73 : decode cL_isOver 73 = .ok (.iload_n 2, 1) := by decide +kernel
theorem dL_isOver_74 : decode cL_isOver 74 = .ok (.aload_n 0, 1) := by decide +kernel
theorem dL_isOver_75 : decode cL_isOver 75 = .ok (.iconst 1, 1) := by decide +kernel
theorem dL_isOver_76 : decode cL_isOver 76 = .ok (.iaload, 1) := by decide +kernel
theorem dL_isOver_77 : decode cL_isOver 77 = .ok (.iadd, 1) := by decide +kernel
theorem dL_isOver_78 : decode cL_isOver 78 = .ok (.if_icmp .ge 25, 3) := by decide +kernel
theorem dL_isOver_81 : decode cL_isOver 81 = .ok (.iload_n 3, 1) := by decide +kernel
theorem dL_isOver_82 : decode cL_isOver 82 = .ok (.iload 7, 2) := by decide +kernel
theorem dL_isOver_84 : decode cL_isOver 84 = .ok (.aload_n 0, 1) := by decide +kernel
theorem dL_isOver_85 : decode cL_isOver 85 = .ok (.iconst 2, 1) := by decide +kernel
theorem dL_isOver_86 : decode cL_isOver 86 = .ok (.iaload, 1) := by decide +kernel
theorem dL_isOver_87 : decode cL_isOver 87 = .ok (.iadd, 1) := by decide +kernel
theorem dL_isOver_88 : decode cL_isOver 88 = .ok (.if_icmp .ge 15, 3) := by decide +kernel
theorem dL_isOver_91 : decode cL_isOver 91 = .ok (.iload 7, 2) := by decide +kernel
theorem dL_isOver_93 : decode cL_isOver 93 = .ok (.iload_n 3, 1) := by decide +kernel
theorem dL_isOver_94 : decode cL_isOver 94 = .ok (.aload_n 0, 1) := by decide +kernel
theorem dL_isOver_95 : decode cL_isOver 95 = .ok (.iconst 2, 1) := by decide +kernel
theorem dL_isOver_96 : decode cL_isOver 96 = .ok (.iaload, 1) := by decide +kernel
theorem dL_isOver_97 : decode cL_isOver 97 = .ok (.iadd, 1) := by decide +kernel
theorem dL_isOver_98 : decode cL_isOver 98 = .ok (.if_icmp .ge 5, 3) := by decide +kernel
theorem dL_isOver_101 : decode cL_isOver 101 = .ok (.iconst 1, 1) := by decide +kernel
theorem dL_isOver_102 : decode cL_isOver 102 = .ok (.ireturn, 1) := by decide +kernel
theorem dL_isOver_103 : decode cL_isOver 103 = .ok (.iinc 5 1, 3) := by decide +kernel
theorem dL_isOver_106 : decode cL_isOver 106 = .ok (.goto (-94), 3) := by decide +kernel
theorem dL_isOver_109 : decode cL_isOver 109 = .ok (.iinc 4 1, 3) := by decide +kernel
theorem dL_isOver_112 : decode cL_isOver 112 = .ok (.goto (-109), 3) := by decide +kernel
theorem dL_isOver_115 : decode cL_isOver 115 = .ok (.iconst 0, 1) := by decide +kernel
theorem dL_isOver_116 : decode cL_isOver 116 = .ok (.ireturn, 1) := by decide +kernel
def mL_isOver : MM := (yL_isOver, cL_isOver, 8, Option.some Jvm.ClassFile.FieldType.boolean, { frames := 0, cells := 0, slots := 0, locals := 0 })
def L_isOver_L12 (σ_ : SS) (o0_ : Nat) (u2_ : Int32) (u3_ : Int32) (u4_ : Int32) (k109 : Unit → Option Bool) : Nat → Int32 → Option Bool :=
  lp (fun _ => none) fun rec v5_ =>
    grd (lin σ_ o0_ ((17 : Int32) + ((16 : Int32) * u4_))) <|
    if (gI σ_ o0_ (Int32.toNatClampNeg ((17 : Int32) + ((16 : Int32) * u4_)))) ≤ v5_ then (
      k109 ()
      ) else (
      grd (lin σ_ o0_ (((20 : Int32) + ((16 : Int32) * u4_)) + ((2 : Int32) * v5_))) <|
      vthen (gI σ_ o0_ (Int32.toNatClampNeg (((20 : Int32) + ((16 : Int32) * u4_)) + ((2 : Int32) * v5_)))) fun v3 =>
      grd (lin σ_ o0_ (((21 : Int32) + ((16 : Int32) * u4_)) + ((2 : Int32) * v5_))) <|
      vthen (gI σ_ o0_ (Int32.toNatClampNeg (((21 : Int32) + ((16 : Int32) * u4_)) + ((2 : Int32) * v5_)))) fun v5 =>
      grd (lin σ_ o0_ (1 : Int32)) <|
      if (v3 + (gI σ_ o0_ 1)) ≤ u2_ then (
        rec (v5_ + (1 : Int32))
        ) else (
        if (u2_ + (gI σ_ o0_ 1)) ≤ v3 then (
          rec (v5_ + (1 : Int32))
          ) else (
          grd (lin σ_ o0_ (2 : Int32)) <|
          if (v5 + (gI σ_ o0_ 2)) ≤ u3_ then (
            rec (v5_ + (1 : Int32))
            ) else (
            if (u3_ + (gI σ_ o0_ 2)) ≤ v5 then (
              rec (v5_ + (1 : Int32))
              ) else (
              some true
              )
            )
          )
        )
      )

def L_isOver_L3 (σ_ : SS) (o0_ : Nat) (u1_ : Int32) (u2_ : Int32) (u3_ : Int32)  : Nat → Int32 → Option Bool :=
  lp (fun _ => none) fun rec v4_ =>
    if u1_ ≤ v4_ then (
      some false
      ) else (
      L_isOver_L12 σ_ o0_ u2_ u3_ v4_
      (fun _ =>
        rec (v4_ + (1 : Int32))
        )
      fuel (0 : Int32)
      )

def fL_isOver (σ0 : SS) (a0 : Nat) (a1 : Int32) (a2 : Int32) (a3 : Int32) : Option Bool :=
  L_isOver_L3 σ0 a0 a1 a2 a3
  fuel (0 : Int32)

set_option maxRecDepth 20000 in
theorem sL_isOver_L12 {g : GG} {r : Bool} {σ_ : SS} {σ0 : SS} {o0_ : Nat} {x1_ : Int32} {u2_ : Int32} {u3_ : Int32} {u4_ : Int32} {zc_ zs_ : Nat} {k109 : Unit → Option Bool} (hz_ : zc_ ≤ mL_isOver.2.2.2.2.cells ∧ zs_ ≤ mL_isOver.2.2.2.2.slots)
    (hw_ : WT σ_)
    (h0_ : σ_ = σ0)
    (hk109 : k109 () = some r → RR g mL_isOver (FinR g mL_isOver (some (.int (b2i r))) NF σ0) (NF, zc_, zs_) 109 [(0, .ref (ad g o0_)), (1, .int x1_), (2, .int u2_), (3, .int u3_), (4, .int u4_)] [] σ_)
    (n : Nat) : ∀ (v5_ : Int32), L_isOver_L12 σ_ o0_ u2_ u3_ u4_ k109 n v5_ = some r → RR g mL_isOver (FinR g mL_isOver (some (.int (b2i r))) NF σ0) (NF, zc_, zs_) 12 [(0, .ref (ad g o0_)), (1, .int x1_), (2, .int u2_), (3, .int u3_), (4, .int u4_), (5, .int v5_)] [] σ_ := by
  unfold L_isOver_L12
  refine lp_ind (P := fun (rec : Int32 → Option Bool) => ∀ (v5_ : Int32), rec v5_ = some r → RR g mL_isOver (FinR g mL_isOver (some (.int (b2i r))) NF σ0) (NF, zc_, zs_) 12 [(0, .ref (ad g o0_)), (1, .int x1_), (2, .int u2_), (3, .int u3_), (4, .int u4_), (5, .int v5_)] [] σ_) ?_ ?_ n
  · intro v5_ hr; cases hr
  intro rec ih v5_ hr
  subst h0_
  refine r_iload (pc := 12) (j := 5) dL_isOver_12 rfl ?_
  refine r_aload_n (pc := 14) (j := 0) dL_isOver_14 rfl rfl ?_
  refine r_bipush (pc := 15) (v := (17 : Int32)) dL_isOver_15 rfl ?_
  refine r_bipush (pc := 17) (v := (16 : Int32)) dL_isOver_17 rfl ?_
  refine r_iload (pc := 19) (j := 4) dL_isOver_19 rfl ?_
  refine r_imul (pc := 21) dL_isOver_21 ?_
  refine r_iadd (pc := 22) dL_isOver_22 ?_
  obtain ⟨h1, hr⟩ := grd_inv hr
  refine y_iald (pc := 23) (k := (Int32.toNatClampNeg ((17 : Int32) + ((16 : Int32) * u4_)))) h1 rfl dL_isOver_23 ?_
  refine r_icmp_ge (pc := 24) (tgt := 109) dL_isOver_24 rfl (fun hc => ?_) (fun hc => ?_)
  · replace hr := ite_t hc hr
    exact r_pick (ls1 := [(0, .ref (ad g o0_)), (1, .int x1_), (2, .int u2_), (3, .int u3_), (4, .int u4_)]) [0, 1, 2, 3, 4] rfl (hk109  hr)
  replace hr := ite_f hc hr
  refine r_aload_n (pc := 27) (j := 0) dL_isOver_27 rfl rfl ?_
  refine r_bipush (pc := 28) (v := (20 : Int32)) dL_isOver_28 rfl ?_
  refine r_bipush (pc := 30) (v := (16 : Int32)) dL_isOver_30 rfl ?_
  refine r_iload (pc := 32) (j := 4) dL_isOver_32 rfl ?_
  refine r_imul (pc := 34) dL_isOver_34 ?_
  refine r_iadd (pc := 35) dL_isOver_35 ?_
  refine r_iconst (pc := 36) (v := (2 : Int32)) dL_isOver_36 rfl ?_
  refine r_iload (pc := 37) (j := 5) dL_isOver_37 rfl ?_
  refine r_imul (pc := 39) dL_isOver_39 ?_
  refine r_iadd (pc := 40) dL_isOver_40 ?_
  obtain ⟨h2, hr⟩ := grd_inv hr
  refine y_iald (pc := 41) (k := (Int32.toNatClampNeg (((20 : Int32) + ((16 : Int32) * u4_)) + ((2 : Int32) * v5_)))) h2 rfl dL_isOver_41 ?_
  refine r_topi fun v3 ev3 => ?_
  replace hr := vthen_inv hr v3 ev3
  refine r_istore (pc := 42) (ls1 := [(6, .int v3), (0, .ref (ad g o0_)), (1, .int x1_), (2, .int u2_), (3, .int u3_), (4, .int u4_), (5, .int v5_)]) dL_isOver_42 (nle rfl) rfl ?_
  refine r_aload_n (pc := 44) (j := 1) dL_isOver_44 rfl rfl ?_
  refine r_bipush (pc := 45) (v := (21 : Int32)) dL_isOver_45 rfl ?_
  refine r_bipush (pc := 47) (v := (16 : Int32)) dL_isOver_47 rfl ?_
  refine r_iload (pc := 49) (j := 5) dL_isOver_49 rfl ?_
  refine r_imul (pc := 51) dL_isOver_51 ?_
  refine r_iadd (pc := 52) dL_isOver_52 ?_
  refine r_iconst (pc := 53) (v := (2 : Int32)) dL_isOver_53 rfl ?_
  refine r_iload (pc := 54) (j := 6) dL_isOver_54 rfl ?_
  refine r_imul (pc := 56) dL_isOver_56 ?_
  refine r_iadd (pc := 57) dL_isOver_57 ?_
  obtain ⟨h4, hr⟩ := grd_inv hr
  refine y_iald (pc := 58) (k := (Int32.toNatClampNeg (((21 : Int32) + ((16 : Int32) * u4_)) + ((2 : Int32) * v5_)))) h4 rfl dL_isOver_58 ?_
  refine r_topi fun v5 ev5 => ?_
  replace hr := vthen_inv hr v5 ev5
  refine r_istore (pc := 59) (ls1 := [(7, .int v5), (6, .int v3), (0, .ref (ad g o0_)), (1, .int x1_), (2, .int u2_), (3, .int u3_), (4, .int u4_), (5, .int v5_)]) dL_isOver_59 (nle rfl) rfl ?_
  refine r_iload_n (pc := 61) (j := 4) dL_isOver_61 rfl rfl ?_
  refine r_iload (pc := 62) (j := 1) dL_isOver_62 rfl ?_
  refine r_aload_n (pc := 64) (j := 2) dL_isOver_64 rfl rfl ?_
  refine r_iconst (pc := 65) (v := (1 : Int32)) dL_isOver_65 rfl ?_
  obtain ⟨h6, hr⟩ := grd_inv hr
  refine y_iald (pc := 66) (k := 1) h6 rfl dL_isOver_66 ?_
  refine r_iadd (pc := 67) dL_isOver_67 ?_
  refine r_icmp_ge (pc := 68) (tgt := 103) dL_isOver_68 rfl (fun hc => ?_) (fun hc => ?_)
  · replace hr := ite_t hc hr
    refine r_iinc (pc := 103) (j := 7) (v := (v5_ + (1 : Int32))) (ls1 := [(5, .int (v5_ + (1 : Int32))), (7, .int v5), (6, .int v3), (0, .ref (ad g o0_)), (1, .int x1_), (2, .int u2_), (3, .int u3_), (4, .int u4_)]) dL_isOver_103 rfl rfl (nle rfl) rfl ?_
    refine r_goto (pc := 106) (tgt := 12) dL_isOver_106 rfl ?_
    exact r_pick (ls1 := [(0, .ref (ad g o0_)), (1, .int x1_), (2, .int u2_), (3, .int u3_), (4, .int u4_), (5, .int (v5_ + (1 : Int32)))]) [3, 4, 5, 6, 7, 0] rfl (ih (v5_ + (1 : Int32)) hr)
  replace hr := ite_f hc hr
  refine r_iload (pc := 71) (j := 1) dL_isOver_71 rfl ?_
  refine r_iload_n (pc := 73) (j := 4) dL_isOver_73 rfl rfl ?_
  refine r_aload_n (pc := 74) (j := 2) dL_isOver_74 rfl rfl ?_
  refine r_iconst (pc := 75) (v := (1 : Int32)) dL_isOver_75 rfl ?_
  refine y_iald (pc := 76) (k := 1) h6 rfl dL_isOver_76 ?_
  refine r_iadd (pc := 77) dL_isOver_77 ?_
  refine r_icmp_ge (pc := 78) (tgt := 103) dL_isOver_78 rfl (fun hc => ?_) (fun hc => ?_)
  · replace hr := ite_t hc hr
    refine r_iinc (pc := 103) (j := 7) (v := (v5_ + (1 : Int32))) (ls1 := [(5, .int (v5_ + (1 : Int32))), (7, .int v5), (6, .int v3), (0, .ref (ad g o0_)), (1, .int x1_), (2, .int u2_), (3, .int u3_), (4, .int u4_)]) dL_isOver_103 rfl rfl (nle rfl) rfl ?_
    refine r_goto (pc := 106) (tgt := 12) dL_isOver_106 rfl ?_
    exact r_pick (ls1 := [(0, .ref (ad g o0_)), (1, .int x1_), (2, .int u2_), (3, .int u3_), (4, .int u4_), (5, .int (v5_ + (1 : Int32)))]) [3, 4, 5, 6, 7, 0] rfl (ih (v5_ + (1 : Int32)) hr)
  replace hr := ite_f hc hr
  refine r_iload_n (pc := 81) (j := 5) dL_isOver_81 rfl rfl ?_
  refine r_iload (pc := 82) (j := 0) dL_isOver_82 rfl ?_
  refine r_aload_n (pc := 84) (j := 2) dL_isOver_84 rfl rfl ?_
  refine r_iconst (pc := 85) (v := (2 : Int32)) dL_isOver_85 rfl ?_
  obtain ⟨h7, hr⟩ := grd_inv hr
  refine y_iald (pc := 86) (k := 2) h7 rfl dL_isOver_86 ?_
  refine r_iadd (pc := 87) dL_isOver_87 ?_
  refine r_icmp_ge (pc := 88) (tgt := 103) dL_isOver_88 rfl (fun hc => ?_) (fun hc => ?_)
  · replace hr := ite_t hc hr
    refine r_iinc (pc := 103) (j := 7) (v := (v5_ + (1 : Int32))) (ls1 := [(5, .int (v5_ + (1 : Int32))), (7, .int v5), (6, .int v3), (0, .ref (ad g o0_)), (1, .int x1_), (2, .int u2_), (3, .int u3_), (4, .int u4_)]) dL_isOver_103 rfl rfl (nle rfl) rfl ?_
    refine r_goto (pc := 106) (tgt := 12) dL_isOver_106 rfl ?_
    exact r_pick (ls1 := [(0, .ref (ad g o0_)), (1, .int x1_), (2, .int u2_), (3, .int u3_), (4, .int u4_), (5, .int (v5_ + (1 : Int32)))]) [3, 4, 5, 6, 7, 0] rfl (ih (v5_ + (1 : Int32)) hr)
  replace hr := ite_f hc hr
  refine r_iload (pc := 91) (j := 0) dL_isOver_91 rfl ?_
  refine r_iload_n (pc := 93) (j := 5) dL_isOver_93 rfl rfl ?_
  refine r_aload_n (pc := 94) (j := 2) dL_isOver_94 rfl rfl ?_
  refine r_iconst (pc := 95) (v := (2 : Int32)) dL_isOver_95 rfl ?_
  refine y_iald (pc := 96) (k := 2) h7 rfl dL_isOver_96 ?_
  refine r_iadd (pc := 97) dL_isOver_97 ?_
  refine r_icmp_ge (pc := 98) (tgt := 103) dL_isOver_98 rfl (fun hc => ?_) (fun hc => ?_)
  · replace hr := ite_t hc hr
    refine r_iinc (pc := 103) (j := 7) (v := (v5_ + (1 : Int32))) (ls1 := [(5, .int (v5_ + (1 : Int32))), (7, .int v5), (6, .int v3), (0, .ref (ad g o0_)), (1, .int x1_), (2, .int u2_), (3, .int u3_), (4, .int u4_)]) dL_isOver_103 rfl rfl (nle rfl) rfl ?_
    refine r_goto (pc := 106) (tgt := 12) dL_isOver_106 rfl ?_
    exact r_pick (ls1 := [(0, .ref (ad g o0_)), (1, .int x1_), (2, .int u2_), (3, .int u3_), (4, .int u4_), (5, .int (v5_ + (1 : Int32)))]) [3, 4, 5, 6, 7, 0] rfl (ih (v5_ + (1 : Int32)) hr)
  replace hr := ite_f hc hr
  refine r_iconst (pc := 101) (v := (1 : Int32)) dL_isOver_101 rfl ?_
  exact l_opz hr (r_zret (pc := 102) (v := b2i true) (ty := .boolean) rfl (b2i_nar _) rfl hz_ dL_isOver_102)

set_option maxRecDepth 20000 in
theorem sL_isOver_L3 {g : GG} {r : Bool} {σ_ : SS} {σ0 : SS} {o0_ : Nat} {u1_ : Int32} {u2_ : Int32} {u3_ : Int32} {zc_ zs_ : Nat}  (hz_ : zc_ ≤ mL_isOver.2.2.2.2.cells ∧ zs_ ≤ mL_isOver.2.2.2.2.slots)
    (hw_ : WT σ_)
    (h0_ : σ_ = σ0)
    (n : Nat) : ∀ (v4_ : Int32), L_isOver_L3 σ_ o0_ u1_ u2_ u3_ n v4_ = some r → RR g mL_isOver (FinR g mL_isOver (some (.int (b2i r))) NF σ0) (NF, zc_, zs_) 3 [(0, .ref (ad g o0_)), (1, .int u1_), (2, .int u2_), (3, .int u3_), (4, .int v4_)] [] σ_ := by
  unfold L_isOver_L3
  refine lp_ind (P := fun (rec : Int32 → Option Bool) => ∀ (v4_ : Int32), rec v4_ = some r → RR g mL_isOver (FinR g mL_isOver (some (.int (b2i r))) NF σ0) (NF, zc_, zs_) 3 [(0, .ref (ad g o0_)), (1, .int u1_), (2, .int u2_), (3, .int u3_), (4, .int v4_)] [] σ_) ?_ ?_ n
  · intro v4_ hr; cases hr
  intro rec ih v4_ hr
  subst h0_
  refine r_iload (pc := 3) (j := 4) dL_isOver_3 rfl ?_
  refine r_iload_n (pc := 5) (j := 1) dL_isOver_5 rfl rfl ?_
  refine r_icmp_ge (pc := 6) (tgt := 115) dL_isOver_6 rfl (fun hc => ?_) (fun hc => ?_)
  · replace hr := ite_t hc hr
    refine r_iconst (pc := 115) (v := (0 : Int32)) dL_isOver_115 rfl ?_
    exact l_opz hr (r_zret (pc := 116) (v := b2i false) (ty := .boolean) rfl (b2i_nar _) rfl hz_ dL_isOver_116)
  replace hr := ite_f hc hr
  refine r_iconst (pc := 9) (v := (0 : Int32)) dL_isOver_9 rfl ?_
  refine r_istore (pc := 10) (ls1 := [(5, .int (0 : Int32)), (0, .ref (ad g o0_)), (1, .int u1_), (2, .int u2_), (3, .int u3_), (4, .int v4_)]) dL_isOver_10 (nle rfl) rfl ?_
  refine r_pick (ls1 := [(0, .ref (ad g o0_)), (1, .int u1_), (2, .int u2_), (3, .int u3_), (4, .int v4_), (5, .int (0 : Int32))]) [1, 2, 3, 4, 5, 0] rfl ?_
  refine sL_isOver_L12 hz_ hw_ rfl (fun hr => ?_) fuel (0 : Int32) hr
  refine r_iinc (pc := 109) (j := 4) (v := (v4_ + (1 : Int32))) (ls1 := [(4, .int (v4_ + (1 : Int32))), (0, .ref (ad g o0_)), (1, .int u1_), (2, .int u2_), (3, .int u3_)]) dL_isOver_109 rfl rfl (nle rfl) rfl ?_
  refine r_goto (pc := 112) (tgt := 3) dL_isOver_112 rfl ?_
  exact r_pick (ls1 := [(0, .ref (ad g o0_)), (1, .int u1_), (2, .int u2_), (3, .int u3_), (4, .int (v4_ + (1 : Int32)))]) [1, 2, 3, 4, 0] rfl (ih (v4_ + (1 : Int32)) hr)

set_option maxRecDepth 20000 in
set_option maxHeartbeats 4000000 in
theorem sL_isOver {g : GG} {σ0 : SS} {a0 : Nat} {a1 : Int32} {a2 : Int32} {a3 : Int32} {r : Bool} (hr : fL_isOver σ0 a0 a1 a2 a3 = some r)  : Ct g mL_isOver [.ref (ad g a0), .int a1, .int a2, .int a3] NF σ0 (some (.int (b2i r))) NF σ0 := by
  refine Ct.of (by decide +kernel) (nle rfl) fun hw0 => ?_
  have hw := hw0 rfl
  unfold fL_isOver at hr
  change RR g mL_isOver (FinR g mL_isOver (some (.int (b2i r))) NF σ0) (NF, 0, 0) 0 [(0, .ref (ad g a0)), (1, .int a1), (2, .int a2), (3, .int a3)] [] σ0
  refine r_iconst (pc := 0) (v := (0 : Int32)) dL_isOver_0 rfl ?_
  refine r_istore (pc := 1) (ls1 := [(4, .int (0 : Int32)), (0, .ref (ad g a0)), (1, .int a1), (2, .int a2), (3, .int a3)]) dL_isOver_1 (nle rfl) rfl ?_
  refine r_pick (ls1 := [(0, .ref (ad g a0)), (1, .int a1), (2, .int a2), (3, .int a3), (4, .int (0 : Int32))]) [1, 2, 3, 4, 0] rfl ?_
  refine sL_isOver_L3 ⟨nle rfl, nle rfl⟩ hw rfl  fuel (0 : Int32) hr

theorem qL_isOver {g : GG} {σ0 : SS} {a0 : Nat} {a1 : Int32} {a2 : Int32} {a3 : Int32} {v : Bool} {M : MM} {F : State → Array Value → List Frame → State → Prop} {zc zs pc index : Nat} {ls : List (Nat × Value)} {rest : List Value} (hf : fL_isOver σ0 a0 a1 a2 a3 = some v)  (hl : Cond.methodLink M.1.cls index yL_isOver ∈ lw_gt) (hz : zc ≤ M.2.2.2.2.cells ∧ zs ≤ M.2.2.2.2.slots) (hR : mL_isOver.2.2.2.2.frames + 1 ≤ M.2.2.2.2.frames ∧ 8 + (mL_isOver.2.2.1 + 11) + mL_isOver.2.2.2.2.locals ≤ M.2.2.2.2.locals) (hrest : (rest.map fun v => v.category).sum ≤ 8) (hd : decode M.2.1 pc = .ok (.invokestatic index, 3)) (k : RR g M F (NF, zc, zs) (pc + 3) ls (.int (b2i v) :: rest) σ0) : RR g M F (NF, zc, zs) pc ls (.int a3 :: .int a2 :: .int a1 :: .ref (ad g a0) :: rest) σ0 :=
  r_callS (z := (NF, zc, zs)) (N := mL_isOver) (nn := 4) (o1 := some (.int (b2i v))) (sL_isOver hf ) tw_3_140 tw_1_0 hl tw_3_139 ⟨by decide, by decide, rfl⟩ hR rfl hrest hd hz rfl (fun h => k)

theorem dL_tell_0 : decode cL_tell 0 = .ok (.iconst 0, 1) := by decide +kernel
theorem dL_tell_1 : decode cL_tell 1 = .ok (.istore_n 3, 1) := by decide +kernel
theorem dL_tell_2 : decode cL_tell 2 = .ok (.iload_n 3, 1) := by decide +kernel
theorem dL_tell_3 : decode cL_tell 3 = .ok (.iload_n 2, 1) := by decide +kernel
theorem dL_tell_4 : decode cL_tell 4 = .ok (.if_icmp .ge 115, 3) := by decide +kernel
theorem dL_tell_7 : decode cL_tell 7 = .ok (.iconst 5, 1) := by decide +kernel
theorem dL_tell_8 : decode cL_tell 8 = .ok (.newarray .int, 2) := by decide +kernel
theorem dL_tell_10 : decode cL_tell 10 = .ok (.dup, 1) := by decide +kernel
theorem dL_tell_11 : decode cL_tell 11 = .ok (.iconst 0, 1) := by decide +kernel
theorem dL_tell_12 : decode cL_tell 12 = .ok (.iconst 0, 1) := by decide +kernel
theorem dL_tell_13 : decode cL_tell 13 = .ok (.iastore, 1) := by decide +kernel
theorem dL_tell_14 : decode cL_tell 14 = .ok (.dup, 1) := by decide +kernel
theorem dL_tell_15 : decode cL_tell 15 = .ok (.iconst 1, 1) := by decide +kernel
theorem dL_tell_16 : decode cL_tell 16 = .ok (.iconst 0, 1) := by decide +kernel
theorem dL_tell_17 : decode cL_tell 17 = .ok (.iastore, 1) := by decide +kernel
theorem dL_tell_18 : decode cL_tell 18 = .ok (.dup, 1) := by decide +kernel
theorem dL_tell_19 : decode cL_tell 19 = .ok (.iconst 2, 1) := by decide +kernel
theorem dL_tell_20 : decode cL_tell 20 = .ok (.iconst 0, 1) := by decide +kernel
theorem dL_tell_21 : decode cL_tell 21 = .ok (.iastore, 1) := by decide +kernel
theorem dL_tell_22 : decode cL_tell 22 = .ok (.dup, 1) := by decide +kernel
theorem dL_tell_23 : decode cL_tell 23 = .ok (.iconst 3, 1) := by decide +kernel
theorem dL_tell_24 : decode cL_tell 24 = .ok (.iconst 0, 1) := by decide +kernel
theorem dL_tell_25 : decode cL_tell 25 = .ok (.iastore, 1) := by decide +kernel
theorem dL_tell_26 : decode cL_tell 26 = .ok (.dup, 1) := by decide +kernel
theorem dL_tell_27 : decode cL_tell 27 = .ok (.iconst 4, 1) := by decide +kernel
theorem dL_tell_28 : decode cL_tell 28 = .ok (.iconst 0, 1) := by decide +kernel
theorem dL_tell_29 : decode cL_tell 29 = .ok (.iastore, 1) := by decide +kernel
theorem dL_tell_30 : decode cL_tell 30 = .ok (.astore 4, 2) := by decide +kernel
theorem dL_tell_32 : decode cL_tell 32 = .ok (.iconst 0, 1) := by decide +kernel
theorem dL_tell_33 : decode cL_tell 33 = .ok (.istore 5, 2) := by decide +kernel
theorem dL_tell_35 : decode cL_tell 35 = .ok (.iload 5, 2) := by decide +kernel
theorem dL_tell_37 : decode cL_tell 37 = .ok (.bipush 20, 2) := by decide +kernel
theorem dL_tell_39 : decode cL_tell 39 = .ok (.if_icmp .ge 49, 3) := by decide +kernel
theorem dL_tell_42 : decode cL_tell 42 = .ok (.aload 4, 2) := by decide +kernel
theorem dL_tell_44 : decode cL_tell 44 = .ok (.iload 5, 2) := by decide +kernel
theorem dL_tell_46 : decode cL_tell 46 = .ok (.iconst 4, 1) := by decide +kernel
theorem dL_tell_47 : decode cL_tell 47 = .ok (.idiv, 1) := by decide +kernel
theorem dL_tell_48 : decode cL_tell 48 = .ok (.aload 4, 2) := by decide +kernel
theorem dL_tell_50 : decode cL_tell 50 = .ok (.iload 5, 2) := by decide +kernel
theorem dL_tell_52 : decode cL_tell 52 = .ok (.iconst 4, 1) := by decide +kernel
theorem dL_tell_53 : decode cL_tell 53 = .ok (.idiv, 1) := by decide +kernel
theorem dL_tell_54 : decode cL_tell 54 = .ok (.iaload, 1) := by decide +kernel
theorem dL_tell_55 : decode cL_tell 55 = .ok (.bipush 8, 2) := by decide +kernel
theorem dL_tell_57 : decode cL_tell 57 = .ok (.ishl, 1) := by decide +kernel
theorem dL_tell_58 : decode cL_tell 58 = .ok (.iload_n 3, 1) := by decide +kernel
theorem dL_tell_59 : decode cL_tell 59 = .ok (.iload 5, 2) := by decide +kernel
theorem dL_tell_61 : decode cL_tell 61 = .ok (.iadd, 1) := by decide +kernel
theorem dL_tell_62 : decode cL_tell 62 = .ok (.iload_n 2, 1) := by decide +kernel
theorem dL_tell_63 : decode cL_tell 63 = .ok (.if_icmp .ge 16, 3) := by decide +kernel
theorem dL_tell_66 : decode cL_tell 66 = .ok (.aload_n 1, 1) := by decide +kernel
theorem dL_tell_67 : decode cL_tell 67 = .ok (.iload_n 3, 1) := by decide +kernel
theorem dL_tell_68 : decode cL_tell 68 = .ok (.iload 5, 2) := by decide +kernel
theorem dL_tell_70 : decode cL_tell 70 = .ok (.iadd, 1) := by decide +kernel
theorem dL_tell_71 : decode cL_tell 71 = .ok (.iaload, 1) := by decide +kernel
theorem dL_tell_72 : decode cL_tell 72 = .ok (.sipush 255, 3) := by decide +kernel
theorem dL_tell_75 : decode cL_tell 75 = .ok (.iand, 1) := by decide +kernel
theorem dL_tell_76 : decode cL_tell 76 = .ok (.goto 4, 3) := by decide +kernel
theorem dL_tell_79 : decode cL_tell 79 = .ok (.iconst 0, 1) := by decide +kernel
theorem dL_tell_80 : decode cL_tell 80 = .ok (.ior, 1) := by decide +kernel
theorem dL_tell_81 : decode cL_tell 81 = .ok (.iastore, 1) := by decide +kernel
theorem dL_tell_82 : decode cL_tell 82 = .ok (.iinc 5 1, 3) := by decide +kernel
theorem dL_tell_85 : decode cL_tell 85 = .ok (.goto (-50), 3) := by decide +kernel
theorem dL_tell_88 : decode cL_tell 88 = .ok (.aload_n 0, 1) := by decide +kernel
theorem dL_tell_89 : decode cL_tell 89 = .ok (.aload 4, 2) := by decide +kernel
theorem dL_tell_91 : decode cL_tell 91 = .ok (.iconst 0, 1) := by decide +kernel
theorem dL_tell_92 : decode cL_tell 92 = .ok (.iaload, 1) := by decide +kernel
theorem dL_tell_93 : decode cL_tell 93 = .ok (.aload 4, 2) := by decide +kernel
theorem dL_tell_95 : decode cL_tell 95 = .ok (.iconst 1, 1) := by decide +kernel
theorem dL_tell_96 : decode cL_tell 96 = .ok (.iaload, 1) := by decide +kernel
theorem dL_tell_97 : decode cL_tell 97 = .ok (.aload 4, 2) := by decide +kernel
theorem dL_tell_99 : decode cL_tell 99 = .ok (.iconst 2, 1) := by decide +kernel
theorem dL_tell_100 : decode cL_tell 100 = .ok (.iaload, 1) := by decide +kernel
theorem dL_tell_101 : decode cL_tell 101 = .ok (.aload 4, 2) := by decide +kernel
theorem dL_tell_103 : decode cL_tell 103 = .ok (.iconst 3, 1) := by decide +kernel
theorem dL_tell_104 : decode cL_tell 104 = .ok (.iaload, 1) := by decide +kernel
theorem dL_tell_105 : decode cL_tell 105 = .ok (.aload 4, 2) := by decide +kernel
theorem dL_tell_107 : decode cL_tell 107 = .ok (.iconst 4, 1) := by decide +kernel
theorem dL_tell_108 : decode cL_tell 108 = .ok (.iaload, 1) := by decide +kernel
theorem dL_tell_109 : decode cL_tell 109 = .ok (.invokevirtual 8, 3) := by decide +kernel
theorem dL_tell_112 : decode cL_tell 112 = .ok (.pop, 1) := by decide +kernel
theorem dL_tell_113 : decode cL_tell 113 = .ok (.iinc 3 20, 3) := by decide +kernel
theorem dL_tell_116 : decode cL_tell 116 = .ok (.goto (-114), 3) := by decide +kernel
theorem dL_tell_119 : decode cL_tell 119 = .ok (.return_, 1) := by decide +kernel
def mL_tell : MM := (yL_tell, cL_tell, 6, none, { frames := 2, cells := 24, slots := 120, locals := 47 })
def L_tell_L35 (o1_ : Nat) (u2_ : Int32) (u3_ : Int32) (o4_ : Nat) (k88 : SS → Option SS) : Nat → Int32 → SS → Option SS :=
  lp (fun _ _ => none) fun rec v5_ σ_ =>
    if (20 : Int32) ≤ v5_ then (
      k88 σ_
      ) else (
      grd (lin σ_ o4_ (v5_ / (4 : Int32))) <|
      vthen (fun (s15 : Int32) =>
        vthen (sI σ_ o4_ (Int32.toNatClampNeg (v5_ / (4 : Int32))) (((gI σ_ o4_ (Int32.toNatClampNeg (v5_ / (4 : Int32)))) <<< ((8 : Int32) &&& 31)) ||| s15)) fun σ16 =>
        rec (v5_ + (1 : Int32)) σ16
        ) fun j80 =>
      if u2_ ≤ (u3_ + v5_) then (
        j80 (0 : Int32)
        ) else (
        grd (lin σ_ o1_ (u3_ + v5_)) <|
        j80 ((gI σ_ o1_ (Int32.toNatClampNeg (u3_ + v5_))) &&& (255 : Int32))
        )
      )

def L_tell_L2 (o1_ : Nat) (u2_ : Int32)  : Nat → Int32 → SS → Option SS :=
  lp (fun _ _ => none) fun rec v3_ σ_ =>
    grd (inb v3_ 481) <|
    if u2_ ≤ v3_ then (
      some σ_
      ) else (
      grd (inb v3_ 480) <|
      vthen (2000 + gR σ_ 0 0) fun c3 =>
      vthen (mkL σ_ 5) fun σ2 =>
      grd (lin σ2 c3 (0 : Int32)) <|
      vthen (sI σ2 c3 0 (0 : Int32)) fun σ5 =>
      grd (lin σ5 c3 (1 : Int32)) <|
      vthen (sI σ5 c3 1 (0 : Int32)) fun σ7 =>
      grd (lin σ7 c3 (2 : Int32)) <|
      vthen (sI σ7 c3 2 (0 : Int32)) fun σ9 =>
      grd (lin σ9 c3 (3 : Int32)) <|
      vthen (sI σ9 c3 3 (0 : Int32)) fun σ11 =>
      grd (lin σ11 c3 (4 : Int32)) <|
      vthen (sI σ11 c3 4 (0 : Int32)) fun σ13 =>
      L_tell_L35 o1_ u2_ v3_ c3
      (fun σ18 =>
        grd (lin σ18 c3 (0 : Int32)) <|
        grd (lin σ18 c3 (1 : Int32)) <|
        grd (lin σ18 c3 (2 : Int32)) <|
        grd (lin σ18 c3 (3 : Int32)) <|
        grd (lin σ18 c3 (4 : Int32)) <|
        bnd (fX7_feed σ18 (gI σ18 c3 0) (gI σ18 c3 1) (gI σ18 c3 2) (gI σ18 c3 3) (gI σ18 c3 4)) fun v24 σ27 =>
        rec (v3_ + (20 : Int32)) σ27
        )
      fuel (0 : Int32) σ13
      )

def fL_tell (σ : SS) (a1 : Nat) (a2 : Int32) : Option SS :=
  L_tell_L2 a1 a2
  fuel (0 : Int32) σ

set_option maxRecDepth 20000 in
theorem sL_tell_L35 {g : GG} {r : SS} {o1_ : Nat} {u2_ : Int32} {u3_ : Int32} {o4_ : Nat} {zc_ zs_ : Nat} {k88 : SS → Option SS} (hz_ : zc_ ≤ mL_tell.2.2.2.2.cells ∧ zs_ ≤ mL_tell.2.2.2.2.slots)
    (hk88 : ∀ (σ_ : SS), k88 σ_ = some r → WT σ_ → RR g mL_tell (FinR g mL_tell none NF r) (NF, zc_, zs_) 88 [(0, .ref (ad g 1)), (1, .ref (ad g o1_)), (2, .int u2_), (3, .int u3_), (4, .ref (ad g o4_))] [] σ_)
    (n : Nat) : ∀ (v5_ : Int32) (σ_ : SS), L_tell_L35 o1_ u2_ u3_ o4_ k88 n v5_ σ_ = some r → WT σ_ → RR g mL_tell (FinR g mL_tell none NF r) (NF, zc_, zs_) 35 [(0, .ref (ad g 1)), (1, .ref (ad g o1_)), (2, .int u2_), (3, .int u3_), (4, .ref (ad g o4_)), (5, .int v5_)] [] σ_ := by
  unfold L_tell_L35
  refine lp_ind (P := fun (rec : Int32 → SS → Option SS) => ∀ (v5_ : Int32) (σ_ : SS), rec v5_ σ_ = some r → WT σ_ → RR g mL_tell (FinR g mL_tell none NF r) (NF, zc_, zs_) 35 [(0, .ref (ad g 1)), (1, .ref (ad g o1_)), (2, .int u2_), (3, .int u3_), (4, .ref (ad g o4_)), (5, .int v5_)] [] σ_) ?_ ?_ n
  · intro v5_ σ_ hr; cases hr
  intro rec ih v5_ σ_ hr hw_
  refine r_iload (pc := 35) (j := 5) dL_tell_35 rfl ?_
  refine r_bipush (pc := 37) (v := (20 : Int32)) dL_tell_37 rfl ?_
  refine r_icmp_ge (pc := 39) (tgt := 88) dL_tell_39 rfl (fun hc => ?_) (fun hc => ?_)
  · replace hr := ite_t hc hr
    exact r_pick (ls1 := [(0, .ref (ad g 1)), (1, .ref (ad g o1_)), (2, .int u2_), (3, .int u3_), (4, .ref (ad g o4_))]) [0, 1, 2, 3, 4] rfl (hk88 σ_ hr hw_)
  replace hr := ite_f hc hr
  refine r_aload (pc := 42) (j := 4) dL_tell_42 rfl ?_
  refine r_iload (pc := 44) (j := 5) dL_tell_44 rfl ?_
  refine r_iconst (pc := 46) (v := (4 : Int32)) dL_tell_46 rfl ?_
  refine r_idiv (pc := 47) dL_tell_47 (by decide) ?_
  refine r_aload (pc := 48) (j := 4) dL_tell_48 rfl ?_
  refine r_iload (pc := 50) (j := 5) dL_tell_50 rfl ?_
  refine r_iconst (pc := 52) (v := (4 : Int32)) dL_tell_52 rfl ?_
  refine r_idiv (pc := 53) dL_tell_53 (by decide) ?_
  obtain ⟨h14, hr⟩ := grd_inv hr
  refine y_iald (pc := 54) (k := (Int32.toNatClampNeg (v5_ / (4 : Int32)))) h14 rfl dL_tell_54 ?_
  refine r_bipush (pc := 55) (v := (8 : Int32)) dL_tell_55 rfl ?_
  refine r_ishl (pc := 57) dL_tell_57 ?_
  refine r_iload_n (pc := 58) (j := 3) dL_tell_58 rfl rfl ?_
  refine r_iload (pc := 59) (j := 5) dL_tell_59 rfl ?_
  refine r_iadd (pc := 61) dL_tell_61 ?_
  refine r_iload_n (pc := 62) (j := 2) dL_tell_62 rfl rfl ?_
  obtain ⟨j80, ej80, hr⟩ := vth_ex hr
  have hj80 : ∀ (s15 : Int32), j80 s15 = some r → RR g mL_tell (FinR g mL_tell none NF r) (NF, zc_, zs_) 80 [(0, .ref (ad g 1)), (1, .ref (ad g o1_)), (2, .int u2_), (3, .int u3_), (4, .ref (ad g o4_)), (5, .int v5_)] [.int s15, .int ((gI σ_ o4_ (Int32.toNatClampNeg (v5_ / (4 : Int32)))) <<< ((8 : Int32) &&& 31)), .int (v5_ / (4 : Int32)), .ref (ad g o4_)] σ_ := by
    intro s15 hr
    replace hr := (congrFun ej80 s15).symm.trans hr
    refine r_ior (pc := 80) dL_tell_80 ?_
    refine y_iast (pc := 81) (j := (Int32.toNatClampNeg (v5_ / (4 : Int32)))) h14 rfl dL_tell_81 fun σ16 eσ16 => ?_
    replace hr := vthen_inv hr σ16 eσ16
    have hσ16 := wtI eσ16 hw_
    refine r_iinc (pc := 82) (j := 5) (v := (v5_ + (1 : Int32))) (ls1 := [(5, .int (v5_ + (1 : Int32))), (0, .ref (ad g 1)), (1, .ref (ad g o1_)), (2, .int u2_), (3, .int u3_), (4, .ref (ad g o4_))]) dL_tell_82 rfl rfl (nle rfl) rfl ?_
    refine r_goto (pc := 85) (tgt := 35) dL_tell_85 rfl ?_
    exact r_pick (ls1 := [(0, .ref (ad g 1)), (1, .ref (ad g o1_)), (2, .int u2_), (3, .int u3_), (4, .ref (ad g o4_)), (5, .int (v5_ + (1 : Int32)))]) [1, 2, 3, 4, 5, 0] rfl (ih (v5_ + (1 : Int32)) σ16 hr hσ16)
  refine r_icmp_ge (pc := 63) (tgt := 79) dL_tell_63 rfl (fun hc => ?_) (fun hc => ?_)
  · replace hr := ite_t hc hr
    refine r_iconst (pc := 79) (v := (0 : Int32)) dL_tell_79 rfl ?_
    exact r_pick (ls1 := [(0, .ref (ad g 1)), (1, .ref (ad g o1_)), (2, .int u2_), (3, .int u3_), (4, .ref (ad g o4_)), (5, .int v5_)]) [0, 1, 2, 3, 4, 5] rfl (hj80 (0 : Int32) hr)
  replace hr := ite_f hc hr
  refine r_aload_n (pc := 66) (j := 1) dL_tell_66 rfl rfl ?_
  refine r_iload_n (pc := 67) (j := 3) dL_tell_67 rfl rfl ?_
  refine r_iload (pc := 68) (j := 5) dL_tell_68 rfl ?_
  refine r_iadd (pc := 70) dL_tell_70 ?_
  obtain ⟨h17, hr⟩ := grd_inv hr
  refine y_iald (pc := 71) (k := (Int32.toNatClampNeg (u3_ + v5_))) h17 rfl dL_tell_71 ?_
  refine r_sipush (pc := 72) (v := (255 : Int32)) dL_tell_72 rfl ?_
  refine r_iand (pc := 75) dL_tell_75 ?_
  refine r_goto (pc := 76) (tgt := 80) dL_tell_76 rfl ?_
  exact r_pick (ls1 := [(0, .ref (ad g 1)), (1, .ref (ad g o1_)), (2, .int u2_), (3, .int u3_), (4, .ref (ad g o4_)), (5, .int v5_)]) [0, 1, 2, 3, 4, 5] rfl (hj80 ((gI σ_ o1_ (Int32.toNatClampNeg (u3_ + v5_))) &&& (255 : Int32)) hr)

set_option maxRecDepth 20000 in
theorem sL_tell_L2 {g : GG} {r : SS} {o1_ : Nat} {u2_ : Int32}  
    (n : Nat) : ∀ (v3_ : Int32) (σ_ : SS), L_tell_L2 o1_ u2_ n v3_ σ_ = some r → WT σ_ → RR g mL_tell (FinR g mL_tell none NF r) (NF, (0 + 1 * (Int32.toNatClampNeg v3_ / 20) + 0), (0 + 5 * (Int32.toNatClampNeg v3_ / 20) + 0)) 2 [(0, .ref (ad g 1)), (1, .ref (ad g o1_)), (2, .int u2_), (3, .int v3_)] [] σ_ := by
  unfold L_tell_L2
  refine lp_ind (P := fun (rec : Int32 → SS → Option SS) => ∀ (v3_ : Int32) (σ_ : SS), rec v3_ σ_ = some r → WT σ_ → RR g mL_tell (FinR g mL_tell none NF r) (NF, (0 + 1 * (Int32.toNatClampNeg v3_ / 20) + 0), (0 + 5 * (Int32.toNatClampNeg v3_ / 20) + 0)) 2 [(0, .ref (ad g 1)), (1, .ref (ad g o1_)), (2, .int u2_), (3, .int v3_)] [] σ_) ?_ ?_ n
  · intro v3_ σ_ hr; cases hr
  intro rec ih v3_ σ_ hr hw_
  obtain ⟨hh_, hr⟩ := grd_inv hr
  refine r_iload_n (pc := 2) (j := 3) dL_tell_2 rfl rfl ?_
  refine r_iload_n (pc := 3) (j := 2) dL_tell_3 rfl rfl ?_
  refine r_icmp_ge (pc := 4) (tgt := 119) dL_tell_4 rfl (fun hc => ?_) (fun hc => ?_)
  · replace hr := ite_t hc hr
    exact l_ov hr (r_vret (pc := 119) rfl rfl (by have := z_lt hh_; exact ⟨by show (0 + 1 * (Int32.toNatClampNeg v3_ / 20) + 0) ≤ 24; omega, by show (0 + 5 * (Int32.toNatClampNeg v3_ / 20) + 0) ≤ 120; omega⟩) dL_tell_119)
  replace hr := ite_f hc hr
  refine r_iconst (pc := 7) (v := (5 : Int32)) dL_tell_7 rfl ?_
  obtain ⟨h1, hr⟩ := grd_inv hr
  refine y_new (pc := 8) (N := 5) tw_1_50 (by decide) rfl (nle rfl) (by have := z_lt h1; exact ⟨by show (0 + 1 * (Int32.toNatClampNeg v3_ / 20) + 0) + 1 ≤ 24; omega, by show (0 + 5 * (Int32.toNatClampNeg v3_ / 20) + 0) + 5 ≤ 120; omega⟩) dL_tell_8 fun c3 ec3 σ2 eσ2 => ?_
  replace hr := vthen_inv hr c3 ec3
  replace hr := vthen_inv hr σ2 eσ2
  have hσ2 := wtM eσ2 hw_
  change RR _ _ _ (NF, (0 + 1 * (Int32.toNatClampNeg v3_ / 20) + 1), (0 + 5 * (Int32.toNatClampNeg v3_ / 20) + 5)) _ _ _ _
  refine r_dup (pc := 10) dL_tell_10 rfl ?_
  refine r_iconst (pc := 11) (v := (0 : Int32)) dL_tell_11 rfl ?_
  refine r_iconst (pc := 12) (v := (0 : Int32)) dL_tell_12 rfl ?_
  obtain ⟨h4, hr⟩ := grd_inv hr
  refine y_iast (pc := 13) (j := 0) h4 rfl dL_tell_13 fun σ5 eσ5 => ?_
  replace hr := vthen_inv hr σ5 eσ5
  have hσ5 := wtI eσ5 hσ2
  refine r_dup (pc := 14) dL_tell_14 rfl ?_
  refine r_iconst (pc := 15) (v := (1 : Int32)) dL_tell_15 rfl ?_
  refine r_iconst (pc := 16) (v := (0 : Int32)) dL_tell_16 rfl ?_
  obtain ⟨h6, hr⟩ := grd_inv hr
  refine y_iast (pc := 17) (j := 1) h6 rfl dL_tell_17 fun σ7 eσ7 => ?_
  replace hr := vthen_inv hr σ7 eσ7
  have hσ7 := wtI eσ7 hσ5
  refine r_dup (pc := 18) dL_tell_18 rfl ?_
  refine r_iconst (pc := 19) (v := (2 : Int32)) dL_tell_19 rfl ?_
  refine r_iconst (pc := 20) (v := (0 : Int32)) dL_tell_20 rfl ?_
  obtain ⟨h8, hr⟩ := grd_inv hr
  refine y_iast (pc := 21) (j := 2) h8 rfl dL_tell_21 fun σ9 eσ9 => ?_
  replace hr := vthen_inv hr σ9 eσ9
  have hσ9 := wtI eσ9 hσ7
  refine r_dup (pc := 22) dL_tell_22 rfl ?_
  refine r_iconst (pc := 23) (v := (3 : Int32)) dL_tell_23 rfl ?_
  refine r_iconst (pc := 24) (v := (0 : Int32)) dL_tell_24 rfl ?_
  obtain ⟨h10, hr⟩ := grd_inv hr
  refine y_iast (pc := 25) (j := 3) h10 rfl dL_tell_25 fun σ11 eσ11 => ?_
  replace hr := vthen_inv hr σ11 eσ11
  have hσ11 := wtI eσ11 hσ9
  refine r_dup (pc := 26) dL_tell_26 rfl ?_
  refine r_iconst (pc := 27) (v := (4 : Int32)) dL_tell_27 rfl ?_
  refine r_iconst (pc := 28) (v := (0 : Int32)) dL_tell_28 rfl ?_
  obtain ⟨h12, hr⟩ := grd_inv hr
  refine y_iast (pc := 29) (j := 4) h12 rfl dL_tell_29 fun σ13 eσ13 => ?_
  replace hr := vthen_inv hr σ13 eσ13
  have hσ13 := wtI eσ13 hσ11
  refine r_astore (pc := 30) (ls1 := [(4, .ref (ad g c3)), (0, .ref (ad g 1)), (1, .ref (ad g o1_)), (2, .int u2_), (3, .int v3_)]) dL_tell_30 (nle rfl) rfl ?_
  refine r_iconst (pc := 32) (v := (0 : Int32)) dL_tell_32 rfl ?_
  refine r_istore (pc := 33) (ls1 := [(5, .int (0 : Int32)), (4, .ref (ad g c3)), (0, .ref (ad g 1)), (1, .ref (ad g o1_)), (2, .int u2_), (3, .int v3_)]) dL_tell_33 (nle rfl) rfl ?_
  refine r_pick (ls1 := [(0, .ref (ad g 1)), (1, .ref (ad g o1_)), (2, .int u2_), (3, .int v3_), (4, .ref (ad g c3)), (5, .int (0 : Int32))]) [2, 3, 4, 5, 1, 0] rfl ?_
  refine sL_tell_L35 (by have := z_lt h1; exact ⟨by show (0 + 1 * (Int32.toNatClampNeg v3_ / 20) + 1) ≤ 24; omega, by show (0 + 5 * (Int32.toNatClampNeg v3_ / 20) + 5) ≤ 120; omega⟩)   (fun σ18 hr hσ18 => ?_) fuel (0 : Int32) σ13 hr hσ13
  refine r_aload_n (pc := 88) (j := 0) dL_tell_88 rfl rfl ?_
  refine r_aload (pc := 89) (j := 4) dL_tell_89 rfl ?_
  refine r_iconst (pc := 91) (v := (0 : Int32)) dL_tell_91 rfl ?_
  obtain ⟨h19, hr⟩ := grd_inv hr
  refine y_iald (pc := 92) (k := 0) h19 rfl dL_tell_92 ?_
  refine r_aload (pc := 93) (j := 4) dL_tell_93 rfl ?_
  refine r_iconst (pc := 95) (v := (1 : Int32)) dL_tell_95 rfl ?_
  obtain ⟨h20, hr⟩ := grd_inv hr
  refine y_iald (pc := 96) (k := 1) h20 rfl dL_tell_96 ?_
  refine r_aload (pc := 97) (j := 4) dL_tell_97 rfl ?_
  refine r_iconst (pc := 99) (v := (2 : Int32)) dL_tell_99 rfl ?_
  obtain ⟨h21, hr⟩ := grd_inv hr
  refine y_iald (pc := 100) (k := 2) h21 rfl dL_tell_100 ?_
  refine r_aload (pc := 101) (j := 4) dL_tell_101 rfl ?_
  refine r_iconst (pc := 103) (v := (3 : Int32)) dL_tell_103 rfl ?_
  obtain ⟨h22, hr⟩ := grd_inv hr
  refine y_iald (pc := 104) (k := 3) h22 rfl dL_tell_104 ?_
  refine r_aload (pc := 105) (j := 4) dL_tell_105 rfl ?_
  refine r_iconst (pc := 107) (v := (4 : Int32)) dL_tell_107 rfl ?_
  obtain ⟨h23, hr⟩ := grd_inv hr
  refine y_iald (pc := 108) (k := 4) h23 rfl dL_tell_108 ?_
  obtain ⟨v24, σ27, eσ27, hr⟩ := bnd_inv hr
  refine qX7_feed (pc := 109) eσ27 tw_3_144 (by have := z_lt h1; exact ⟨by show (0 + 1 * (Int32.toNatClampNeg v3_ / 20) + 1) ≤ 24; omega, by show (0 + 5 * (Int32.toNatClampNeg v3_ / 20) + 5) ≤ 120; omega⟩) ⟨nle rfl, nle rfl⟩ (nle rfl) dL_tell_109 fun hσ27 => ?_
  refine r_pop (pc := 112) dL_tell_112 rfl ?_
  refine r_iinc (pc := 113) (j := 3) (v := (v3_ + (20 : Int32))) (ls1 := [(3, .int (v3_ + (20 : Int32))), (0, .ref (ad g 1)), (1, .ref (ad g o1_)), (2, .int u2_), (4, .ref (ad g c3))]) dL_tell_113 rfl rfl (nle rfl) rfl ?_
  refine r_goto (pc := 116) (tgt := 2) dL_tell_116 rfl ?_
  refine r_wid (c2 := (0 + 1 * (Int32.toNatClampNeg (v3_ + (20 : Int32)) / 20) + 0)) (s2 := (0 + 5 * (Int32.toNatClampNeg (v3_ + (20 : Int32)) / 20) + 0)) (by have e := z_add (w := (20 : Int32)) (k := 20) h1 rfl (by decide); rw [e]; exact ⟨by omega, by omega⟩) ?_
  exact r_pick (ls1 := [(0, .ref (ad g 1)), (1, .ref (ad g o1_)), (2, .int u2_), (3, .int (v3_ + (20 : Int32)))]) [1, 2, 3, 0] rfl (ih (v3_ + (20 : Int32)) σ27 hr hσ27)

set_option maxRecDepth 20000 in
set_option maxHeartbeats 4000000 in
theorem sL_tell {g : GG} {σ : SS} {a1 : Nat} {a2 : Int32} {r : SS} (hr : fL_tell σ a1 a2 = some r)  : Ct g mL_tell [.ref (ad g 1), .ref (ad g a1), .int a2] NF σ none NF r := by
  refine Ct.of (by decide +kernel) (nle rfl) fun hw0 => ?_
  have hw := hw0 rfl
  unfold fL_tell at hr
  change RR g mL_tell (FinR g mL_tell none NF r) (NF, 0, 0) 0 [(0, .ref (ad g 1)), (1, .ref (ad g a1)), (2, .int a2)] [] σ
  refine r_iconst (pc := 0) (v := (0 : Int32)) dL_tell_0 rfl ?_
  refine r_istore_n (pc := 1) (ls1 := [(3, .int (0 : Int32)), (0, .ref (ad g 1)), (1, .ref (ad g a1)), (2, .int a2)]) dL_tell_1 rfl (nle rfl) rfl ?_
  refine r_pick (ls1 := [(0, .ref (ad g 1)), (1, .ref (ad g a1)), (2, .int a2), (3, .int (0 : Int32))]) [1, 2, 3, 0] rfl ?_
  refine r_wid (c2 := (0 + 1 * (Int32.toNatClampNeg (0 : Int32) / 20) + 0)) (s2 := (0 + 5 * (Int32.toNatClampNeg (0 : Int32) / 20) + 0)) ⟨by omega, by omega⟩ ?_
  refine sL_tell_L2     fuel (0 : Int32) σ hr hw

theorem qL_tell {g : GG} {σ : SS} {a1 : Nat} {a2 : Int32} {σ2 : SS} {M : MM} {F : State → Array Value → List Frame → State → Prop} {zc zs pc index : Nat} {ls : List (Nat × Value)} {rest : List Value} (hf : fL_tell σ a1 a2 = some σ2)  (hl : Cond.methodLink M.1.cls index yL_tell ∈ lw_gt) (hz : zc + 24 ≤ M.2.2.2.2.cells ∧ zs + 120 ≤ M.2.2.2.2.slots) (hR : mL_tell.2.2.2.2.frames + 1 ≤ M.2.2.2.2.frames ∧ 8 + (mL_tell.2.2.1 + 11) + mL_tell.2.2.2.2.locals ≤ M.2.2.2.2.locals) (hrest : (rest.map fun v => v.category).sum ≤ 8) (hd : decode M.2.1 pc = .ok (.invokestatic index, 3)) (k : WT σ2 → RR g M F (NF, zc + 24, zs + 120) (pc + 3) ls rest σ2) : RR g M F (NF, zc, zs) pc ls (.int a2 :: .ref (ad g a1) :: .ref (ad g 1) :: rest) σ :=
  r_callS (z := (NF, zc, zs)) (N := mL_tell) (nn := 3) (o1 := none) (sL_tell hf ) tw_3_143 tw_1_0 hl tw_3_142 ⟨by decide, by decide, rfl⟩ hR rfl hrest hd hz rfl (fun h => k (h rfl))

theorem dL_corners_0 : decode cL_corners 0 = .ok (.iconst 1, 1) := by decide +kernel
theorem dL_corners_1 : decode cL_corners 1 = .ok (.istore_n 1, 1) := by decide +kernel
theorem dL_corners_2 : decode cL_corners 2 = .ok (.iconst 0, 1) := by decide +kernel
theorem dL_corners_3 : decode cL_corners 3 = .ok (.istore_n 2, 1) := by decide +kernel
theorem dL_corners_4 : decode cL_corners 4 = .ok (.iload_n 2, 1) := by decide +kernel
theorem dL_corners_5 : decode cL_corners 5 = .ok (.iconst 4, 1) := by decide +kernel
theorem dL_corners_6 : decode cL_corners 6 = .ok (.if_icmp .ge 208, 3) := by decide +kernel
theorem dL_corners_9 : decode cL_corners 9 = .ok (.aload_n 0, 1) := by decide +kernel
theorem dL_corners_10 : decode cL_corners 10 = .ok (.iload_n 2, 1) := by decide +kernel
theorem dL_corners_11 : decode cL_corners 11 = .ok (.invokevirtual 88, 3) := by decide +kernel
theorem dL_corners_14 : decode cL_corners 14 = .ok (.istore_n 3, 1) := by decide +kernel
theorem dL_corners_15 : decode cL_corners 15 = .ok (.iload_n 2, 1) := by decide +kernel
theorem dL_corners_16 : decode cL_corners 16 = .ok (.iconst 2, 1) := by decide +kernel
theorem dL_corners_17 : decode cL_corners 17 = .ok (.irem, 1) := by decide +kernel
theorem dL_corners_18 : decode cL_corners 18 = .ok (.ifCond .ne 7, 3) := by decide +kernel
theorem dL_corners_21 : decode cL_corners 21 = .ok (.iconst 0, 1) := by decide +kernel
theorem dL_corners_22 : decode cL_corners 22 = .ok (.goto 10, 3) := by decide +kernel
theorem dL_corners_25 : decode cL_corners 25 = .ok (.iconst 2, 1) := by decide +kernel
theorem dL_corners_26 : decode cL_corners 26 = .ok (.aload_n 0, 1) := by decide +kernel
theorem dL_corners_27 : decode cL_corners 27 = .ok (.iconst 4, 1) := by decide +kernel
theorem dL_corners_28 : decode cL_corners 28 = .ok (.invokevirtual 40, 3) := by decide +kernel
theorem dL_corners_31 : decode cL_corners 31 = .ok (.imul, 1) := by decide +kernel
theorem dL_corners_32 : decode cL_corners 32 = .ok (.istore 4, 2) := by decide +kernel
theorem dL_corners_34 : decode cL_corners 34 = .ok (.iload_n 2, 1) := by decide +kernel
theorem dL_corners_35 : decode cL_corners 35 = .ok (.iconst 2, 1) := by decide +kernel
theorem dL_corners_36 : decode cL_corners 36 = .ok (.if_icmp .ge 7, 3) := by decide +kernel
theorem dL_corners_39 : decode cL_corners 39 = .ok (.iconst 0, 1) := by decide +kernel
theorem dL_corners_40 : decode cL_corners 40 = .ok (.goto 10, 3) := by decide +kernel
theorem dL_corners_43 : decode cL_corners 43 = .ok (.iconst 2, 1) := by decide +kernel
theorem dL_corners_44 : decode cL_corners 44 = .ok (.aload_n 0, 1) := by decide +kernel
theorem dL_corners_45 : decode cL_corners 45 = .ok (.iconst 5, 1) := by decide +kernel
theorem dL_corners_46 : decode cL_corners 46 = .ok (.invokevirtual 40, 3) := by decide +kernel
theorem dL_corners_49 : decode cL_corners 49 = .ok (.imul, 1) := by decide +kernel
theorem dL_corners_50 : decode cL_corners 50 = .ok (.istore 5, 2) := by decide +kernel
theorem dL_corners_52 : decode cL_corners 52 = .ok (.aload_n 0, 1) := by decide +kernel
theorem dL_corners_53 : decode cL_corners 53 = .ok (.invokevirtual 66, 3) := by decide +kernel
theorem dL_corners_56 : decode cL_corners 56 = .ok (.ifCond .ne 30, 3) := by decide +kernel
theorem dL_corners_59 : decode cL_corners 59 = .ok (.iload_n 1, 1) := by decide +kernel
theorem dL_corners_60 : decode cL_corners 60 = .ok (.ifCond .eq 21, 3) := by decide +kernel
theorem dL_corners_63 : decode cL_corners 63 = .ok (.aload_n 0, 1) := by decide +kernel
theorem dL_corners_64 : decode cL_corners 64 = .ok (.iload 4, 2) := by decide +kernel
theorem dL_corners_66 : decode cL_corners 66 = .ok (.iload 5, 2) := by decide +kernel
theorem dL_corners_68 : decode cL_corners 68 = .ok (.iconst 0, 1) := by decide +kernel
theorem dL_corners_69 : decode cL_corners 69 = .ok (.invokevirtual 91, 3) := by decide +kernel
theorem dL_corners_72 : decode cL_corners 72 = .ok (.bipush (-2), 2) := by decide +kernel
theorem dL_corners_74 : decode cL_corners 74 = .ok (.if_icmp .ne 7, 3) := by decide +kernel
theorem dL_corners_77 : decode cL_corners 77 = .ok (.iconst 1, 1) := by decide +kernel
theorem dL_corners_78 : decode cL_corners 78 = .ok (.goto 4, 3) := by decide +kernel
theorem dL_corners_81 : decode cL_corners 81 = .ok (.iconst 0, 1) := by decide +kernel
theorem dL_corners_82 : decode cL_corners 82 = .ok (.istore_n 1, 1) := by decide +kernel
theorem dL_corners_83 : decode cL_corners 83 = .ok (.goto 125, 3) := by decide +kernel
theorem dL_corners_86 : decode cL_corners 86 = .ok (.aload_n 0, 1) := by decide +kernel
theorem dL_corners_87 : decode cL_corners 87 = .ok (.iload_n 3, 1) := by decide +kernel
theorem dL_corners_88 : decode cL_corners 88 = .ok (.iconst 0, 1) := by decide +kernel
theorem dL_corners_89 : decode cL_corners 89 = .ok (.invokevirtual 95, 3) := by decide +kernel
theorem dL_corners_92 : decode cL_corners 92 = .ok (.istore 6, 2) := by decide +kernel
theorem dL_corners_94 : decode cL_corners 94 = .ok (.aload_n 0, 1) := by decide +kernel
theorem dL_corners_95 : decode cL_corners 95 = .ok (.iload_n 3, 1) := by decide +kernel
theorem dL_corners_96 : decode cL_corners 96 = .ok (.iconst 1, 1) := by decide +kernel
theorem dL_corners_97 : decode cL_corners 97 = .ok (.invokevirtual 95, 3) := by decide +kernel
theorem dL_corners_100 : decode cL_corners 100 = .ok (.istore 7, 2) := by decide +kernel
theorem dL_corners_102 : decode cL_corners 102 = .ok (.aload_n 0, 1) := by decide +kernel
theorem dL_corners_103 : decode cL_corners 103 = .ok (.iload_n 3, 1) := by decide +kernel
theorem dL_corners_104 : decode cL_corners 104 = .ok (.iconst 2, 1) := by decide +kernel
theorem dL_corners_105 : decode cL_corners 105 = .ok (.invokevirtual 95, 3) := by decide +kernel
theorem dL_corners_108 : decode cL_corners 108 = .ok (.istore 8, 2) := by decide +kernel
theorem dL_corners_110 : decode cL_corners 110 = .ok (.iload_n 1, 1) := by decide +kernel
theorem dL_corners_111 : decode cL_corners 111 = .ok (.ifCond .eq 95, 3) := by decide +kernel
theorem dL_corners_114 : decode cL_corners 114 = .ok (.aload_n 0, 1) := by decide +kernel
theorem dL_corners_115 : decode cL_corners 115 = .ok (.iload 4, 2) := by decide +kernel
theorem dL_corners_117 : decode cL_corners 117 = .ok (.iload 5, 2) := by decide +kernel
theorem dL_corners_119 : decode cL_corners 119 = .ok (.iconst 2, 1) := by decide +kernel
theorem dL_corners_120 : decode cL_corners 120 = .ok (.invokevirtual 91, 3) := by decide +kernel
theorem dL_corners_123 : decode cL_corners 123 = .ok (.bipush 100, 2) := by decide +kernel
theorem dL_corners_125 : decode cL_corners 125 = .ok (.iload 7, 2) := by decide +kernel
theorem dL_corners_127 : decode cL_corners 127 = .ok (.imul, 1) := by decide +kernel
theorem dL_corners_128 : decode cL_corners 128 = .ok (.iload 6, 2) := by decide +kernel
theorem dL_corners_130 : decode cL_corners 130 = .ok (.idiv, 1) := by decide +kernel
theorem dL_corners_131 : decode cL_corners 131 = .ok (.if_icmp .ne 75, 3) := by decide +kernel
theorem dL_corners_134 : decode cL_corners 134 = .ok (.aload_n 0, 1) := by decide +kernel
theorem dL_corners_135 : decode cL_corners 135 = .ok (.iload 4, 2) := by decide +kernel
theorem dL_corners_137 : decode cL_corners 137 = .ok (.iload 5, 2) := by decide +kernel
theorem dL_corners_139 : decode cL_corners 139 = .ok (.iconst 3, 1) := by decide +kernel
theorem dL_corners_140 : decode cL_corners 140 = .ok (.invokevirtual 91, 3) := by decide +kernel
theorem dL_corners_143 : decode cL_corners 143 = .ok (.bipush 100, 2) := by decide +kernel
theorem dL_corners_145 : decode cL_corners 145 = .ok (.iload 8, 2) := by decide +kernel
theorem dL_corners_147 : decode cL_corners 147 = .ok (.imul, 1) := by decide +kernel
theorem dL_corners_148 : decode cL_corners 148 = .ok (.iload 6, 2) := by decide +kernel
theorem dL_corners_150 : decode cL_corners 150 = .ok (.idiv, 1) := by decide +kernel
theorem dL_corners_151 : decode cL_corners 151 = .ok (.if_icmp .ne 55, 3) := by decide +kernel
theorem dL_corners_154 : decode cL_corners 154 = .ok (.aload_n 0, 1) := by decide +kernel
theorem dL_corners_155 : decode cL_corners 155 = .ok (.iload 4, 2) := by decide +kernel
theorem dL_corners_157 : decode cL_corners 157 = .ok (.iload 5, 2) := by decide +kernel
theorem dL_corners_159 : decode cL_corners 159 = .ok (.iconst 0, 1) := by decide +kernel
theorem dL_corners_160 : decode cL_corners 160 = .ok (.invokevirtual 91, 3) := by decide +kernel
theorem dL_corners_163 : decode cL_corners 163 = .ok (.iconst 2, 1) := by decide +kernel
theorem dL_corners_164 : decode cL_corners 164 = .ok (.iload 7, 2) := by decide +kernel
theorem dL_corners_166 : decode cL_corners 166 = .ok (.imul, 1) := by decide +kernel
theorem dL_corners_167 : decode cL_corners 167 = .ok (.iload 6, 2) := by decide +kernel
theorem dL_corners_169 : decode cL_corners 169 = .ok (.iadd, 1) := by decide +kernel
theorem dL_corners_170 : decode cL_corners 170 = .ok (.iconst 2, 1) := by decide +kernel
theorem dL_corners_171 : decode cL_corners 171 = .ok (.iload 6, 2) := by decide +kernel
theorem dL_corners_173 : decode cL_corners 173 = .ok (.imul, 1) := by decide +kernel
theorem dL_corners_174 : decode cL_corners 174 = .ok (.idiv, 1) := by decide +kernel
theorem dL_corners_175 : decode cL_corners 175 = .ok (.if_icmp .ne 31, 3) := by decide +kernel
theorem dL_corners_178 : decode cL_corners 178 = .ok (.aload_n 0, 1) := by decide +kernel
theorem dL_corners_179 : decode cL_corners 179 = .ok (.iload 4, 2) := by decide +kernel
theorem dL_corners_181 : decode cL_corners 181 = .ok (.iload 5, 2) := by decide +kernel
theorem dL_corners_183 : decode cL_corners 183 = .ok (.iconst 1, 1) := by decide +kernel
theorem dL_corners_184 : decode cL_corners 184 = .ok (.invokevirtual 91, 3) := by decide +kernel
theorem dL_corners_187 : decode cL_corners 187 = .ok (.iconst 2, 1) := by decide +kernel
theorem dL_corners_188 : decode cL_corners 188 = .ok (.iload 8, 2) := by decide +kernel
theorem dL_corners_190 : decode cL_corners 190 = .ok (.imul, 1) := by decide +kernel
theorem dL_corners_191 : decode cL_corners 191 = .ok (.iload 6, 2) := by decide +kernel
theorem dL_corners_193 : decode cL_corners 193 = .ok (.iadd, 1) := by decide +kernel
theorem dL_corners_194 : decode cL_corners 194 = .ok (.iconst 2, 1) := by decide +kernel
theorem dL_corners_195 : decode cL_corners 195 = .ok (.iload 6, 2) := by decide +kernel
theorem dL_corners_197 : decode cL_corners 197 = .ok (.imul, 1) := by decide +kernel
theorem dL_corners_198 : decode cL_corners 198 = .ok (.idiv, 1) := by decide +kernel
theorem dL_corners_199 : decode cL_corners 199 = .ok (.if_icmp .ne 7, 3) := by decide +kernel
theorem dL_corners_202 : decode cL_corners 202 = .ok (.iconst 1, 1) := by decide +kernel
theorem dL_corners_203 : decode cL_corners 203 = .ok (.goto 4, 3) := by decide +kernel
theorem dL_corners_206 : decode cL_corners 206 = .ok (.iconst 0, 1) := by decide +kernel
theorem dL_corners_207 : decode cL_corners 207 = .ok (.istore_n 1, 1) := by decide +kernel
theorem dL_corners_208 : decode cL_corners 208 = .ok (.iinc 2 1, 3) := by decide +kernel
theorem dL_corners_211 : decode cL_corners 211 = .ok (.goto (-207), 3) := by decide +kernel
theorem dL_corners_214 : decode cL_corners 214 = .ok (.iload_n 1, 1) := by decide +kernel
theorem dL_corners_215 : decode cL_corners 215 = .ok (.ireturn, 1) := by decide +kernel
def mL_corners : MM := (yL_corners, cL_corners, 9, Option.some Jvm.ClassFile.FieldType.boolean, { frames := 5, cells := 0, slots := 0, locals := 126 })
def L_corners_L4   : Nat → Int32 → Int32 → SS → Option (Bool × SS) :=
  lp (fun _ _ _ => none) fun rec v1_ v2_ σ_ =>
    if (4 : Int32) ≤ v2_ then (
      grd (isb v1_) <|
      some ((i2b v1_), σ_)
      ) else (
      bnd (fX7_mark σ_ v2_) fun v2 σ5 =>
      vthen (fun (s6 : Int32) =>
        vthen (fun (s7 : Int32) =>
          bnd (fX7_marked σ5) fun v8 σ11 =>
          if v8 = 0 then (
            vthen (fun (s45 : Int32) (σ46 : SS) =>
              rec s45 (v2_ + (1 : Int32)) σ46
              ) fun j82 =>
            vthen (fun  (σ47 : SS) =>
              j82 (0 : Int32) σ47
              ) fun j81 =>
            if v1_ = 0 then (
              j81 σ11
              ) else (
              bnd (fX7_map σ11 s6 s7 (0 : Int32)) fun v48 σ51 =>
              if v48 = (-2 : Int32) then (
                j82 (1 : Int32) σ51
                ) else (
                j81 σ51
                )
              )
            ) else (
            bnd (fX7_blob σ11 v2 (0 : Int32)) fun v12 σ15 =>
            bnd (fX7_blob σ15 v2 (1 : Int32)) fun v16 σ19 =>
            bnd (fX7_blob σ19 v2 (2 : Int32)) fun v20 σ23 =>
            vthen (fun (s24 : Int32) (σ25 : SS) =>
              rec s24 (v2_ + (1 : Int32)) σ25
              ) fun j207 =>
            vthen (fun  (σ26 : SS) =>
              j207 (0 : Int32) σ26
              ) fun j206 =>
            if v1_ = 0 then (
              j206 σ23
              ) else (
              bnd (fX7_map σ23 s6 s7 (2 : Int32)) fun v27 σ30 =>
              grd (nz v12) <|
              if v27 = (((100 : Int32) * v16) / v12) then (
                bnd (fX7_map σ30 s6 s7 (3 : Int32)) fun v32 σ35 =>
                if v32 = (((100 : Int32) * v20) / v12) then (
                  bnd (fX7_map σ35 s6 s7 (0 : Int32)) fun v36 σ39 =>
                  grd (nz ((2 : Int32) * v12)) <|
                  if v36 = ((((2 : Int32) * v16) + v12) / ((2 : Int32) * v12)) then (
                    bnd (fX7_map σ39 s6 s7 (1 : Int32)) fun v41 σ44 =>
                    if v41 = ((((2 : Int32) * v20) + v12) / ((2 : Int32) * v12)) then (
                      j207 (1 : Int32) σ44
                      ) else (
                      j206 σ44
                      )
                    ) else (
                    j206 σ39
                    )
                  ) else (
                  j206 σ35
                  )
                ) else (
                j206 σ30
                )
              )
            )
          ) fun j50 =>
        if (2 : Int32) ≤ v2_ then (
          bnd1 (fX7_count σ5 (5 : Int32)) fun v52 =>
          j50 ((2 : Int32) * v52)
          ) else (
          j50 (0 : Int32)
          )
        ) fun j32 =>
      if (irm v2_ (2 : Int32)) = 0 then (
        j32 (0 : Int32)
        ) else (
        bnd1 (fX7_count σ5 (4 : Int32)) fun v55 =>
        j32 ((2 : Int32) * v55)
        )
      )

def fL_corners (σ : SS)  : Option (Bool × SS) :=
  L_corners_L4
  fuel (1 : Int32) (0 : Int32) σ

set_option maxRecDepth 20000 in
theorem sL_corners_L4 {g : GG} {r : Bool × SS} {zc_ zs_ : Nat}  (hz_ : zc_ ≤ mL_corners.2.2.2.2.cells ∧ zs_ ≤ mL_corners.2.2.2.2.slots)
    (n : Nat) : ∀ (v1_ : Int32) (v2_ : Int32) (σ_ : SS), L_corners_L4 n v1_ v2_ σ_ = some r → WT σ_ → RR g mL_corners (FinR g mL_corners (some (.int (b2i r.1))) NF r.2) (NF, zc_, zs_) 4 [(0, .ref (ad g 1)), (1, .int v1_), (2, .int v2_)] [] σ_ := by
  unfold L_corners_L4
  refine lp_ind (P := fun (rec : Int32 → Int32 → SS → Option (Bool × SS)) => ∀ (v1_ : Int32) (v2_ : Int32) (σ_ : SS), rec v1_ v2_ σ_ = some r → WT σ_ → RR g mL_corners (FinR g mL_corners (some (.int (b2i r.1))) NF r.2) (NF, zc_, zs_) 4 [(0, .ref (ad g 1)), (1, .int v1_), (2, .int v2_)] [] σ_) ?_ ?_ n
  · intro v1_ v2_ σ_ hr; cases hr
  intro rec ih v1_ v2_ σ_ hr hw_
  refine r_iload_n (pc := 4) (j := 2) dL_corners_4 rfl rfl ?_
  refine r_iconst (pc := 5) (v := (4 : Int32)) dL_corners_5 rfl ?_
  refine r_icmp_ge (pc := 6) (tgt := 214) dL_corners_6 rfl (fun hc => ?_) (fun hc => ?_)
  · replace hr := ite_t hc hr
    refine r_iload_n (pc := 214) (j := 1) dL_corners_214 rfl rfl ?_
    obtain ⟨h1, hr⟩ := grd_inv hr
    refine r_toz h1 ?_
    exact l_osz hr (r_zret (pc := 215) (v := b2i (i2b v1_)) (ty := .boolean) rfl (b2i_nar _) rfl hz_ dL_corners_215)
  replace hr := ite_f hc hr
  refine r_aload_n (pc := 9) (j := 0) dL_corners_9 rfl rfl ?_
  refine r_iload_n (pc := 10) (j := 2) dL_corners_10 rfl rfl ?_
  obtain ⟨v2, σ5, eσ5, hr⟩ := bnd_inv hr
  refine qX7_mark (pc := 11) eσ5 tw_4_128 hz_ ⟨nle rfl, nle rfl⟩ (nle rfl) dL_corners_11 fun hσ5 => ?_
  refine r_istore_n (pc := 14) (ls1 := [(3, .int v2), (0, .ref (ad g 1)), (1, .int v1_), (2, .int v2_)]) dL_corners_14 rfl (nle rfl) rfl ?_
  refine r_iload_n (pc := 15) (j := 3) dL_corners_15 rfl rfl ?_
  refine r_iconst (pc := 16) (v := (2 : Int32)) dL_corners_16 rfl ?_
  refine r_irem (pc := 17) dL_corners_17 (by decide) ?_
  obtain ⟨j32, ej32, hr⟩ := vth_ex hr
  have hj32 : ∀ (s6 : Int32), j32 s6 = some r → RR g mL_corners (FinR g mL_corners (some (.int (b2i r.1))) NF r.2) (NF, zc_, zs_) 32 [(0, .ref (ad g 1)), (1, .int v1_), (2, .int v2_), (3, .int v2)] [.int s6] σ5 := by
    intro s6 hr
    replace hr := (congrFun ej32 s6).symm.trans hr
    refine r_istore (pc := 32) (ls1 := [(4, .int s6), (0, .ref (ad g 1)), (1, .int v1_), (2, .int v2_), (3, .int v2)]) dL_corners_32 (nle rfl) rfl ?_
    refine r_iload_n (pc := 34) (j := 3) dL_corners_34 rfl rfl ?_
    refine r_iconst (pc := 35) (v := (2 : Int32)) dL_corners_35 rfl ?_
    obtain ⟨j50, ej50, hr⟩ := vth_ex hr
    have hj50 : ∀ (s7 : Int32), j50 s7 = some r → RR g mL_corners (FinR g mL_corners (some (.int (b2i r.1))) NF r.2) (NF, zc_, zs_) 50 [(0, .ref (ad g 1)), (1, .int v1_), (2, .int v2_), (3, .int v2), (4, .int s6)] [.int s7] σ5 := by
      intro s7 hr
      replace hr := (congrFun ej50 s7).symm.trans hr
      refine r_istore (pc := 50) (ls1 := [(5, .int s7), (0, .ref (ad g 1)), (1, .int v1_), (2, .int v2_), (3, .int v2), (4, .int s6)]) dL_corners_50 (nle rfl) rfl ?_
      refine r_aload_n (pc := 52) (j := 1) dL_corners_52 rfl rfl ?_
      obtain ⟨v8, σ11, eσ11, hr⟩ := bnd_inv hr
      refine qX7_marked (pc := 53) eσ11 tw_2_200 hz_ ⟨nle rfl, nle rfl⟩ (nle rfl) dL_corners_53 fun hσ11 => ?_
      refine r_if_ne (pc := 56) (tgt := 86) dL_corners_56 rfl (fun hc => ?_) (fun hc => ?_)
      · replace hr := ite_f hc hr
        refine r_aload_n (pc := 86) (j := 1) dL_corners_86 rfl rfl ?_
        refine r_iload_n (pc := 87) (j := 4) dL_corners_87 rfl rfl ?_
        refine r_iconst (pc := 88) (v := (0 : Int32)) dL_corners_88 rfl ?_
        obtain ⟨v12, σ15, eσ15, hr⟩ := bnd_inv hr
        refine qX7_blob (pc := 89) eσ15 tw_4_149 hz_ ⟨nle rfl, nle rfl⟩ (nle rfl) dL_corners_89 fun hσ15 => ?_
        refine r_istore (pc := 92) (ls1 := [(6, .int v12), (5, .int s7), (0, .ref (ad g 1)), (1, .int v1_), (2, .int v2_), (3, .int v2), (4, .int s6)]) dL_corners_92 (nle rfl) rfl ?_
        refine r_aload_n (pc := 94) (j := 2) dL_corners_94 rfl rfl ?_
        refine r_iload_n (pc := 95) (j := 5) dL_corners_95 rfl rfl ?_
        refine r_iconst (pc := 96) (v := (1 : Int32)) dL_corners_96 rfl ?_
        obtain ⟨v16, σ19, eσ19, hr⟩ := bnd_inv hr
        refine qX7_blob (pc := 97) eσ19 tw_4_149 hz_ ⟨nle rfl, nle rfl⟩ (nle rfl) dL_corners_97 fun hσ19 => ?_
        refine r_istore (pc := 100) (ls1 := [(7, .int v16), (6, .int v12), (5, .int s7), (0, .ref (ad g 1)), (1, .int v1_), (2, .int v2_), (3, .int v2), (4, .int s6)]) dL_corners_100 (nle rfl) rfl ?_
        refine r_aload_n (pc := 102) (j := 3) dL_corners_102 rfl rfl ?_
        refine r_iload_n (pc := 103) (j := 6) dL_corners_103 rfl rfl ?_
        refine r_iconst (pc := 104) (v := (2 : Int32)) dL_corners_104 rfl ?_
        obtain ⟨v20, σ23, eσ23, hr⟩ := bnd_inv hr
        refine qX7_blob (pc := 105) eσ23 tw_4_149 hz_ ⟨nle rfl, nle rfl⟩ (nle rfl) dL_corners_105 fun hσ23 => ?_
        refine r_istore (pc := 108) (ls1 := [(8, .int v20), (7, .int v16), (6, .int v12), (5, .int s7), (0, .ref (ad g 1)), (1, .int v1_), (2, .int v2_), (3, .int v2), (4, .int s6)]) dL_corners_108 (nle rfl) rfl ?_
        refine r_iload_n (pc := 110) (j := 5) dL_corners_110 rfl rfl ?_
        obtain ⟨j207, ej207, hr⟩ := vth_ex hr
        have hj207 : ∀ (s24 : Int32) (σ25 : SS), j207 s24 σ25 = some r → WT σ25 → RR g mL_corners (FinR g mL_corners (some (.int (b2i r.1))) NF r.2) (NF, zc_, zs_) 207 [(0, .ref (ad g 1)), (2, .int v2_)] [.int s24] σ25 := by
          intro s24 σ25 hr hσ25
          replace hr := (congrFun (congrFun ej207 s24) σ25).symm.trans hr
          refine r_istore_n (pc := 207) (ls1 := [(1, .int s24), (0, .ref (ad g 1)), (2, .int v2_)]) dL_corners_207 rfl (nle rfl) rfl ?_
          refine r_iinc (pc := 208) (j := 2) (v := (v2_ + (1 : Int32))) (ls1 := [(2, .int (v2_ + (1 : Int32))), (1, .int s24), (0, .ref (ad g 1))]) dL_corners_208 rfl rfl (nle rfl) rfl ?_
          refine r_goto (pc := 211) (tgt := 4) dL_corners_211 rfl ?_
          exact r_pick (ls1 := [(0, .ref (ad g 1)), (1, .int s24), (2, .int (v2_ + (1 : Int32)))]) [2, 1, 0] rfl (ih s24 (v2_ + (1 : Int32)) σ25 hr hσ25)
        obtain ⟨j206, ej206, hr⟩ := vth_ex hr
        have hj206 : ∀ (σ26 : SS), j206 σ26 = some r → WT σ26 → RR g mL_corners (FinR g mL_corners (some (.int (b2i r.1))) NF r.2) (NF, zc_, zs_) 206 [(0, .ref (ad g 1)), (2, .int v2_)] [] σ26 := by
          intro σ26 hr hσ26
          replace hr := (congrFun ej206 σ26).symm.trans hr
          refine r_iconst (pc := 206) (v := (0 : Int32)) dL_corners_206 rfl ?_
          exact r_pick (ls1 := [(0, .ref (ad g 1)), (2, .int v2_)]) [0, 1] rfl (hj207 (0 : Int32) σ26 hr hσ26)
        refine r_if_eq (pc := 111) (tgt := 206) dL_corners_111 rfl (fun hc => ?_) (fun hc => ?_)
        · replace hr := ite_t hc hr
          exact r_pick (ls1 := [(0, .ref (ad g 1)), (2, .int v2_)]) [4, 6] rfl (hj206 σ23 hr hσ23)
        replace hr := ite_f hc hr
        refine r_aload_n (pc := 114) (j := 4) dL_corners_114 rfl rfl ?_
        refine r_iload (pc := 115) (j := 8) dL_corners_115 rfl ?_
        refine r_iload (pc := 117) (j := 3) dL_corners_117 rfl ?_
        refine r_iconst (pc := 119) (v := (2 : Int32)) dL_corners_119 rfl ?_
        obtain ⟨v27, σ30, eσ30, hr⟩ := bnd_inv hr
        refine qX7_map (pc := 120) eσ30 tw_4_132 hz_ ⟨nle rfl, nle rfl⟩ (nle rfl) dL_corners_120 fun hσ30 => ?_
        refine r_bipush (pc := 123) (v := (100 : Int32)) dL_corners_123 rfl ?_
        refine r_iload (pc := 125) (j := 1) dL_corners_125 rfl ?_
        refine r_imul (pc := 127) dL_corners_127 ?_
        refine r_iload (pc := 128) (j := 2) dL_corners_128 rfl ?_
        obtain ⟨h31, hr⟩ := grd_inv hr
        refine r_idiv (pc := 130) dL_corners_130 (nz_ne h31) ?_
        refine r_icmp_ne (pc := 131) (tgt := 206) dL_corners_131 rfl (fun hc => ?_) (fun hc => ?_)
        · replace hr := ite_f hc hr
          exact r_pick (ls1 := [(0, .ref (ad g 1)), (2, .int v2_)]) [4, 6] rfl (hj206 σ30 hr hσ30)
        replace hr := ite_t hc hr
        refine r_aload_n (pc := 134) (j := 4) dL_corners_134 rfl rfl ?_
        refine r_iload (pc := 135) (j := 8) dL_corners_135 rfl ?_
        refine r_iload (pc := 137) (j := 3) dL_corners_137 rfl ?_
        refine r_iconst (pc := 139) (v := (3 : Int32)) dL_corners_139 rfl ?_
        obtain ⟨v32, σ35, eσ35, hr⟩ := bnd_inv hr
        refine qX7_map (pc := 140) eσ35 tw_4_132 hz_ ⟨nle rfl, nle rfl⟩ (nle rfl) dL_corners_140 fun hσ35 => ?_
        refine r_bipush (pc := 143) (v := (100 : Int32)) dL_corners_143 rfl ?_
        refine r_iload (pc := 145) (j := 0) dL_corners_145 rfl ?_
        refine r_imul (pc := 147) dL_corners_147 ?_
        refine r_iload (pc := 148) (j := 2) dL_corners_148 rfl ?_
        refine r_idiv (pc := 150) dL_corners_150 (nz_ne h31) ?_
        refine r_icmp_ne (pc := 151) (tgt := 206) dL_corners_151 rfl (fun hc => ?_) (fun hc => ?_)
        · replace hr := ite_f hc hr
          exact r_pick (ls1 := [(0, .ref (ad g 1)), (2, .int v2_)]) [4, 6] rfl (hj206 σ35 hr hσ35)
        replace hr := ite_t hc hr
        refine r_aload_n (pc := 154) (j := 4) dL_corners_154 rfl rfl ?_
        refine r_iload (pc := 155) (j := 8) dL_corners_155 rfl ?_
        refine r_iload (pc := 157) (j := 3) dL_corners_157 rfl ?_
        refine r_iconst (pc := 159) (v := (0 : Int32)) dL_corners_159 rfl ?_
        obtain ⟨v36, σ39, eσ39, hr⟩ := bnd_inv hr
        refine qX7_map (pc := 160) eσ39 tw_4_132 hz_ ⟨nle rfl, nle rfl⟩ (nle rfl) dL_corners_160 fun hσ39 => ?_
        refine r_iconst (pc := 163) (v := (2 : Int32)) dL_corners_163 rfl ?_
        refine r_iload (pc := 164) (j := 1) dL_corners_164 rfl ?_
        refine r_imul (pc := 166) dL_corners_166 ?_
        refine r_iload (pc := 167) (j := 2) dL_corners_167 rfl ?_
        refine r_iadd (pc := 169) dL_corners_169 ?_
        refine r_iconst (pc := 170) (v := (2 : Int32)) dL_corners_170 rfl ?_
        refine r_iload (pc := 171) (j := 2) dL_corners_171 rfl ?_
        refine r_imul (pc := 173) dL_corners_173 ?_
        obtain ⟨h40, hr⟩ := grd_inv hr
        refine r_idiv (pc := 174) dL_corners_174 (nz_ne h40) ?_
        refine r_icmp_ne (pc := 175) (tgt := 206) dL_corners_175 rfl (fun hc => ?_) (fun hc => ?_)
        · replace hr := ite_f hc hr
          exact r_pick (ls1 := [(0, .ref (ad g 1)), (2, .int v2_)]) [4, 6] rfl (hj206 σ39 hr hσ39)
        replace hr := ite_t hc hr
        refine r_aload_n (pc := 178) (j := 4) dL_corners_178 rfl rfl ?_
        refine r_iload (pc := 179) (j := 8) dL_corners_179 rfl ?_
        refine r_iload (pc := 181) (j := 3) dL_corners_181 rfl ?_
        refine r_iconst (pc := 183) (v := (1 : Int32)) dL_corners_183 rfl ?_
        obtain ⟨v41, σ44, eσ44, hr⟩ := bnd_inv hr
        refine qX7_map (pc := 184) eσ44 tw_4_132 hz_ ⟨nle rfl, nle rfl⟩ (nle rfl) dL_corners_184 fun hσ44 => ?_
        refine r_iconst (pc := 187) (v := (2 : Int32)) dL_corners_187 rfl ?_
        refine r_iload (pc := 188) (j := 0) dL_corners_188 rfl ?_
        refine r_imul (pc := 190) dL_corners_190 ?_
        refine r_iload (pc := 191) (j := 2) dL_corners_191 rfl ?_
        refine r_iadd (pc := 193) dL_corners_193 ?_
        refine r_iconst (pc := 194) (v := (2 : Int32)) dL_corners_194 rfl ?_
        refine r_iload (pc := 195) (j := 2) dL_corners_195 rfl ?_
        refine r_imul (pc := 197) dL_corners_197 ?_
        refine r_idiv (pc := 198) dL_corners_198 (nz_ne h40) ?_
        refine r_icmp_ne (pc := 199) (tgt := 206) dL_corners_199 rfl (fun hc => ?_) (fun hc => ?_)
        · replace hr := ite_f hc hr
          exact r_pick (ls1 := [(0, .ref (ad g 1)), (2, .int v2_)]) [4, 6] rfl (hj206 σ44 hr hσ44)
        replace hr := ite_t hc hr
        refine r_iconst (pc := 202) (v := (1 : Int32)) dL_corners_202 rfl ?_
        refine r_goto (pc := 203) (tgt := 207) dL_corners_203 rfl ?_
        exact r_pick (ls1 := [(0, .ref (ad g 1)), (2, .int v2_)]) [4, 6] rfl (hj207 (1 : Int32) σ44 hr hσ44)
      replace hr := ite_t hc hr
      refine r_iload_n (pc := 59) (j := 2) dL_corners_59 rfl rfl ?_
      obtain ⟨j82, ej82, hr⟩ := vth_ex hr
      have hj82 : ∀ (s45 : Int32) (σ46 : SS), j82 s45 σ46 = some r → WT σ46 → RR g mL_corners (FinR g mL_corners (some (.int (b2i r.1))) NF r.2) (NF, zc_, zs_) 82 [(0, .ref (ad g 1)), (2, .int v2_)] [.int s45] σ46 := by
        intro s45 σ46 hr hσ46
        replace hr := (congrFun (congrFun ej82 s45) σ46).symm.trans hr
        refine r_istore_n (pc := 82) (ls1 := [(1, .int s45), (0, .ref (ad g 1)), (2, .int v2_)]) dL_corners_82 rfl (nle rfl) rfl ?_
        refine r_goto (pc := 83) (tgt := 208) dL_corners_83 rfl ?_
        refine r_iinc (pc := 208) (j := 2) (v := (v2_ + (1 : Int32))) (ls1 := [(2, .int (v2_ + (1 : Int32))), (1, .int s45), (0, .ref (ad g 1))]) dL_corners_208 rfl rfl (nle rfl) rfl ?_
        refine r_goto (pc := 211) (tgt := 4) dL_corners_211 rfl ?_
        exact r_pick (ls1 := [(0, .ref (ad g 1)), (1, .int s45), (2, .int (v2_ + (1 : Int32)))]) [2, 1, 0] rfl (ih s45 (v2_ + (1 : Int32)) σ46 hr hσ46)
      obtain ⟨j81, ej81, hr⟩ := vth_ex hr
      have hj81 : ∀ (σ47 : SS), j81 σ47 = some r → WT σ47 → RR g mL_corners (FinR g mL_corners (some (.int (b2i r.1))) NF r.2) (NF, zc_, zs_) 81 [(0, .ref (ad g 1)), (2, .int v2_)] [] σ47 := by
        intro σ47 hr hσ47
        replace hr := (congrFun ej81 σ47).symm.trans hr
        refine r_iconst (pc := 81) (v := (0 : Int32)) dL_corners_81 rfl ?_
        exact r_pick (ls1 := [(0, .ref (ad g 1)), (2, .int v2_)]) [0, 1] rfl (hj82 (0 : Int32) σ47 hr hσ47)
      refine r_if_eq (pc := 60) (tgt := 81) dL_corners_60 rfl (fun hc => ?_) (fun hc => ?_)
      · replace hr := ite_t hc hr
        exact r_pick (ls1 := [(0, .ref (ad g 1)), (2, .int v2_)]) [1, 3] rfl (hj81 σ11 hr hσ11)
      replace hr := ite_f hc hr
      refine r_aload_n (pc := 63) (j := 1) dL_corners_63 rfl rfl ?_
      refine r_iload (pc := 64) (j := 5) dL_corners_64 rfl ?_
      refine r_iload (pc := 66) (j := 0) dL_corners_66 rfl ?_
      refine r_iconst (pc := 68) (v := (0 : Int32)) dL_corners_68 rfl ?_
      obtain ⟨v48, σ51, eσ51, hr⟩ := bnd_inv hr
      refine qX7_map (pc := 69) eσ51 tw_4_132 hz_ ⟨nle rfl, nle rfl⟩ (nle rfl) dL_corners_69 fun hσ51 => ?_
      refine r_bipush (pc := 72) (v := (-2 : Int32)) dL_corners_72 rfl ?_
      refine r_icmp_ne (pc := 74) (tgt := 81) dL_corners_74 rfl (fun hc => ?_) (fun hc => ?_)
      · replace hr := ite_f hc hr
        exact r_pick (ls1 := [(0, .ref (ad g 1)), (2, .int v2_)]) [1, 3] rfl (hj81 σ51 hr hσ51)
      replace hr := ite_t hc hr
      refine r_iconst (pc := 77) (v := (1 : Int32)) dL_corners_77 rfl ?_
      refine r_goto (pc := 78) (tgt := 82) dL_corners_78 rfl ?_
      exact r_pick (ls1 := [(0, .ref (ad g 1)), (2, .int v2_)]) [1, 3] rfl (hj82 (1 : Int32) σ51 hr hσ51)
    refine r_icmp_ge (pc := 36) (tgt := 43) dL_corners_36 rfl (fun hc => ?_) (fun hc => ?_)
    · replace hr := ite_t hc hr
      refine r_iconst (pc := 43) (v := (2 : Int32)) dL_corners_43 rfl ?_
      refine r_aload_n (pc := 44) (j := 1) dL_corners_44 rfl rfl ?_
      refine r_iconst (pc := 45) (v := (5 : Int32)) dL_corners_45 rfl ?_
      obtain ⟨v52, hv52, hr⟩ := bnd1_inv hr
      refine qX7_count (pc := 46) hv52 tw_2_146 hz_ ⟨nle rfl, nle rfl⟩ (nle rfl) dL_corners_46 ?_
      refine r_imul (pc := 49) dL_corners_49 ?_
      exact r_pick (ls1 := [(0, .ref (ad g 1)), (1, .int v1_), (2, .int v2_), (3, .int v2), (4, .int s6)]) [1, 2, 3, 4, 0] rfl (hj50 ((2 : Int32) * v52) hr)
    replace hr := ite_f hc hr
    refine r_iconst (pc := 39) (v := (0 : Int32)) dL_corners_39 rfl ?_
    refine r_goto (pc := 40) (tgt := 50) dL_corners_40 rfl ?_
    exact r_pick (ls1 := [(0, .ref (ad g 1)), (1, .int v1_), (2, .int v2_), (3, .int v2), (4, .int s6)]) [1, 2, 3, 4, 0] rfl (hj50 (0 : Int32) hr)
  refine r_if_ne (pc := 18) (tgt := 25) dL_corners_18 rfl (fun hc => ?_) (fun hc => ?_)
  · replace hr := ite_f hc hr
    refine r_iconst (pc := 25) (v := (2 : Int32)) dL_corners_25 rfl ?_
    refine r_aload_n (pc := 26) (j := 1) dL_corners_26 rfl rfl ?_
    refine r_iconst (pc := 27) (v := (4 : Int32)) dL_corners_27 rfl ?_
    obtain ⟨v55, hv55, hr⟩ := bnd1_inv hr
    refine qX7_count (pc := 28) hv55 tw_2_146 hz_ ⟨nle rfl, nle rfl⟩ (nle rfl) dL_corners_28 ?_
    refine r_imul (pc := 31) dL_corners_31 ?_
    exact r_pick (ls1 := [(0, .ref (ad g 1)), (1, .int v1_), (2, .int v2_), (3, .int v2)]) [1, 2, 3, 0] rfl (hj32 ((2 : Int32) * v55) hr)
  replace hr := ite_t hc hr
  refine r_iconst (pc := 21) (v := (0 : Int32)) dL_corners_21 rfl ?_
  refine r_goto (pc := 22) (tgt := 32) dL_corners_22 rfl ?_
  exact r_pick (ls1 := [(0, .ref (ad g 1)), (1, .int v1_), (2, .int v2_), (3, .int v2)]) [1, 2, 3, 0] rfl (hj32 (0 : Int32) hr)

set_option maxRecDepth 20000 in
set_option maxHeartbeats 4000000 in
theorem sL_corners {g : GG} {σ : SS}  {r : Bool × SS} (hr : fL_corners σ = some r)  : Ct g mL_corners [.ref (ad g 1)] NF σ (some (.int (b2i r.1))) NF r.2 := by
  refine Ct.of (by decide +kernel) (nle rfl) fun hw0 => ?_
  have hw := hw0 rfl
  unfold fL_corners at hr
  change RR g mL_corners (FinR g mL_corners (some (.int (b2i r.1))) NF r.2) (NF, 0, 0) 0 [(0, .ref (ad g 1))] [] σ
  refine r_iconst (pc := 0) (v := (1 : Int32)) dL_corners_0 rfl ?_
  refine r_istore_n (pc := 1) (ls1 := [(1, .int (1 : Int32)), (0, .ref (ad g 1))]) dL_corners_1 rfl (nle rfl) rfl ?_
  refine r_iconst (pc := 2) (v := (0 : Int32)) dL_corners_2 rfl ?_
  refine r_istore_n (pc := 3) (ls1 := [(2, .int (0 : Int32)), (1, .int (1 : Int32)), (0, .ref (ad g 1))]) dL_corners_3 rfl (nle rfl) rfl ?_
  refine r_pick (ls1 := [(0, .ref (ad g 1)), (1, .int (1 : Int32)), (2, .int (0 : Int32))]) [2, 1, 0] rfl ?_
  refine sL_corners_L4 ⟨nle rfl, nle rfl⟩    fuel (1 : Int32) (0 : Int32) σ hr hw

theorem qL_corners {g : GG} {σ : SS}  {v : Bool} {σ2 : SS} {M : MM} {F : State → Array Value → List Frame → State → Prop} {zc zs pc index : Nat} {ls : List (Nat × Value)} {rest : List Value} (hf : fL_corners σ = some (v, σ2))  (hl : Cond.methodLink M.1.cls index yL_corners ∈ lw_gt) (hz : zc ≤ M.2.2.2.2.cells ∧ zs ≤ M.2.2.2.2.slots) (hR : mL_corners.2.2.2.2.frames + 1 ≤ M.2.2.2.2.frames ∧ 8 + (mL_corners.2.2.1 + 11) + mL_corners.2.2.2.2.locals ≤ M.2.2.2.2.locals) (hrest : (rest.map fun v => v.category).sum ≤ 8) (hd : decode M.2.1 pc = .ok (.invokestatic index, 3)) (k : WT σ2 → RR g M F (NF, zc, zs) (pc + 3) ls (.int (b2i v) :: rest) σ2) : RR g M F (NF, zc, zs) pc ls (.ref (ad g 1) :: rest) σ :=
  r_callS (z := (NF, zc, zs)) (N := mL_corners) (nn := 1) (o1 := some (.int (b2i v))) (sL_corners hf ) tw_4_127 tw_1_0 hl tw_4_126 ⟨by decide, by decide, rfl⟩ hR rfl hrest hd hz rfl (fun h => k (h rfl))

