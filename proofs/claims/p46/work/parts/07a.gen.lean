/-! Walks written by a program out of the bytecode: each method as a function over the store, and its contract. -/
theorem dX6_notBelow_0 : decode cX6_notBelow 0 = .ok (.iconst 0, 1) := by decide +kernel
theorem dX6_notBelow_1 : decode cX6_notBelow 1 = .ok (.istore_n 2, 1) := by decide +kernel
theorem dX6_notBelow_2 : decode cX6_notBelow 2 = .ok (.iconst 0, 1) := by decide +kernel
theorem dX6_notBelow_3 : decode cX6_notBelow 3 = .ok (.istore_n 3, 1) := by decide +kernel
theorem dX6_notBelow_4 : decode cX6_notBelow 4 = .ok (.iload_n 3, 1) := by decide +kernel
theorem dX6_notBelow_5 : decode cX6_notBelow 5 = .ok (.aload_n 0, 1) := by decide +kernel
theorem dX6_notBelow_6 : decode cX6_notBelow 6 = .ok (.getfield 18, 3) := by decide +kernel
theorem dX6_notBelow_9 : decode cX6_notBelow 9 = .ok (.aload_n 0, 1) := by decide +kernel
theorem dX6_notBelow_10 : decode cX6_notBelow 10 = .ok (.getfield 22, 3) := by decide +kernel
theorem dX6_notBelow_13 : decode cX6_notBelow 13 = .ok (.imul, 1) := by decide +kernel
theorem dX6_notBelow_14 : decode cX6_notBelow 14 = .ok (.if_icmp .ge 22, 3) := by decide +kernel
theorem dX6_notBelow_17 : decode cX6_notBelow 17 = .ok (.aload_n 0, 1) := by decide +kernel
theorem dX6_notBelow_18 : decode cX6_notBelow 18 = .ok (.getfield 9, 3) := by decide +kernel
theorem dX6_notBelow_21 : decode cX6_notBelow 21 = .ok (.iload_n 3, 1) := by decide +kernel
theorem dX6_notBelow_22 : decode cX6_notBelow 22 = .ok (.iaload, 1) := by decide +kernel
theorem dX6_notBelow_23 : decode cX6_notBelow 23 = .ok (.iload_n 1, 1) := by decide +kernel
theorem dX6_notBelow_24 : decode cX6_notBelow 24 = .ok (.if_icmp .lt 6, 3) := by decide +kernel
theorem dX6_notBelow_27 : decode cX6_notBelow 27 = .ok (.iinc 2 1, 3) := by decide +kernel
theorem dX6_notBelow_30 : decode cX6_notBelow 30 = .ok (.iinc 3 1, 3) := by decide +kernel
theorem dX6_notBelow_33 : decode cX6_notBelow 33 = .ok (.goto (-29), 3) := by decide +kernel
theorem dX6_notBelow_36 : decode cX6_notBelow 36 = .ok (.iload_n 2, 1) := by decide +kernel
theorem dX6_notBelow_37 : decode cX6_notBelow 37 = .ok (.ireturn, 1) := by decide +kernel
def mX6_notBelow : MM := (yX6_notBelow, cX6_notBelow, 4, Option.some Jvm.ClassFile.FieldType.int, { frames := 0, cells := 0, slots := 0, locals := 0 })
def X6_notBelow_L4 (σ_ : SS) (o0_ : Nat) (u1_ : Int32)  : Nat → Int32 → Int32 → Option Int32 :=
  lp (fun _ _ => none) fun rec v2_ v3_ =>
    if ((gI σ_ o0_ 0) * (gI σ_ o0_ 1)) ≤ v3_ then (
      some v2_
      ) else (
      grd (inb v3_ 1600) <|
      if (gI σ_ (o0_ + 1) (Int32.toNatClampNeg v3_)) < u1_ then (
        rec v2_ (v3_ + (1 : Int32))
        ) else (
        rec (v2_ + (1 : Int32)) (v3_ + (1 : Int32))
        )
      )

def fX6_notBelow (σ0 : SS) (a0 : Nat) (a1 : Int32) : Option Int32 :=
  X6_notBelow_L4 σ0 a0 a1
  fuel (0 : Int32) (0 : Int32)

set_option maxRecDepth 20000 in
theorem sX6_notBelow_L4 {g : GG} {r : Int32} {σ_ : SS} {σ0 : SS} {o0_ : Nat} {u1_ : Int32}  (hs0_ : shp o0_ = (6, 0))
    (hw_ : WT σ_)
    (h0_ : σ_ = σ0)
    (n : Nat) : ∀ (v2_ : Int32) (v3_ : Int32), X6_notBelow_L4 σ_ o0_ u1_ n v2_ v3_ = some r → RR g mX6_notBelow (FinR g mX6_notBelow (some (.int r)) NF σ0) zF 4 [(0, .ref (ad g o0_)), (1, .int u1_), (2, .int v2_), (3, .int v3_)] [] σ_ := by
  unfold X6_notBelow_L4
  refine lp_ind (P := fun (rec : Int32 → Int32 → Option Int32) => ∀ (v2_ : Int32) (v3_ : Int32), rec v2_ v3_ = some r → RR g mX6_notBelow (FinR g mX6_notBelow (some (.int r)) NF σ0) zF 4 [(0, .ref (ad g o0_)), (1, .int u1_), (2, .int v2_), (3, .int v3_)] [] σ_) ?_ ?_ n
  · intro v2_ v3_ hr; cases hr
  intro rec ih v2_ v3_ hr
  subst h0_
  refine r_iload_n (pc := 4) (j := 3) dX6_notBelow_4 rfl rfl ?_
  refine r_aload_n (pc := 5) (j := 0) dX6_notBelow_5 rfl rfl ?_
  refine gf6_0 (pc := 6) tw_1_31 hs0_ dX6_notBelow_6 ?_
  refine r_aload_n (pc := 9) (j := 0) dX6_notBelow_9 rfl rfl ?_
  refine gf6_1 (pc := 10) tw_1_36 hs0_ dX6_notBelow_10 ?_
  refine r_imul (pc := 13) dX6_notBelow_13 ?_
  refine r_icmp_ge (pc := 14) (tgt := 36) dX6_notBelow_14 rfl (fun hc => ?_) (fun hc => ?_)
  · replace hr := ite_t hc hr
    refine r_iload_n (pc := 36) (j := 2) dX6_notBelow_36 rfl rfl ?_
    exact l_opi hr (r_iret (pc := 37) (v := v2_) rfl rfl ⟨Nat.le_refl _, Nat.le_refl _⟩ dX6_notBelow_37)
  replace hr := ite_f hc hr
  refine r_aload_n (pc := 17) (j := 0) dX6_notBelow_17 rfl rfl ?_
  refine gf6_2 (pc := 18) tw_1_38 hw_ hs0_ dX6_notBelow_18 ?_
  refine r_iload_n (pc := 21) (j := 3) dX6_notBelow_21 rfl rfl ?_
  obtain ⟨h1, hr⟩ := grd_inv hr
  refine x_iald (pc := 22) (k := (Int32.toNatClampNeg v3_)) (sh6_2 hs0_) h1 rfl dX6_notBelow_22 ?_
  refine r_iload_n (pc := 23) (j := 1) dX6_notBelow_23 rfl rfl ?_
  refine r_icmp_lt (pc := 24) (tgt := 30) dX6_notBelow_24 rfl (fun hc => ?_) (fun hc => ?_)
  · replace hr := ite_t hc hr
    refine r_iinc (pc := 30) (j := 3) (v := (v3_ + (1 : Int32))) (ls1 := [(3, .int (v3_ + (1 : Int32))), (0, .ref (ad g o0_)), (1, .int u1_), (2, .int v2_)]) dX6_notBelow_30 rfl rfl (nle rfl) rfl ?_
    refine r_goto (pc := 33) (tgt := 4) dX6_notBelow_33 rfl ?_
    exact r_pick (ls1 := [(0, .ref (ad g o0_)), (1, .int u1_), (2, .int v2_), (3, .int (v3_ + (1 : Int32)))]) [1, 2, 3, 0] rfl (ih v2_ (v3_ + (1 : Int32)) hr)
  replace hr := ite_f hc hr
  refine r_iinc (pc := 27) (j := 2) (v := (v2_ + (1 : Int32))) (ls1 := [(2, .int (v2_ + (1 : Int32))), (0, .ref (ad g o0_)), (1, .int u1_), (3, .int v3_)]) dX6_notBelow_27 rfl rfl (nle rfl) rfl ?_
  refine r_iinc (pc := 30) (j := 3) (v := (v3_ + (1 : Int32))) (ls1 := [(3, .int (v3_ + (1 : Int32))), (2, .int (v2_ + (1 : Int32))), (0, .ref (ad g o0_)), (1, .int u1_)]) dX6_notBelow_30 rfl rfl (nle rfl) rfl ?_
  refine r_goto (pc := 33) (tgt := 4) dX6_notBelow_33 rfl ?_
  exact r_pick (ls1 := [(0, .ref (ad g o0_)), (1, .int u1_), (2, .int (v2_ + (1 : Int32))), (3, .int (v3_ + (1 : Int32)))]) [2, 3, 1, 0] rfl (ih (v2_ + (1 : Int32)) (v3_ + (1 : Int32)) hr)

set_option maxRecDepth 20000 in
theorem sX6_notBelow {g : GG} {σ0 : SS} {a0 : Nat} {a1 : Int32} {r : Int32} (hr : fX6_notBelow σ0 a0 a1 = some r) (hs0 : shp a0 = (6, 0)) : Ct g mX6_notBelow [.ref (ad g a0), .int a1] NF σ0 (some (.int r)) NF σ0 := by
  refine Ct.of (by decide +kernel) (nle rfl) fun hw0 => ?_
  have hw := hw0 rfl
  unfold fX6_notBelow at hr
  change RR g mX6_notBelow (FinR g mX6_notBelow (some (.int r)) NF σ0) zF 0 [(0, .ref (ad g a0)), (1, .int a1)] [] σ0
  refine r_iconst (pc := 0) (v := (0 : Int32)) dX6_notBelow_0 rfl ?_
  refine r_istore_n (pc := 1) (ls1 := [(2, .int (0 : Int32)), (0, .ref (ad g a0)), (1, .int a1)]) dX6_notBelow_1 rfl (nle rfl) rfl ?_
  refine r_iconst (pc := 2) (v := (0 : Int32)) dX6_notBelow_2 rfl ?_
  refine r_istore_n (pc := 3) (ls1 := [(3, .int (0 : Int32)), (2, .int (0 : Int32)), (0, .ref (ad g a0)), (1, .int a1)]) dX6_notBelow_3 rfl (nle rfl) rfl ?_
  refine r_pick (ls1 := [(0, .ref (ad g a0)), (1, .int a1), (2, .int (0 : Int32)), (3, .int (0 : Int32))]) [2, 3, 1, 0] rfl ?_
  refine sX6_notBelow_L4 hs0 hw rfl  fuel (0 : Int32) (0 : Int32) hr

theorem kX6_notBelow {g : GG} {σ0 : SS} {a0 : Nat} {a1 : Int32} {v : Int32} {M : MM} {F : State → Array Value → List Frame → State → Prop} {pc index : Nat} {ls : List (Nat × Value)} {rest : List Value} (hf : fX6_notBelow σ0 a0 a1 = some v) (hs0 : shp a0 = (6, 0)) (hl : Cond.methodLink M.1.cls index yX6_notBelow ∈ lw_gt) (hR : mX6_notBelow.2.2.2.2.frames + 1 ≤ M.2.2.2.2.frames ∧ 8 + (mX6_notBelow.2.2.1 + 11) + mX6_notBelow.2.2.2.2.locals ≤ M.2.2.2.2.locals) (hrest : (rest.map fun v => v.category).sum ≤ 8) (hd : decode M.2.1 pc = .ok (.invokevirtual index, 3)) (k : RR g M F zF (pc + 3) ls (.int v :: rest) σ0) : RR g M F zF pc ls (.int a1 :: .ref (ad g a0) :: rest) σ0 :=
  r_callV (z := zF) (N := mX6_notBelow) (nn := 1) (o1 := some (.int v)) (sX6_notBelow hf hs0) hs0 (by decide) (shp_le hs0 (nle rfl)) (ci := 6) rfl rfl tw_2_153 tw_1_2 hl tw_2_151 tw_2_152 ⟨by decide, by decide, rfl⟩ hR rfl hrest hd ⟨Nat.zero_le _, Nat.zero_le _⟩ rfl (fun h => k)

theorem dX6_sumNotBelow_0 : decode cX6_sumNotBelow 0 = .ok (.iconst 0, 1) := by decide +kernel
theorem dX6_sumNotBelow_1 : decode cX6_sumNotBelow 1 = .ok (.istore_n 2, 1) := by decide +kernel
theorem dX6_sumNotBelow_2 : decode cX6_sumNotBelow 2 = .ok (.iconst 0, 1) := by decide +kernel
theorem dX6_sumNotBelow_3 : decode cX6_sumNotBelow 3 = .ok (.istore_n 3, 1) := by decide +kernel
theorem dX6_sumNotBelow_4 : decode cX6_sumNotBelow 4 = .ok (.iload_n 3, 1) := by decide +kernel
theorem dX6_sumNotBelow_5 : decode cX6_sumNotBelow 5 = .ok (.aload_n 0, 1) := by decide +kernel
theorem dX6_sumNotBelow_6 : decode cX6_sumNotBelow 6 = .ok (.getfield 18, 3) := by decide +kernel
theorem dX6_sumNotBelow_9 : decode cX6_sumNotBelow 9 = .ok (.aload_n 0, 1) := by decide +kernel
theorem dX6_sumNotBelow_10 : decode cX6_sumNotBelow 10 = .ok (.getfield 22, 3) := by decide +kernel
theorem dX6_sumNotBelow_13 : decode cX6_sumNotBelow 13 = .ok (.imul, 1) := by decide +kernel
theorem dX6_sumNotBelow_14 : decode cX6_sumNotBelow 14 = .ok (.if_icmp .ge 28, 3) := by decide +kernel
theorem dX6_sumNotBelow_17 : decode cX6_sumNotBelow 17 = .ok (.aload_n 0, 1) := by decide +kernel
theorem dX6_sumNotBelow_18 : decode cX6_sumNotBelow 18 = .ok (.getfield 9, 3) := by decide +kernel
theorem dX6_sumNotBelow_21 : decode cX6_sumNotBelow 21 = .ok (.iload_n 3, 1) := by decide +kernel
theorem dX6_sumNotBelow_22 : decode cX6_sumNotBelow 22 = .ok (.iaload, 1) := by decide +kernel
theorem dX6_sumNotBelow_23 : decode cX6_sumNotBelow 23 = .ok (.iload_n 1, 1) := by decide +kernel
theorem dX6_sumNotBelow_24 : decode cX6_sumNotBelow 24 = .ok (.if_icmp .lt 12, 3) := by decide +kernel
theorem dX6_sumNotBelow_27 : decode cX6_sumNotBelow 27 = .ok (.iload_n 2, 1) := by decide +kernel
theorem dX6_sumNotBelow_28 : decode cX6_sumNotBelow 28 = .ok (.aload_n 0, 1) := by decide +kernel
theorem dX6_sumNotBelow_29 : decode cX6_sumNotBelow 29 = .ok (.getfield 9, 3) := by decide +kernel
theorem dX6_sumNotBelow_32 : decode cX6_sumNotBelow 32 = .ok (.iload_n 3, 1) := by decide +kernel
theorem dX6_sumNotBelow_33 : decode cX6_sumNotBelow 33 = .ok (.iaload, 1) := by decide +kernel
theorem dX6_sumNotBelow_34 : decode cX6_sumNotBelow 34 = .ok (.iadd, 1) := by decide +kernel
theorem dX6_sumNotBelow_35 : decode cX6_sumNotBelow 35 = .ok (.istore_n 2, 1) := by decide +kernel
theorem dX6_sumNotBelow_36 : decode cX6_sumNotBelow 36 = .ok (.iinc 3 1, 3) := by decide +kernel
theorem dX6_sumNotBelow_39 : decode cX6_sumNotBelow 39 = .ok (.goto (-35), 3) := by decide +kernel
theorem dX6_sumNotBelow_42 : decode cX6_sumNotBelow 42 = .ok (.iload_n 2, 1) := by decide +kernel
theorem dX6_sumNotBelow_43 : decode cX6_sumNotBelow 43 = .ok (.ireturn, 1) := by decide +kernel
def mX6_sumNotBelow : MM := (yX6_sumNotBelow, cX6_sumNotBelow, 4, Option.some Jvm.ClassFile.FieldType.int, { frames := 0, cells := 0, slots := 0, locals := 0 })
def X6_sumNotBelow_L4 (σ_ : SS) (o0_ : Nat) (u1_ : Int32)  : Nat → Int32 → Int32 → Option Int32 :=
  lp (fun _ _ => none) fun rec v2_ v3_ =>
    if ((gI σ_ o0_ 0) * (gI σ_ o0_ 1)) ≤ v3_ then (
      some v2_
      ) else (
      grd (inb v3_ 1600) <|
      if (gI σ_ (o0_ + 1) (Int32.toNatClampNeg v3_)) < u1_ then (
        rec v2_ (v3_ + (1 : Int32))
        ) else (
        vthen (v2_ + (gI σ_ (o0_ + 1) (Int32.toNatClampNeg v3_))) fun v2 =>
        rec v2 (v3_ + (1 : Int32))
        )
      )

def fX6_sumNotBelow (σ0 : SS) (a0 : Nat) (a1 : Int32) : Option Int32 :=
  X6_sumNotBelow_L4 σ0 a0 a1
  fuel (0 : Int32) (0 : Int32)

set_option maxRecDepth 20000 in
theorem sX6_sumNotBelow_L4 {g : GG} {r : Int32} {σ_ : SS} {σ0 : SS} {o0_ : Nat} {u1_ : Int32}  (hs0_ : shp o0_ = (6, 0))
    (hw_ : WT σ_)
    (h0_ : σ_ = σ0)
    (n : Nat) : ∀ (v2_ : Int32) (v3_ : Int32), X6_sumNotBelow_L4 σ_ o0_ u1_ n v2_ v3_ = some r → RR g mX6_sumNotBelow (FinR g mX6_sumNotBelow (some (.int r)) NF σ0) zF 4 [(0, .ref (ad g o0_)), (1, .int u1_), (2, .int v2_), (3, .int v3_)] [] σ_ := by
  unfold X6_sumNotBelow_L4
  refine lp_ind (P := fun (rec : Int32 → Int32 → Option Int32) => ∀ (v2_ : Int32) (v3_ : Int32), rec v2_ v3_ = some r → RR g mX6_sumNotBelow (FinR g mX6_sumNotBelow (some (.int r)) NF σ0) zF 4 [(0, .ref (ad g o0_)), (1, .int u1_), (2, .int v2_), (3, .int v3_)] [] σ_) ?_ ?_ n
  · intro v2_ v3_ hr; cases hr
  intro rec ih v2_ v3_ hr
  subst h0_
  refine r_iload_n (pc := 4) (j := 3) dX6_sumNotBelow_4 rfl rfl ?_
  refine r_aload_n (pc := 5) (j := 0) dX6_sumNotBelow_5 rfl rfl ?_
  refine gf6_0 (pc := 6) tw_1_31 hs0_ dX6_sumNotBelow_6 ?_
  refine r_aload_n (pc := 9) (j := 0) dX6_sumNotBelow_9 rfl rfl ?_
  refine gf6_1 (pc := 10) tw_1_36 hs0_ dX6_sumNotBelow_10 ?_
  refine r_imul (pc := 13) dX6_sumNotBelow_13 ?_
  refine r_icmp_ge (pc := 14) (tgt := 42) dX6_sumNotBelow_14 rfl (fun hc => ?_) (fun hc => ?_)
  · replace hr := ite_t hc hr
    refine r_iload_n (pc := 42) (j := 2) dX6_sumNotBelow_42 rfl rfl ?_
    exact l_opi hr (r_iret (pc := 43) (v := v2_) rfl rfl ⟨Nat.le_refl _, Nat.le_refl _⟩ dX6_sumNotBelow_43)
  replace hr := ite_f hc hr
  refine r_aload_n (pc := 17) (j := 0) dX6_sumNotBelow_17 rfl rfl ?_
  refine gf6_2 (pc := 18) tw_1_38 hw_ hs0_ dX6_sumNotBelow_18 ?_
  refine r_iload_n (pc := 21) (j := 3) dX6_sumNotBelow_21 rfl rfl ?_
  obtain ⟨h1, hr⟩ := grd_inv hr
  refine x_iald (pc := 22) (k := (Int32.toNatClampNeg v3_)) (sh6_2 hs0_) h1 rfl dX6_sumNotBelow_22 ?_
  refine r_iload_n (pc := 23) (j := 1) dX6_sumNotBelow_23 rfl rfl ?_
  refine r_icmp_lt (pc := 24) (tgt := 36) dX6_sumNotBelow_24 rfl (fun hc => ?_) (fun hc => ?_)
  · replace hr := ite_t hc hr
    refine r_iinc (pc := 36) (j := 3) (v := (v3_ + (1 : Int32))) (ls1 := [(3, .int (v3_ + (1 : Int32))), (0, .ref (ad g o0_)), (1, .int u1_), (2, .int v2_)]) dX6_sumNotBelow_36 rfl rfl (nle rfl) rfl ?_
    refine r_goto (pc := 39) (tgt := 4) dX6_sumNotBelow_39 rfl ?_
    exact r_pick (ls1 := [(0, .ref (ad g o0_)), (1, .int u1_), (2, .int v2_), (3, .int (v3_ + (1 : Int32)))]) [1, 2, 3, 0] rfl (ih v2_ (v3_ + (1 : Int32)) hr)
  replace hr := ite_f hc hr
  refine r_iload_n (pc := 27) (j := 2) dX6_sumNotBelow_27 rfl rfl ?_
  refine r_aload_n (pc := 28) (j := 0) dX6_sumNotBelow_28 rfl rfl ?_
  refine gf6_2 (pc := 29) tw_1_38 hw_ hs0_ dX6_sumNotBelow_29 ?_
  refine r_iload_n (pc := 32) (j := 3) dX6_sumNotBelow_32 rfl rfl ?_
  refine x_iald (pc := 33) (k := (Int32.toNatClampNeg v3_)) (sh6_2 hs0_) h1 rfl dX6_sumNotBelow_33 ?_
  refine r_iadd (pc := 34) dX6_sumNotBelow_34 ?_
  refine r_topi fun v2 ev2 => ?_
  replace hr := vthen_inv hr v2 ev2
  refine r_istore_n (pc := 35) (ls1 := [(2, .int v2), (0, .ref (ad g o0_)), (1, .int u1_), (3, .int v3_)]) dX6_sumNotBelow_35 rfl (nle rfl) rfl ?_
  refine r_iinc (pc := 36) (j := 3) (v := (v3_ + (1 : Int32))) (ls1 := [(3, .int (v3_ + (1 : Int32))), (2, .int v2), (0, .ref (ad g o0_)), (1, .int u1_)]) dX6_sumNotBelow_36 rfl rfl (nle rfl) rfl ?_
  refine r_goto (pc := 39) (tgt := 4) dX6_sumNotBelow_39 rfl ?_
  exact r_pick (ls1 := [(0, .ref (ad g o0_)), (1, .int u1_), (2, .int v2), (3, .int (v3_ + (1 : Int32)))]) [2, 3, 1, 0] rfl (ih v2 (v3_ + (1 : Int32)) hr)

set_option maxRecDepth 20000 in
theorem sX6_sumNotBelow {g : GG} {σ0 : SS} {a0 : Nat} {a1 : Int32} {r : Int32} (hr : fX6_sumNotBelow σ0 a0 a1 = some r) (hs0 : shp a0 = (6, 0)) : Ct g mX6_sumNotBelow [.ref (ad g a0), .int a1] NF σ0 (some (.int r)) NF σ0 := by
  refine Ct.of (by decide +kernel) (nle rfl) fun hw0 => ?_
  have hw := hw0 rfl
  unfold fX6_sumNotBelow at hr
  change RR g mX6_sumNotBelow (FinR g mX6_sumNotBelow (some (.int r)) NF σ0) zF 0 [(0, .ref (ad g a0)), (1, .int a1)] [] σ0
  refine r_iconst (pc := 0) (v := (0 : Int32)) dX6_sumNotBelow_0 rfl ?_
  refine r_istore_n (pc := 1) (ls1 := [(2, .int (0 : Int32)), (0, .ref (ad g a0)), (1, .int a1)]) dX6_sumNotBelow_1 rfl (nle rfl) rfl ?_
  refine r_iconst (pc := 2) (v := (0 : Int32)) dX6_sumNotBelow_2 rfl ?_
  refine r_istore_n (pc := 3) (ls1 := [(3, .int (0 : Int32)), (2, .int (0 : Int32)), (0, .ref (ad g a0)), (1, .int a1)]) dX6_sumNotBelow_3 rfl (nle rfl) rfl ?_
  refine r_pick (ls1 := [(0, .ref (ad g a0)), (1, .int a1), (2, .int (0 : Int32)), (3, .int (0 : Int32))]) [2, 3, 1, 0] rfl ?_
  refine sX6_sumNotBelow_L4 hs0 hw rfl  fuel (0 : Int32) (0 : Int32) hr

theorem kX6_sumNotBelow {g : GG} {σ0 : SS} {a0 : Nat} {a1 : Int32} {v : Int32} {M : MM} {F : State → Array Value → List Frame → State → Prop} {pc index : Nat} {ls : List (Nat × Value)} {rest : List Value} (hf : fX6_sumNotBelow σ0 a0 a1 = some v) (hs0 : shp a0 = (6, 0)) (hl : Cond.methodLink M.1.cls index yX6_sumNotBelow ∈ lw_gt) (hR : mX6_sumNotBelow.2.2.2.2.frames + 1 ≤ M.2.2.2.2.frames ∧ 8 + (mX6_sumNotBelow.2.2.1 + 11) + mX6_sumNotBelow.2.2.2.2.locals ≤ M.2.2.2.2.locals) (hrest : (rest.map fun v => v.category).sum ≤ 8) (hd : decode M.2.1 pc = .ok (.invokevirtual index, 3)) (k : RR g M F zF (pc + 3) ls (.int v :: rest) σ0) : RR g M F zF pc ls (.int a1 :: .ref (ad g a0) :: rest) σ0 :=
  r_callV (z := zF) (N := mX6_sumNotBelow) (nn := 1) (o1 := some (.int v)) (sX6_sumNotBelow hf hs0) hs0 (by decide) (shp_le hs0 (nle rfl)) (ci := 6) rfl rfl tw_2_157 tw_1_2 hl tw_2_155 tw_2_156 ⟨by decide, by decide, rfl⟩ hR rfl hrest hd ⟨Nat.zero_le _, Nat.zero_le _⟩ rfl (fun h => k)

theorem dX7_count_0 : decode cX7_count 0 = .ok (.iload_n 1, 1) := by decide +kernel
theorem dX7_count_1 : decode cX7_count 1 = .ok (.tableswitch 151 0 10 #[59, 67, 75, 83, 91, 99, 107, 112, 117, 125, 142], 59) := by decide +kernel
theorem dX7_count_60 : decode cX7_count 60 = .ok (.aload_n 0, 1) := by decide +kernel
theorem dX7_count_61 : decode cX7_count 61 = .ok (.getfield 18, 3) := by decide +kernel
theorem dX7_count_64 : decode cX7_count 64 = .ok (.getfield 100, 3) := by decide +kernel
theorem dX7_count_67 : decode cX7_count 67 = .ok (.ireturn, 1) := by decide +kernel
theorem dX7_count_68 : decode cX7_count 68 = .ok (.aload_n 0, 1) := by decide +kernel
theorem dX7_count_69 : decode cX7_count 69 = .ok (.getfield 18, 3) := by decide +kernel
theorem dX7_count_72 : decode cX7_count 72 = .ok (.getfield 103, 3) := by decide +kernel
theorem dX7_count_75 : decode cX7_count 75 = .ok (.ireturn, 1) := by decide +kernel
theorem dX7_count_76 : decode cX7_count 76 = .ok (.aload_n 0, 1) := by decide +kernel
theorem dX7_count_77 : decode cX7_count 77 = .ok (.getfield 32, 3) := by decide +kernel
theorem dX7_count_80 : decode cX7_count 80 = .ok (.getfield 97, 3) := by decide +kernel
theorem dX7_count_83 : decode cX7_count 83 = .ok (.ireturn, 1) := by decide +kernel
theorem dX7_count_84 : decode cX7_count 84 = .ok (.aload_n 0, 1) := by decide +kernel
theorem dX7_count_85 : decode cX7_count 85 = .ok (.getfield 32, 3) := by decide +kernel
theorem dX7_count_88 : decode cX7_count 88 = .ok (.getfield 106, 3) := by decide +kernel
theorem dX7_count_91 : decode cX7_count 91 = .ok (.ireturn, 1) := by decide +kernel
theorem dX7_count_92 : decode cX7_count 92 = .ok (.aload_n 0, 1) := by decide +kernel
theorem dX7_count_93 : decode cX7_count 93 = .ok (.getfield 32, 3) := by decide +kernel
theorem dX7_count_96 : decode cX7_count 96 = .ok (.getfield 109, 3) := by decide +kernel
theorem dX7_count_99 : decode cX7_count 99 = .ok (.ireturn, 1) := by decide +kernel
theorem dX7_count_100 : decode cX7_count 100 = .ok (.aload_n 0, 1) := by decide +kernel
theorem dX7_count_101 : decode cX7_count 101 = .ok (.getfield 32, 3) := by decide +kernel
theorem dX7_count_104 : decode cX7_count 104 = .ok (.getfield 110, 3) := by decide +kernel
theorem dX7_count_107 : decode cX7_count 107 = .ok (.ireturn, 1) := by decide +kernel
theorem dX7_count_108 : decode cX7_count 108 = .ok (.aload_n 0, 1) := by decide +kernel
theorem dX7_count_109 : decode cX7_count 109 = .ok (.getfield 77, 3) := by decide +kernel
theorem dX7_count_112 : decode cX7_count 112 = .ok (.ireturn, 1) := by decide +kernel
theorem dX7_count_113 : decode cX7_count 113 = .ok (.aload_n 0, 1) := by decide +kernel
theorem dX7_count_114 : decode cX7_count 114 = .ok (.getfield 46, 3) := by decide +kernel
theorem dX7_count_117 : decode cX7_count 117 = .ok (.ireturn, 1) := by decide +kernel
theorem dX7_count_118 : decode cX7_count 118 = .ok (.aload_n 0, 1) := by decide +kernel
theorem dX7_count_119 : decode cX7_count 119 = .ok (.getfield 69, 3) := by decide +kernel
theorem dX7_count_122 : decode cX7_count 122 = .ok (.getfield 94, 3) := by decide +kernel
theorem dX7_count_125 : decode cX7_count 125 = .ok (.ireturn, 1) := by decide +kernel
theorem dX7_count_126 : decode cX7_count 126 = .ok (.aload_n 0, 1) := by decide +kernel
theorem dX7_count_127 : decode cX7_count 127 = .ok (.getfield 18, 3) := by decide +kernel
theorem dX7_count_130 : decode cX7_count 130 = .ok (.aload_n 0, 1) := by decide +kernel
theorem dX7_count_131 : decode cX7_count 131 = .ok (.getfield 62, 3) := by decide +kernel
theorem dX7_count_134 : decode cX7_count 134 = .ok (.getfield 111, 3) := by decide +kernel
theorem dX7_count_137 : decode cX7_count 137 = .ok (.iconst 0, 1) := by decide +kernel
theorem dX7_count_138 : decode cX7_count 138 = .ok (.iaload, 1) := by decide +kernel
theorem dX7_count_139 : decode cX7_count 139 = .ok (.invokevirtual 114, 3) := by decide +kernel
theorem dX7_count_142 : decode cX7_count 142 = .ok (.ireturn, 1) := by decide +kernel
theorem dX7_count_143 : decode cX7_count 143 = .ok (.aload_n 0, 1) := by decide +kernel
theorem dX7_count_144 : decode cX7_count 144 = .ok (.getfield 18, 3) := by decide +kernel
theorem dX7_count_147 : decode cX7_count 147 = .ok (.iconst 0, 1) := by decide +kernel
theorem dX7_count_148 : decode cX7_count 148 = .ok (.invokevirtual 118, 3) := by decide +kernel
theorem dX7_count_151 : decode cX7_count 151 = .ok (.ireturn, 1) := by decide +kernel
theorem dX7_count_152 : decode cX7_count 152 = .ok (.iconst (-1), 1) := by decide +kernel
theorem dX7_count_153 : decode cX7_count 153 = .ok (.ireturn, 1) := by decide +kernel
def mX7_count : MM := (yX7_count, cX7_count, 2, Option.some Jvm.ClassFile.FieldType.int, { frames := 1, cells := 0, slots := 0, locals := 23 })
def fX7_count (σ0 : SS) (a1 : Int32) : Option Int32 :=
  if a1 = (0 : Int32) then (
    some (gI σ0 (gR σ0 1 2) 0)
    ) else
  if a1 = (1 : Int32) then (
    some (gI σ0 (gR σ0 1 2) 1)
    ) else
  if a1 = (2 : Int32) then (
    some (gI σ0 (gR σ0 1 5) 5)
    ) else
  if a1 = (3 : Int32) then (
    some (gI σ0 (gR σ0 1 5) 6)
    ) else
  if a1 = (4 : Int32) then (
    some (gI σ0 (gR σ0 1 5) 1)
    ) else
  if a1 = (5 : Int32) then (
    some (gI σ0 (gR σ0 1 5) 2)
    ) else
  if a1 = (6 : Int32) then (
    some (gI σ0 1 1)
    ) else
  if a1 = (7 : Int32) then (
    some (gI σ0 1 8)
    ) else
  if a1 = (8 : Int32) then (
    some (gI σ0 58 0)
    ) else
  if a1 = (9 : Int32) then (
    bnd1 (fX6_notBelow σ0 (gR σ0 1 2) (gI σ0 32 0)) fun v1 =>
    some v1
    ) else
  if a1 = (10 : Int32) then (
    bnd1 (fX6_sumNotBelow σ0 (gR σ0 1 2) (0 : Int32)) fun v4 =>
    some v4
    ) else
  some (-1 : Int32)

set_option maxRecDepth 20000 in
theorem sX7_count {g : GG} {σ0 : SS} {a1 : Int32} {r : Int32} (hr : fX7_count σ0 a1 = some r)  : Ct g mX7_count [.ref (ad g 1), .int a1] NF σ0 (some (.int r)) NF σ0 := by
  refine Ct.of (by decide +kernel) (nle rfl) fun hw0 => ?_
  have hw := hw0 rfl
  unfold fX7_count at hr
  change RR g mX7_count (FinR g mX7_count (some (.int r)) NF σ0) zF 0 [(0, .ref (ad g 1)), (1, .int a1)] [] σ0
  refine r_iload_n (pc := 0) (j := 1) dX7_count_0 rfl rfl ?_
  by_cases hc0 : a1 = (0 : Int32)
  · replace hr := ite_t hc0 hr
    refine r_tabIn (pc := 1) (off := 59) (tgt := 60) dX7_count_1 (by rw [hc0]; decide) (by rw [hc0]; decide) (by rw [hc0]; rfl) rfl ?_
    refine r_aload_n (pc := 60) (j := 0) dX7_count_60 rfl rfl ?_
    refine gf7_2 (pc := 61) tw_2_105 hw dX7_count_61 ?_
    refine gf6_0 (pc := 64) tw_1_34 (wt_sc hw).1 dX7_count_64 ?_
    exact l_opi hr (r_iret (pc := 67) (v := (gI σ0 (gR σ0 1 2) 0)) rfl rfl ⟨Nat.le_refl _, Nat.le_refl _⟩ dX7_count_67)
  replace hr := ite_f hc0 hr
  by_cases hc1 : a1 = (1 : Int32)
  · replace hr := ite_t hc1 hr
    refine r_tabIn (pc := 1) (off := 67) (tgt := 68) dX7_count_1 (by rw [hc1]; decide) (by rw [hc1]; decide) (by rw [hc1]; rfl) rfl ?_
    refine r_aload_n (pc := 68) (j := 0) dX7_count_68 rfl rfl ?_
    refine gf7_2 (pc := 69) tw_2_105 hw dX7_count_69 ?_
    refine gf6_1 (pc := 72) tw_1_37 (wt_sc hw).1 dX7_count_72 ?_
    exact l_opi hr (r_iret (pc := 75) (v := (gI σ0 (gR σ0 1 2) 1)) rfl rfl ⟨Nat.le_refl _, Nat.le_refl _⟩ dX7_count_75)
  replace hr := ite_f hc1 hr
  by_cases hc2 : a1 = (2 : Int32)
  · replace hr := ite_t hc2 hr
    refine r_tabIn (pc := 1) (off := 75) (tgt := 76) dX7_count_1 (by rw [hc2]; decide) (by rw [hc2]; decide) (by rw [hc2]; rfl) rfl ?_
    refine r_aload_n (pc := 76) (j := 0) dX7_count_76 rfl rfl ?_
    refine gf7_5 (pc := 77) tw_2_108 hw dX7_count_77 ?_
    refine gf1_5 (pc := 80) tw_1_78 (wt_fo hw).1 dX7_count_80 ?_
    exact l_opi hr (r_iret (pc := 83) (v := (gI σ0 (gR σ0 1 5) 5)) rfl rfl ⟨Nat.le_refl _, Nat.le_refl _⟩ dX7_count_83)
  replace hr := ite_f hc2 hr
  by_cases hc3 : a1 = (3 : Int32)
  · replace hr := ite_t hc3 hr
    refine r_tabIn (pc := 1) (off := 83) (tgt := 84) dX7_count_1 (by rw [hc3]; decide) (by rw [hc3]; decide) (by rw [hc3]; rfl) rfl ?_
    refine r_aload_n (pc := 84) (j := 0) dX7_count_84 rfl rfl ?_
    refine gf7_5 (pc := 85) tw_2_108 hw dX7_count_85 ?_
    refine gf1_6 (pc := 88) tw_1_83 (wt_fo hw).1 dX7_count_88 ?_
    exact l_opi hr (r_iret (pc := 91) (v := (gI σ0 (gR σ0 1 5) 6)) rfl rfl ⟨Nat.le_refl _, Nat.le_refl _⟩ dX7_count_91)
  replace hr := ite_f hc3 hr
  by_cases hc4 : a1 = (4 : Int32)
  · replace hr := ite_t hc4 hr
    refine r_tabIn (pc := 1) (off := 91) (tgt := 92) dX7_count_1 (by rw [hc4]; decide) (by rw [hc4]; decide) (by rw [hc4]; rfl) rfl ?_
    refine r_aload_n (pc := 92) (j := 0) dX7_count_92 rfl rfl ?_
    refine gf7_5 (pc := 93) tw_2_108 hw dX7_count_93 ?_
    refine gf1_1 (pc := 96) tw_1_64 (wt_fo hw).1 dX7_count_96 ?_
    exact l_opi hr (r_iret (pc := 99) (v := (gI σ0 (gR σ0 1 5) 1)) rfl rfl ⟨Nat.le_refl _, Nat.le_refl _⟩ dX7_count_99)
  replace hr := ite_f hc4 hr
  by_cases hc5 : a1 = (5 : Int32)
  · replace hr := ite_t hc5 hr
    refine r_tabIn (pc := 1) (off := 99) (tgt := 100) dX7_count_1 (by rw [hc5]; decide) (by rw [hc5]; decide) (by rw [hc5]; rfl) rfl ?_
    refine r_aload_n (pc := 100) (j := 0) dX7_count_100 rfl rfl ?_
    refine gf7_5 (pc := 101) tw_2_108 hw dX7_count_101 ?_
    refine gf1_2 (pc := 104) tw_1_68 (wt_fo hw).1 dX7_count_104 ?_
    exact l_opi hr (r_iret (pc := 107) (v := (gI σ0 (gR σ0 1 5) 2)) rfl rfl ⟨Nat.le_refl _, Nat.le_refl _⟩ dX7_count_107)
  replace hr := ite_f hc5 hr
  by_cases hc6 : a1 = (6 : Int32)
  · replace hr := ite_t hc6 hr
    refine r_tabIn (pc := 1) (off := 107) (tgt := 108) dX7_count_1 (by rw [hc6]; decide) (by rw [hc6]; decide) (by rw [hc6]; rfl) rfl ?_
    refine r_aload_n (pc := 108) (j := 0) dX7_count_108 rfl rfl ?_
    refine gf7_1 (pc := 109) tw_2_104 rfl dX7_count_109 ?_
    exact l_opi hr (r_iret (pc := 112) (v := (gI σ0 1 1)) rfl rfl ⟨Nat.le_refl _, Nat.le_refl _⟩ dX7_count_112)
  replace hr := ite_f hc6 hr
  by_cases hc7 : a1 = (7 : Int32)
  · replace hr := ite_t hc7 hr
    refine r_tabIn (pc := 1) (off := 112) (tgt := 113) dX7_count_1 (by rw [hc7]; decide) (by rw [hc7]; decide) (by rw [hc7]; rfl) rfl ?_
    refine r_aload_n (pc := 113) (j := 0) dX7_count_113 rfl rfl ?_
    refine gf7_8 (pc := 114) tw_2_111 rfl dX7_count_114 ?_
    exact l_opi hr (r_iret (pc := 117) (v := (gI σ0 1 8)) rfl rfl ⟨Nat.le_refl _, Nat.le_refl _⟩ dX7_count_117)
  replace hr := ite_f hc7 hr
  by_cases hc8 : a1 = (8 : Int32)
  · replace hr := ite_t hc8 hr
    refine r_tabIn (pc := 1) (off := 117) (tgt := 118) dX7_count_1 (by rw [hc8]; decide) (by rw [hc8]; decide) (by rw [hc8]; rfl) rfl ?_
    refine r_aload_n (pc := 118) (j := 0) dX7_count_118 rfl rfl ?_
    refine gf7_13 (pc := 119) tw_2_116 hw dX7_count_119 ?_
    refine gf4_0 (pc := 122) tw_2_76 rfl dX7_count_122 ?_
    exact l_opi hr (r_iret (pc := 125) (v := (gI σ0 58 0)) rfl rfl ⟨Nat.le_refl _, Nat.le_refl _⟩ dX7_count_125)
  replace hr := ite_f hc8 hr
  by_cases hc9 : a1 = (9 : Int32)
  · replace hr := ite_t hc9 hr
    refine r_tabIn (pc := 1) (off := 125) (tgt := 126) dX7_count_1 (by rw [hc9]; decide) (by rw [hc9]; decide) (by rw [hc9]; rfl) rfl ?_
    refine r_aload_n (pc := 126) (j := 0) dX7_count_126 rfl rfl ?_
    refine gf7_2 (pc := 127) tw_2_105 hw dX7_count_127 ?_
    refine r_aload_n (pc := 130) (j := 0) dX7_count_130 rfl rfl ?_
    refine gf7_12 (pc := 131) tw_2_115 hw dX7_count_131 ?_
    refine gf3_0 (pc := 134) tw_2_21 hw dX7_count_134 ?_
    refine r_iconst (pc := 137) (v := (0 : Int32)) dX7_count_137 rfl ?_
    refine x_iald (pc := 138) (k := 0) rfl (by decide) rfl dX7_count_138 ?_
    obtain ⟨v1, hv1, hr⟩ := bnd1_inv hr
    refine kX6_notBelow (pc := 139) hv1 (wt_sc hw).1 tw_2_150 ⟨nle rfl, nle rfl⟩ (nle rfl) dX7_count_139 ?_
    exact l_opi hr (r_iret (pc := 142) (v := v1) rfl rfl ⟨Nat.le_refl _, Nat.le_refl _⟩ dX7_count_142)
  replace hr := ite_f hc9 hr
  by_cases hc10 : a1 = (10 : Int32)
  · replace hr := ite_t hc10 hr
    refine r_tabIn (pc := 1) (off := 142) (tgt := 143) dX7_count_1 (by rw [hc10]; decide) (by rw [hc10]; decide) (by rw [hc10]; rfl) rfl ?_
    refine r_aload_n (pc := 143) (j := 0) dX7_count_143 rfl rfl ?_
    refine gf7_2 (pc := 144) tw_2_105 hw dX7_count_144 ?_
    refine r_iconst (pc := 147) (v := (0 : Int32)) dX7_count_147 rfl ?_
    obtain ⟨v4, hv4, hr⟩ := bnd1_inv hr
    refine kX6_sumNotBelow (pc := 148) hv4 (wt_sc hw).1 tw_2_154 ⟨nle rfl, nle rfl⟩ (nle rfl) dX7_count_148 ?_
    exact l_opi hr (r_iret (pc := 151) (v := v4) rfl rfl ⟨Nat.le_refl _, Nat.le_refl _⟩ dX7_count_151)
  replace hr := ite_f hc10 hr
  refine r_tabOut (pc := 1) (tgt := 152) dX7_count_1 (tab_out (by decide) (by decide) fun k h1 h2 => ?_) rfl ?_
  · rcases (show k = 0 ∨ k = 1 ∨ k = 2 ∨ k = 3 ∨ k = 4 ∨ k = 5 ∨ k = 6 ∨ k = 7 ∨ k = 8 ∨ k = 9 ∨ k = 10 by omega) with rfl | rfl | rfl | rfl | rfl | rfl | rfl | rfl | rfl | rfl | rfl
    · exact hc0
    · exact hc1
    · exact hc2
    · exact hc3
    · exact hc4
    · exact hc5
    · exact hc6
    · exact hc7
    · exact hc8
    · exact hc9
    · exact hc10
  refine r_iconst (pc := 152) (v := (-1 : Int32)) dX7_count_152 rfl ?_
  exact l_opi hr (r_iret (pc := 153) (v := (-1 : Int32)) rfl rfl ⟨Nat.le_refl _, Nat.le_refl _⟩ dX7_count_153)

theorem kX7_count {g : GG} {σ0 : SS} {a1 : Int32} {v : Int32} {M : MM} {F : State → Array Value → List Frame → State → Prop} {pc index : Nat} {ls : List (Nat × Value)} {rest : List Value} (hf : fX7_count σ0 a1 = some v)  (hl : Cond.methodLink M.1.cls index yX7_count ∈ lw_gt) (hR : mX7_count.2.2.2.2.frames + 1 ≤ M.2.2.2.2.frames ∧ 8 + (mX7_count.2.2.1 + 11) + mX7_count.2.2.2.2.locals ≤ M.2.2.2.2.locals) (hrest : (rest.map fun v => v.category).sum ≤ 8) (hd : decode M.2.1 pc = .ok (.invokevirtual index, 3)) (k : RR g M F zF (pc + 3) ls (.int v :: rest) σ0) : RR g M F zF pc ls (.int a1 :: .ref (ad g 1) :: rest) σ0 :=
  r_callV (z := zF) (N := mX7_count) (nn := 1) (o1 := some (.int v)) (sX7_count hf ) (rfl : shp 1 = (7, 0)) (by decide) (shp_le (rfl : shp 1 = (7, 0)) (nle rfl)) (ci := 7) rfl rfl tw_2_149 tw_1_1 hl tw_2_147 tw_2_148 ⟨by decide, by decide, rfl⟩ hR rfl hrest hd ⟨Nat.zero_le _, Nat.zero_le _⟩ rfl (fun h => k)

theorem dX6_size_0 : decode cX6_size 0 = .ok (.aload_n 0, 1) := by decide +kernel
theorem dX6_size_1 : decode cX6_size 1 = .ok (.getfield 18, 3) := by decide +kernel
theorem dX6_size_4 : decode cX6_size 4 = .ok (.aload_n 0, 1) := by decide +kernel
theorem dX6_size_5 : decode cX6_size 5 = .ok (.getfield 22, 3) := by decide +kernel
theorem dX6_size_8 : decode cX6_size 8 = .ok (.imul, 1) := by decide +kernel
theorem dX6_size_9 : decode cX6_size 9 = .ok (.ireturn, 1) := by decide +kernel
def mX6_size : MM := (yX6_size, cX6_size, 1, Option.some Jvm.ClassFile.FieldType.int, { frames := 0, cells := 0, slots := 0, locals := 0 })
def fX6_size (σ0 : SS) (a0 : Nat) : Int32 :=
  ((gI σ0 a0 0) * (gI σ0 a0 1))

set_option maxRecDepth 20000 in
theorem sX6_size {g : GG} {σ0 : SS} {a0 : Nat} {r : Int32} (hr : fX6_size σ0 a0 = r) (hs0 : shp a0 = (6, 0)) : Ct g mX6_size [.ref (ad g a0)] NF σ0 (some (.int r)) NF σ0 := by
  refine Ct.of (by decide +kernel) (nle rfl) fun hw0 => ?_
  have hw := hw0 rfl
  unfold fX6_size at hr
  change RR g mX6_size (FinR g mX6_size (some (.int r)) NF σ0) zF 0 [(0, .ref (ad g a0))] [] σ0
  refine r_aload_n (pc := 0) (j := 0) dX6_size_0 rfl rfl ?_
  refine gf6_0 (pc := 1) tw_1_31 hs0 dX6_size_1 ?_
  refine r_aload_n (pc := 4) (j := 0) dX6_size_4 rfl rfl ?_
  refine gf6_1 (pc := 5) tw_1_36 hs0 dX6_size_5 ?_
  refine r_imul (pc := 8) dX6_size_8 ?_
  exact l_pi hr (r_iret (pc := 9) (v := ((gI σ0 a0 0) * (gI σ0 a0 1))) rfl rfl ⟨Nat.le_refl _, Nat.le_refl _⟩ dX6_size_9)

theorem kX6_size {g : GG} {σ0 : SS} {a0 : Nat} {v : Int32} {M : MM} {F : State → Array Value → List Frame → State → Prop} {pc index : Nat} {ls : List (Nat × Value)} {rest : List Value} (hf : fX6_size σ0 a0 = v) (hs0 : shp a0 = (6, 0)) (hl : Cond.methodLink M.1.cls index yX6_size ∈ lw_gt) (hR : mX6_size.2.2.2.2.frames + 1 ≤ M.2.2.2.2.frames ∧ 8 + (mX6_size.2.2.1 + 11) + mX6_size.2.2.2.2.locals ≤ M.2.2.2.2.locals) (hrest : (rest.map fun v => v.category).sum ≤ 8) (hd : decode M.2.1 pc = .ok (.invokevirtual index, 3)) (k : RR g M F zF (pc + 3) ls (.int v :: rest) σ0) : RR g M F zF pc ls (.ref (ad g a0) :: rest) σ0 :=
  r_callV (z := zF) (N := mX6_size) (nn := 0) (o1 := some (.int v)) (sX6_size hf hs0) hs0 (by decide) (shp_le hs0 (nle rfl)) (ci := 6) rfl rfl tw_2_218 tw_1_2 hl tw_2_216 tw_2_217 ⟨by decide, by decide, rfl⟩ hR rfl hrest hd ⟨Nat.zero_le _, Nat.zero_le _⟩ rfl (fun h => k)

theorem dX0_join_0 : decode cX0_join 0 = .ok (.iload_n 3, 1) := by decide +kernel
theorem dX0_join_1 : decode cX0_join 1 = .ok (.ifCond .lt 37, 3) := by decide +kernel
theorem dX0_join_4 : decode cX0_join 4 = .ok (.iload_n 3, 1) := by decide +kernel
theorem dX0_join_5 : decode cX0_join 5 = .ok (.sipush 1600, 3) := by decide +kernel
theorem dX0_join_8 : decode cX0_join 8 = .ok (.if_icmp .ge 30, 3) := by decide +kernel
theorem dX0_join_11 : decode cX0_join 11 = .ok (.iload 4, 2) := by decide +kernel
theorem dX0_join_13 : decode cX0_join 13 = .ok (.sipush 1600, 3) := by decide +kernel
theorem dX0_join_16 : decode cX0_join 16 = .ok (.if_icmp .ge 22, 3) := by decide +kernel
theorem dX0_join_19 : decode cX0_join 19 = .ok (.aload_n 0, 1) := by decide +kernel
theorem dX0_join_20 : decode cX0_join 20 = .ok (.getfield 39, 3) := by decide +kernel
theorem dX0_join_23 : decode cX0_join 23 = .ok (.iload_n 3, 1) := by decide +kernel
theorem dX0_join_24 : decode cX0_join 24 = .ok (.baload, 1) := by decide +kernel
theorem dX0_join_25 : decode cX0_join 25 = .ok (.ifCond .ne 13, 3) := by decide +kernel
theorem dX0_join_28 : decode cX0_join 28 = .ok (.aload_n 1, 1) := by decide +kernel
theorem dX0_join_29 : decode cX0_join 29 = .ok (.getfield 70, 3) := by decide +kernel
theorem dX0_join_32 : decode cX0_join 32 = .ok (.iload_n 3, 1) := by decide +kernel
theorem dX0_join_33 : decode cX0_join 33 = .ok (.iaload, 1) := by decide +kernel
theorem dX0_join_34 : decode cX0_join 34 = .ok (.iload_n 2, 1) := by decide +kernel
theorem dX0_join_35 : decode cX0_join 35 = .ok (.if_icmp .ge 6, 3) := by decide +kernel
theorem dX0_join_38 : decode cX0_join 38 = .ok (.iload 4, 2) := by decide +kernel
theorem dX0_join_40 : decode cX0_join 40 = .ok (.ireturn, 1) := by decide +kernel
theorem dX0_join_41 : decode cX0_join 41 = .ok (.aload_n 0, 1) := by decide +kernel
theorem dX0_join_42 : decode cX0_join 42 = .ok (.getfield 39, 3) := by decide +kernel
theorem dX0_join_45 : decode cX0_join 45 = .ok (.iload_n 3, 1) := by decide +kernel
theorem dX0_join_46 : decode cX0_join 46 = .ok (.iconst 1, 1) := by decide +kernel
theorem dX0_join_47 : decode cX0_join 47 = .ok (.bastore, 1) := by decide +kernel
theorem dX0_join_48 : decode cX0_join 48 = .ok (.aload_n 0, 1) := by decide +kernel
theorem dX0_join_49 : decode cX0_join 49 = .ok (.getfield 36, 3) := by decide +kernel
theorem dX0_join_52 : decode cX0_join 52 = .ok (.iload 4, 2) := by decide +kernel
theorem dX0_join_54 : decode cX0_join 54 = .ok (.iload_n 3, 1) := by decide +kernel
theorem dX0_join_55 : decode cX0_join 55 = .ok (.iastore, 1) := by decide +kernel
theorem dX0_join_56 : decode cX0_join 56 = .ok (.iload 4, 2) := by decide +kernel
theorem dX0_join_58 : decode cX0_join 58 = .ok (.iconst 1, 1) := by decide +kernel
theorem dX0_join_59 : decode cX0_join 59 = .ok (.iadd, 1) := by decide +kernel
theorem dX0_join_60 : decode cX0_join 60 = .ok (.ireturn, 1) := by decide +kernel
def mX0_join : MM := (yX0_join, cX0_join, 5, Option.some Jvm.ClassFile.FieldType.int, { frames := 0, cells := 0, slots := 0, locals := 0 })
def fX0_join (σ : SS) (a1 : Nat) (a2 : Int32) (a3 : Int32) (a4 : Int32) : Option (Int32 × SS) :=
  if a3 < 0 then (
    some (a4, σ)
    ) else (
    if (1600 : Int32) ≤ a3 then (
      some (a4, σ)
      ) else (
      if (1600 : Int32) ≤ a4 then (
        some (a4, σ)
        ) else (
        grd (inb a3 1600) <|
        if (gI σ 43 (Int32.toNatClampNeg a3)) = 0 then (
          if a2 ≤ (gI σ (a1 + 1) (Int32.toNatClampNeg a3)) then (
            vthen (sI σ 43 (Int32.toNatClampNeg a3) (Int8.toInt32 (Int32.toInt8 (1 : Int32)))) fun σ2 =>
            grd (inb a4 1600) <|
            vthen (sI σ2 42 (Int32.toNatClampNeg a4) a3) fun σ4 =>
            some ((a4 + (1 : Int32)), σ4)
            ) else (
            some (a4, σ)
            )
          ) else (
          some (a4, σ)
          )
        )
      )
    )

set_option maxRecDepth 20000 in
theorem sX0_join {g : GG} {σ : SS} {a1 : Nat} {a2 : Int32} {a3 : Int32} {a4 : Int32} {r : Int32 × SS} (hr : fX0_join σ a1 a2 a3 a4 = some r) (hs1 : shp a1 = (6, 0)) : Ct g mX0_join [.ref (ad g 33), .ref (ad g a1), .int a2, .int a3, .int a4] NF σ (some (.int r.1)) NF r.2 := by
  refine Ct.of (by decide +kernel) (nle rfl) fun hw0 => ?_
  have hw := hw0 rfl
  unfold fX0_join at hr
  change RR g mX0_join (FinR g mX0_join (some (.int r.1)) NF r.2) zF 0 [(0, .ref (ad g 33)), (1, .ref (ad g a1)), (2, .int a2), (3, .int a3), (4, .int a4)] [] σ
  refine r_iload_n (pc := 0) (j := 3) dX0_join_0 rfl rfl ?_
  refine r_if_lt (pc := 1) (tgt := 38) dX0_join_1 rfl (fun hc => ?_) (fun hc => ?_)
  · replace hr := ite_t hc hr
    refine r_iload (pc := 38) (j := 4) dX0_join_38 rfl ?_
    exact l_osi hr (r_iret (pc := 40) (v := a4) rfl rfl ⟨Nat.le_refl _, Nat.le_refl _⟩ dX0_join_40)
  replace hr := ite_f hc hr
  refine r_iload_n (pc := 4) (j := 3) dX0_join_4 rfl rfl ?_
  refine r_sipush (pc := 5) (v := (1600 : Int32)) dX0_join_5 rfl ?_
  refine r_icmp_ge (pc := 8) (tgt := 38) dX0_join_8 rfl (fun hc => ?_) (fun hc => ?_)
  · replace hr := ite_t hc hr
    refine r_iload (pc := 38) (j := 4) dX0_join_38 rfl ?_
    exact l_osi hr (r_iret (pc := 40) (v := a4) rfl rfl ⟨Nat.le_refl _, Nat.le_refl _⟩ dX0_join_40)
  replace hr := ite_f hc hr
  refine r_iload (pc := 11) (j := 4) dX0_join_11 rfl ?_
  refine r_sipush (pc := 13) (v := (1600 : Int32)) dX0_join_13 rfl ?_
  refine r_icmp_ge (pc := 16) (tgt := 38) dX0_join_16 rfl (fun hc => ?_) (fun hc => ?_)
  · replace hr := ite_t hc hr
    refine r_iload (pc := 38) (j := 4) dX0_join_38 rfl ?_
    exact l_osi hr (r_iret (pc := 40) (v := a4) rfl rfl ⟨Nat.le_refl _, Nat.le_refl _⟩ dX0_join_40)
  replace hr := ite_f hc hr
  refine r_aload_n (pc := 19) (j := 0) dX0_join_19 rfl rfl ?_
  refine gf0_10 (pc := 20) tw_1_203 hw dX0_join_20 ?_
  refine r_iload_n (pc := 23) (j := 3) dX0_join_23 rfl rfl ?_
  obtain ⟨h1, hr⟩ := grd_inv hr
  refine x_bald (pc := 24) (k := (Int32.toNatClampNeg a3)) rfl h1 rfl dX0_join_24 ?_
  refine r_if_ne (pc := 25) (tgt := 38) dX0_join_25 rfl (fun hc => ?_) (fun hc => ?_)
  · replace hr := ite_f hc hr
    refine r_iload (pc := 38) (j := 4) dX0_join_38 rfl ?_
    exact l_osi hr (r_iret (pc := 40) (v := a4) rfl rfl ⟨Nat.le_refl _, Nat.le_refl _⟩ dX0_join_40)
  replace hr := ite_t hc hr
  refine r_aload_n (pc := 28) (j := 1) dX0_join_28 rfl rfl ?_
  refine gf6_2 (pc := 29) tw_1_39 hw hs1 dX0_join_29 ?_
  refine r_iload_n (pc := 32) (j := 3) dX0_join_32 rfl rfl ?_
  refine x_iald (pc := 33) (k := (Int32.toNatClampNeg a3)) (sh6_2 hs1) h1 rfl dX0_join_33 ?_
  refine r_iload_n (pc := 34) (j := 2) dX0_join_34 rfl rfl ?_
  refine r_icmp_ge (pc := 35) (tgt := 41) dX0_join_35 rfl (fun hc => ?_) (fun hc => ?_)
  · replace hr := ite_t hc hr
    refine r_aload_n (pc := 41) (j := 0) dX0_join_41 rfl rfl ?_
    refine gf0_10 (pc := 42) tw_1_203 hw dX0_join_42 ?_
    refine r_iload_n (pc := 45) (j := 3) dX0_join_45 rfl rfl ?_
    refine r_iconst (pc := 46) (v := (1 : Int32)) dX0_join_46 rfl ?_
    refine x_bast (pc := 47) (j := (Int32.toNatClampNeg a3)) rfl h1 rfl dX0_join_47 fun σ2 eσ2 => ?_
    replace hr := vthen_inv hr σ2 eσ2
    have hσ2 := wtI eσ2 hw
    refine r_aload_n (pc := 48) (j := 0) dX0_join_48 rfl rfl ?_
    refine gf0_9 (pc := 49) tw_1_202 hσ2 dX0_join_49 ?_
    refine r_iload (pc := 52) (j := 4) dX0_join_52 rfl ?_
    refine r_iload_n (pc := 54) (j := 3) dX0_join_54 rfl rfl ?_
    obtain ⟨h3, hr⟩ := grd_inv hr
    refine x_iast (pc := 55) (j := (Int32.toNatClampNeg a4)) rfl h3 rfl dX0_join_55 fun σ4 eσ4 => ?_
    replace hr := vthen_inv hr σ4 eσ4
    have hσ4 := wtI eσ4 hσ2
    refine r_iload (pc := 56) (j := 4) dX0_join_56 rfl ?_
    refine r_iconst (pc := 58) (v := (1 : Int32)) dX0_join_58 rfl ?_
    refine r_iadd (pc := 59) dX0_join_59 ?_
    exact l_osi hr (r_iret (pc := 60) (v := (a4 + (1 : Int32))) rfl rfl ⟨Nat.le_refl _, Nat.le_refl _⟩ dX0_join_60)
  replace hr := ite_f hc hr
  refine r_iload (pc := 38) (j := 4) dX0_join_38 rfl ?_
  exact l_osi hr (r_iret (pc := 40) (v := a4) rfl rfl ⟨Nat.le_refl _, Nat.le_refl _⟩ dX0_join_40)

theorem kX0_join {g : GG} {σ : SS} {a1 : Nat} {a2 : Int32} {a3 : Int32} {a4 : Int32} {v : Int32} {σ2 : SS} {M : MM} {F : State → Array Value → List Frame → State → Prop} {pc index : Nat} {ls : List (Nat × Value)} {rest : List Value} (hf : fX0_join σ a1 a2 a3 a4 = some (v, σ2)) (hs1 : shp a1 = (6, 0)) (hl : Cond.methodLink M.1.cls index yX0_join ∈ lw_gt) (hR : mX0_join.2.2.2.2.frames + 1 ≤ M.2.2.2.2.frames ∧ 8 + (mX0_join.2.2.1 + 11) + mX0_join.2.2.2.2.locals ≤ M.2.2.2.2.locals) (hrest : (rest.map fun v => v.category).sum ≤ 8) (hd : decode M.2.1 pc = .ok (.invokevirtual index, 3)) (k : WT σ2 → RR g M F zF (pc + 3) ls (.int v :: rest) σ2) : RR g M F zF pc ls (.int a4 :: .int a3 :: .int a2 :: .ref (ad g a1) :: .ref (ad g 33) :: rest) σ :=
  r_callV (z := zF) (N := mX0_join) (nn := 4) (o1 := some (.int v)) (sX0_join hf hs1) (rfl : shp 33 = (0, 0)) (by decide) (shp_le (rfl : shp 33 = (0, 0)) (nle rfl)) (ci := 0) rfl rfl tw_2_226 tw_1_6 hl tw_2_225 tp_2 ⟨by decide, by decide, rfl⟩ hR rfl hrest hd ⟨Nat.zero_le _, Nat.zero_le _⟩ rfl (fun h => k (h rfl))

theorem dX0_gather_0 : decode cX0_gather 0 = .ok (.aload_n 1, 1) := by decide +kernel
theorem dX0_gather_1 : decode cX0_gather 1 = .ok (.getfield 63, 3) := by decide +kernel
theorem dX0_gather_4 : decode cX0_gather 4 = .ok (.istore 4, 2) := by decide +kernel
theorem dX0_gather_6 : decode cX0_gather 6 = .ok (.aload_n 1, 1) := by decide +kernel
theorem dX0_gather_7 : decode cX0_gather 7 = .ok (.invokevirtual 53, 3) := by decide +kernel
theorem dX0_gather_10 : decode cX0_gather 10 = .ok (.istore 5, 2) := by decide +kernel
theorem dX0_gather_12 : decode cX0_gather 12 = .ok (.aload_n 0, 1) := by decide +kernel
theorem dX0_gather_13 : decode cX0_gather 13 = .ok (.aload_n 1, 1) := by decide +kernel
theorem dX0_gather_14 : decode cX0_gather 14 = .ok (.iload_n 2, 1) := by decide +kernel
theorem dX0_gather_15 : decode cX0_gather 15 = .ok (.iload_n 3, 1) := by decide +kernel
theorem dX0_gather_16 : decode cX0_gather 16 = .ok (.iconst 0, 1) := by decide +kernel
theorem dX0_gather_17 : decode cX0_gather 17 = .ok (.invokevirtual 73, 3) := by decide +kernel
theorem dX0_gather_20 : decode cX0_gather 20 = .ok (.istore 6, 2) := by decide +kernel
theorem dX0_gather_22 : decode cX0_gather 22 = .ok (.iconst 0, 1) := by decide +kernel
theorem dX0_gather_23 : decode cX0_gather 23 = .ok (.istore 7, 2) := by decide +kernel
theorem dX0_gather_25 : decode cX0_gather 25 = .ok (.iload 7, 2) := by decide +kernel
theorem dX0_gather_27 : decode cX0_gather 27 = .ok (.iload 6, 2) := by decide +kernel
theorem dX0_gather_29 : decode cX0_gather 29 = .ok (.if_icmp .ge 131, 3) := by decide +kernel
theorem dX0_gather_32 : decode cX0_gather 32 = .ok (.iload 7, 2) := by decide +kernel
theorem dX0_gather_34 : decode cX0_gather 34 = .ok (.sipush 1600, 3) := by decide +kernel
theorem dX0_gather_37 : decode cX0_gather 37 = .ok (.if_icmp .ge 123, 3) := by decide +kernel
theorem dX0_gather_40 : decode cX0_gather 40 = .ok (.aload_n 0, 1) := by decide +kernel
theorem dX0_gather_41 : decode cX0_gather 41 = .ok (.getfield 36, 3) := by decide +kernel
theorem dX0_gather_44 : decode cX0_gather 44 = .ok (.iload 7, 2) := by decide +kernel
theorem dX0_gather_46 : decode cX0_gather 46 = .ok (.iaload, 1) := by decide +kernel
theorem dX0_gather_47 : decode cX0_gather 47 = .ok (.istore 8, 2) := by decide +kernel
theorem dX0_gather_49 : decode cX0_gather 49 = .ok (.iload 4, 2) := by decide +kernel
theorem dX0_gather_51 : decode cX0_gather 51 = .ok (.ifCond .le 11, 3) := by decide +kernel
theorem dX0_gather_54 : decode cX0_gather 54 = .ok (.iload 8, 2) := by decide +kernel
theorem dX0_gather_56 : decode cX0_gather 56 = .ok (.iload 4, 2) := by decide +kernel
theorem dX0_gather_58 : decode cX0_gather 58 = .ok (.irem, 1) := by decide +kernel
theorem dX0_gather_59 : decode cX0_gather 59 = .ok (.goto 4, 3) := by decide +kernel
theorem dX0_gather_62 : decode cX0_gather 62 = .ok (.iconst 0, 1) := by decide +kernel
theorem dX0_gather_63 : decode cX0_gather 63 = .ok (.istore 9, 2) := by decide +kernel
theorem dX0_gather_65 : decode cX0_gather 65 = .ok (.iload 9, 2) := by decide +kernel
theorem dX0_gather_67 : decode cX0_gather 67 = .ok (.ifCond .le 17, 3) := by decide +kernel
theorem dX0_gather_70 : decode cX0_gather 70 = .ok (.aload_n 0, 1) := by decide +kernel
theorem dX0_gather_71 : decode cX0_gather 71 = .ok (.aload_n 1, 1) := by decide +kernel
theorem dX0_gather_72 : decode cX0_gather 72 = .ok (.iload_n 2, 1) := by decide +kernel
theorem dX0_gather_73 : decode cX0_gather 73 = .ok (.iload 8, 2) := by decide +kernel
theorem dX0_gather_75 : decode cX0_gather 75 = .ok (.iconst 1, 1) := by decide +kernel
theorem dX0_gather_76 : decode cX0_gather 76 = .ok (.isub, 1) := by decide +kernel
theorem dX0_gather_77 : decode cX0_gather 77 = .ok (.iload 6, 2) := by decide +kernel
theorem dX0_gather_79 : decode cX0_gather 79 = .ok (.invokevirtual 73, 3) := by decide +kernel
theorem dX0_gather_82 : decode cX0_gather 82 = .ok (.istore 6, 2) := by decide +kernel
theorem dX0_gather_84 : decode cX0_gather 84 = .ok (.iload 9, 2) := by decide +kernel
theorem dX0_gather_86 : decode cX0_gather 86 = .ok (.iload 4, 2) := by decide +kernel
theorem dX0_gather_88 : decode cX0_gather 88 = .ok (.iconst 1, 1) := by decide +kernel
theorem dX0_gather_89 : decode cX0_gather 89 = .ok (.isub, 1) := by decide +kernel
theorem dX0_gather_90 : decode cX0_gather 90 = .ok (.if_icmp .ge 17, 3) := by decide +kernel
theorem dX0_gather_93 : decode cX0_gather 93 = .ok (.aload_n 0, 1) := by decide +kernel
theorem dX0_gather_94 : decode cX0_gather 94 = .ok (.aload_n 1, 1) := by decide +kernel
theorem dX0_gather_95 : decode cX0_gather 95 = .ok (.iload_n 2, 1) := by decide +kernel
theorem dX0_gather_96 : decode cX0_gather 96 = .ok (.iload 8, 2) := by decide +kernel
theorem dX0_gather_98 : decode cX0_gather 98 = .ok (.iconst 1, 1) := by decide +kernel
theorem dX0_gather_99 : decode cX0_gather 99 = .ok (.iadd, 1) := by decide +kernel
theorem dX0_gather_100 : decode cX0_gather 100 = .ok (.iload 6, 2) := by decide +kernel
theorem dX0_gather_102 : decode cX0_gather 102 = .ok (.invokevirtual 73, 3) := by decide +kernel
theorem dX0_gather_105 : decode cX0_gather 105 = .ok (.istore 6, 2) := by decide +kernel
theorem dX0_gather_107 : decode cX0_gather 107 = .ok (.iload 8, 2) := by decide +kernel
theorem dX0_gather_109 : decode cX0_gather 109 = .ok (.iload 4, 2) := by decide +kernel
theorem dX0_gather_111 : decode cX0_gather 111 = .ok (.if_icmp .lt 18, 3) := by decide +kernel
theorem dX0_gather_114 : decode cX0_gather 114 = .ok (.aload_n 0, 1) := by decide +kernel
theorem dX0_gather_115 : decode cX0_gather 115 = .ok (.aload_n 1, 1) := by decide +kernel
theorem dX0_gather_116 : decode cX0_gather 116 = .ok (.iload_n 2, 1) := by decide +kernel
theorem dX0_gather_117 : decode cX0_gather 117 = .ok (.iload 8, 2) := by decide +kernel
theorem dX0_gather_119 : decode cX0_gather 119 = .ok (.iload 4, 2) := by decide +kernel
theorem dX0_gather_121 : decode cX0_gather 121 = .ok (.isub, 1) := by decide +kernel
theorem dX0_gather_122 : decode cX0_gather 122 = .ok (.iload 6, 2) := by decide +kernel
theorem dX0_gather_124 : decode cX0_gather 124 = .ok (.invokevirtual 73, 3) := by decide +kernel
theorem dX0_gather_127 : decode cX0_gather 127 = .ok (.istore 6, 2) := by decide +kernel
theorem dX0_gather_129 : decode cX0_gather 129 = .ok (.iload 8, 2) := by decide +kernel
theorem dX0_gather_131 : decode cX0_gather 131 = .ok (.iload 5, 2) := by decide +kernel
theorem dX0_gather_133 : decode cX0_gather 133 = .ok (.iload 4, 2) := by decide +kernel
theorem dX0_gather_135 : decode cX0_gather 135 = .ok (.isub, 1) := by decide +kernel
theorem dX0_gather_136 : decode cX0_gather 136 = .ok (.if_icmp .ge 18, 3) := by decide +kernel
theorem dX0_gather_139 : decode cX0_gather 139 = .ok (.aload_n 0, 1) := by decide +kernel
theorem dX0_gather_140 : decode cX0_gather 140 = .ok (.aload_n 1, 1) := by decide +kernel
theorem dX0_gather_141 : decode cX0_gather 141 = .ok (.iload_n 2, 1) := by decide +kernel
theorem dX0_gather_142 : decode cX0_gather 142 = .ok (.iload 8, 2) := by decide +kernel
theorem dX0_gather_144 : decode cX0_gather 144 = .ok (.iload 4, 2) := by decide +kernel
theorem dX0_gather_146 : decode cX0_gather 146 = .ok (.iadd, 1) := by decide +kernel
theorem dX0_gather_147 : decode cX0_gather 147 = .ok (.iload 6, 2) := by decide +kernel
theorem dX0_gather_149 : decode cX0_gather 149 = .ok (.invokevirtual 73, 3) := by decide +kernel
theorem dX0_gather_152 : decode cX0_gather 152 = .ok (.istore 6, 2) := by decide +kernel
theorem dX0_gather_154 : decode cX0_gather 154 = .ok (.iinc 7 1, 3) := by decide +kernel
theorem dX0_gather_157 : decode cX0_gather 157 = .ok (.goto (-132), 3) := by decide +kernel
theorem dX0_gather_160 : decode cX0_gather 160 = .ok (.iload 6, 2) := by decide +kernel
theorem dX0_gather_162 : decode cX0_gather 162 = .ok (.ireturn, 1) := by decide +kernel
def mX0_gather : MM := (yX0_gather, cX0_gather, 10, Option.some Jvm.ClassFile.FieldType.int, { frames := 1, cells := 0, slots := 0, locals := 24 })
def X0_gather_L25 (o1_ : Nat) (u2_ : Int32) (u4_ : Int32) (u5_ : Int32)  : Nat → Int32 → Int32 → SS → Option (Int32 × SS) :=
  lp (fun _ _ _ => none) fun rec v6_ v7_ σ_ =>
    if v6_ ≤ v7_ then (
      some (v6_, σ_)
      ) else (
      if (1600 : Int32) ≤ v7_ then (
        some (v6_, σ_)
        ) else (
        grd (inb v7_ 1600) <|
        vthen (gI σ_ 42 (Int32.toNatClampNeg v7_)) fun v8 =>
        vthen (fun (s9 : Int32) =>
          vthen (fun (v10 : Int32) (σ11 : SS) =>
            vthen (fun (v12 : Int32) (σ13 : SS) =>
              vthen (fun (v14 : Int32) (σ15 : SS) =>
                if (u5_ - u4_) ≤ v8 then (
                  rec v14 (v7_ + (1 : Int32)) σ15
                  ) else (
                  bnd (fX0_join σ15 o1_ u2_ (v8 + u4_) v14) fun v16 σ19 =>
                  rec v16 (v7_ + (1 : Int32)) σ19
                  )
                ) fun j129 =>
              if v8 < u4_ then (
                j129 v12 σ13
                ) else (
                bnd (fX0_join σ13 o1_ u2_ (v8 - u4_) v12) fun v20 σ23 =>
                j129 v20 σ23
                )
              ) fun j107 =>
            if (u4_ - (1 : Int32)) ≤ s9 then (
              j107 v10 σ11
              ) else (
              bnd (fX0_join σ11 o1_ u2_ (v8 + (1 : Int32)) v10) fun v24 σ27 =>
              j107 v24 σ27
              )
            ) fun j84 =>
          if s9 ≤ 0 then (
            j84 v6_ σ_
            ) else (
            bnd (fX0_join σ_ o1_ u2_ (v8 - (1 : Int32)) v6_) fun v28 σ31 =>
            j84 v28 σ31
            )
          ) fun j63 =>
        if u4_ ≤ 0 then (
          j63 (0 : Int32)
          ) else (
          grd (nz u4_) <|
          j63 (irm v8 u4_)
          )
        )
      )

def fX0_gather (σ : SS) (a1 : Nat) (a2 : Int32) (a3 : Int32) : Option (Int32 × SS) :=
  vthen (gI σ a1 0) fun v1 =>
  vthen (fX6_size σ a1) fun v2 =>
  bnd (fX0_join σ a1 a2 a3 (0 : Int32)) fun v3 σ6 =>
  X0_gather_L25 a1 a2 v1 v2
  fuel v3 (0 : Int32) σ6

set_option maxRecDepth 20000 in
theorem sX0_gather_L25 {g : GG} {r : Int32 × SS} {o1_ : Nat} {u2_ : Int32} {u4_ : Int32} {u5_ : Int32}  (hs1_ : shp o1_ = (6, 0))
    (n : Nat) : ∀ (v6_ : Int32) (v7_ : Int32) (σ_ : SS), X0_gather_L25 o1_ u2_ u4_ u5_ n v6_ v7_ σ_ = some r → WT σ_ → RR g mX0_gather (FinR g mX0_gather (some (.int r.1)) NF r.2) zF 25 [(0, .ref (ad g 33)), (1, .ref (ad g o1_)), (2, .int u2_), (4, .int u4_), (5, .int u5_), (6, .int v6_), (7, .int v7_)] [] σ_ := by
  unfold X0_gather_L25
  refine lp_ind (P := fun (rec : Int32 → Int32 → SS → Option (Int32 × SS)) => ∀ (v6_ : Int32) (v7_ : Int32) (σ_ : SS), rec v6_ v7_ σ_ = some r → WT σ_ → RR g mX0_gather (FinR g mX0_gather (some (.int r.1)) NF r.2) zF 25 [(0, .ref (ad g 33)), (1, .ref (ad g o1_)), (2, .int u2_), (4, .int u4_), (5, .int u5_), (6, .int v6_), (7, .int v7_)] [] σ_) ?_ ?_ n
  · intro v6_ v7_ σ_ hr; cases hr
  intro rec ih v6_ v7_ σ_ hr hw_
  refine r_iload (pc := 25) (j := 6) dX0_gather_25 rfl ?_
  refine r_iload (pc := 27) (j := 5) dX0_gather_27 rfl ?_
  refine r_icmp_ge (pc := 29) (tgt := 160) dX0_gather_29 rfl (fun hc => ?_) (fun hc => ?_)
  · replace hr := ite_t hc hr
    refine r_iload (pc := 160) (j := 5) dX0_gather_160 rfl ?_
    exact l_osi hr (r_iret (pc := 162) (v := v6_) rfl rfl ⟨Nat.le_refl _, Nat.le_refl _⟩ dX0_gather_162)
  replace hr := ite_f hc hr
  refine r_iload (pc := 32) (j := 6) dX0_gather_32 rfl ?_
  refine r_sipush (pc := 34) (v := (1600 : Int32)) dX0_gather_34 rfl ?_
  refine r_icmp_ge (pc := 37) (tgt := 160) dX0_gather_37 rfl (fun hc => ?_) (fun hc => ?_)
  · replace hr := ite_t hc hr
    refine r_iload (pc := 160) (j := 5) dX0_gather_160 rfl ?_
    exact l_osi hr (r_iret (pc := 162) (v := v6_) rfl rfl ⟨Nat.le_refl _, Nat.le_refl _⟩ dX0_gather_162)
  replace hr := ite_f hc hr
  refine r_aload_n (pc := 40) (j := 0) dX0_gather_40 rfl rfl ?_
  refine gf0_9 (pc := 41) tw_1_202 hw_ dX0_gather_41 ?_
  refine r_iload (pc := 44) (j := 6) dX0_gather_44 rfl ?_
  obtain ⟨h7, hr⟩ := grd_inv hr
  refine x_iald (pc := 46) (k := (Int32.toNatClampNeg v7_)) rfl h7 rfl dX0_gather_46 ?_
  refine r_topi fun v8 ev8 => ?_
  replace hr := vthen_inv hr v8 ev8
  refine r_istore (pc := 47) (ls1 := [(8, .int v8), (0, .ref (ad g 33)), (1, .ref (ad g o1_)), (2, .int u2_), (4, .int u4_), (5, .int u5_), (6, .int v6_), (7, .int v7_)]) dX0_gather_47 (nle rfl) rfl ?_
  refine r_iload (pc := 49) (j := 4) dX0_gather_49 rfl ?_
  obtain ⟨j63, ej63, hr⟩ := vth_ex hr
  have hj63 : ∀ (s9 : Int32), j63 s9 = some r → RR g mX0_gather (FinR g mX0_gather (some (.int r.1)) NF r.2) zF 63 [(0, .ref (ad g 33)), (1, .ref (ad g o1_)), (2, .int u2_), (4, .int u4_), (5, .int u5_), (6, .int v6_), (7, .int v7_), (8, .int v8)] [.int s9] σ_ := by
    intro s9 hr
    replace hr := (congrFun ej63 s9).symm.trans hr
    refine r_istore (pc := 63) (ls1 := [(9, .int s9), (0, .ref (ad g 33)), (1, .ref (ad g o1_)), (2, .int u2_), (4, .int u4_), (5, .int u5_), (6, .int v6_), (7, .int v7_), (8, .int v8)]) dX0_gather_63 (nle rfl) rfl ?_
    refine r_iload (pc := 65) (j := 0) dX0_gather_65 rfl ?_
    obtain ⟨j84, ej84, hr⟩ := vth_ex hr
    have hj84 : ∀ (v10 : Int32) (σ11 : SS), j84 v10 σ11 = some r → WT σ11 → RR g mX0_gather (FinR g mX0_gather (some (.int r.1)) NF r.2) zF 84 [(0, .ref (ad g 33)), (1, .ref (ad g o1_)), (2, .int u2_), (4, .int u4_), (5, .int u5_), (6, .int v10), (7, .int v7_), (8, .int v8), (9, .int s9)] [] σ11 := by
      intro v10 σ11 hr hσ11
      replace hr := (congrFun (congrFun ej84 v10) σ11).symm.trans hr
      refine r_iload (pc := 84) (j := 8) dX0_gather_84 rfl ?_
      refine r_iload (pc := 86) (j := 3) dX0_gather_86 rfl ?_
      refine r_iconst (pc := 88) (v := (1 : Int32)) dX0_gather_88 rfl ?_
      refine r_isub (pc := 89) dX0_gather_89 ?_
      obtain ⟨j107, ej107, hr⟩ := vth_ex hr
      have hj107 : ∀ (v12 : Int32) (σ13 : SS), j107 v12 σ13 = some r → WT σ13 → RR g mX0_gather (FinR g mX0_gather (some (.int r.1)) NF r.2) zF 107 [(0, .ref (ad g 33)), (1, .ref (ad g o1_)), (2, .int u2_), (4, .int u4_), (5, .int u5_), (6, .int v12), (7, .int v7_), (8, .int v8)] [] σ13 := by
        intro v12 σ13 hr hσ13
        replace hr := (congrFun (congrFun ej107 v12) σ13).symm.trans hr
        refine r_iload (pc := 107) (j := 7) dX0_gather_107 rfl ?_
        refine r_iload (pc := 109) (j := 3) dX0_gather_109 rfl ?_
        obtain ⟨j129, ej129, hr⟩ := vth_ex hr
        have hj129 : ∀ (v14 : Int32) (σ15 : SS), j129 v14 σ15 = some r → WT σ15 → RR g mX0_gather (FinR g mX0_gather (some (.int r.1)) NF r.2) zF 129 [(0, .ref (ad g 33)), (1, .ref (ad g o1_)), (2, .int u2_), (4, .int u4_), (5, .int u5_), (6, .int v14), (7, .int v7_), (8, .int v8)] [] σ15 := by
          intro v14 σ15 hr hσ15
          replace hr := (congrFun (congrFun ej129 v14) σ15).symm.trans hr
          refine r_iload (pc := 129) (j := 7) dX0_gather_129 rfl ?_
          refine r_iload (pc := 131) (j := 4) dX0_gather_131 rfl ?_
          refine r_iload (pc := 133) (j := 3) dX0_gather_133 rfl ?_
          refine r_isub (pc := 135) dX0_gather_135 ?_
          refine r_icmp_ge (pc := 136) (tgt := 154) dX0_gather_136 rfl (fun hc => ?_) (fun hc => ?_)
          · replace hr := ite_t hc hr
            refine r_iinc (pc := 154) (j := 6) (v := (v7_ + (1 : Int32))) (ls1 := [(7, .int (v7_ + (1 : Int32))), (0, .ref (ad g 33)), (1, .ref (ad g o1_)), (2, .int u2_), (4, .int u4_), (5, .int u5_), (6, .int v14), (8, .int v8)]) dX0_gather_154 rfl rfl (nle rfl) rfl ?_
            refine r_goto (pc := 157) (tgt := 25) dX0_gather_157 rfl ?_
            exact r_pick (ls1 := [(0, .ref (ad g 33)), (1, .ref (ad g o1_)), (2, .int u2_), (4, .int u4_), (5, .int u5_), (6, .int v14), (7, .int (v7_ + (1 : Int32)))]) [1, 2, 3, 4, 5, 6, 0] rfl (ih v14 (v7_ + (1 : Int32)) σ15 hr hσ15)
          replace hr := ite_f hc hr
          refine r_aload_n (pc := 139) (j := 0) dX0_gather_139 rfl rfl ?_
          refine r_aload_n (pc := 140) (j := 1) dX0_gather_140 rfl rfl ?_
          refine r_iload_n (pc := 141) (j := 2) dX0_gather_141 rfl rfl ?_
          refine r_iload (pc := 142) (j := 7) dX0_gather_142 rfl ?_
          refine r_iload (pc := 144) (j := 3) dX0_gather_144 rfl ?_
          refine r_iadd (pc := 146) dX0_gather_146 ?_
          refine r_iload (pc := 147) (j := 5) dX0_gather_147 rfl ?_
          obtain ⟨v16, σ19, eσ19, hr⟩ := bnd_inv hr
          refine kX0_join (pc := 149) eσ19 hs1_ tw_2_223 ⟨nle rfl, nle rfl⟩ (nle rfl) dX0_gather_149 fun hσ19 => ?_
          refine r_istore (pc := 152) (ls1 := [(6, .int v16), (0, .ref (ad g 33)), (1, .ref (ad g o1_)), (2, .int u2_), (4, .int u4_), (5, .int u5_), (7, .int v7_), (8, .int v8)]) dX0_gather_152 (nle rfl) rfl ?_
          refine r_iinc (pc := 154) (j := 6) (v := (v7_ + (1 : Int32))) (ls1 := [(7, .int (v7_ + (1 : Int32))), (6, .int v16), (0, .ref (ad g 33)), (1, .ref (ad g o1_)), (2, .int u2_), (4, .int u4_), (5, .int u5_), (8, .int v8)]) dX0_gather_154 rfl rfl (nle rfl) rfl ?_
          refine r_goto (pc := 157) (tgt := 25) dX0_gather_157 rfl ?_
          exact r_pick (ls1 := [(0, .ref (ad g 33)), (1, .ref (ad g o1_)), (2, .int u2_), (4, .int u4_), (5, .int u5_), (6, .int v16), (7, .int (v7_ + (1 : Int32)))]) [2, 3, 4, 5, 6, 1, 0] rfl (ih v16 (v7_ + (1 : Int32)) σ19 hr hσ19)
        refine r_icmp_lt (pc := 111) (tgt := 129) dX0_gather_111 rfl (fun hc => ?_) (fun hc => ?_)
        · replace hr := ite_t hc hr
          exact r_pick (ls1 := [(0, .ref (ad g 33)), (1, .ref (ad g o1_)), (2, .int u2_), (4, .int u4_), (5, .int u5_), (6, .int v12), (7, .int v7_), (8, .int v8)]) [0, 1, 2, 3, 4, 5, 6, 7] rfl (hj129 v12 σ13 hr hσ13)
        replace hr := ite_f hc hr
        refine r_aload_n (pc := 114) (j := 0) dX0_gather_114 rfl rfl ?_
        refine r_aload_n (pc := 115) (j := 1) dX0_gather_115 rfl rfl ?_
        refine r_iload_n (pc := 116) (j := 2) dX0_gather_116 rfl rfl ?_
        refine r_iload (pc := 117) (j := 7) dX0_gather_117 rfl ?_
        refine r_iload (pc := 119) (j := 3) dX0_gather_119 rfl ?_
        refine r_isub (pc := 121) dX0_gather_121 ?_
        refine r_iload (pc := 122) (j := 5) dX0_gather_122 rfl ?_
        obtain ⟨v20, σ23, eσ23, hr⟩ := bnd_inv hr
        refine kX0_join (pc := 124) eσ23 hs1_ tw_2_223 ⟨nle rfl, nle rfl⟩ (nle rfl) dX0_gather_124 fun hσ23 => ?_
        refine r_istore (pc := 127) (ls1 := [(6, .int v20), (0, .ref (ad g 33)), (1, .ref (ad g o1_)), (2, .int u2_), (4, .int u4_), (5, .int u5_), (7, .int v7_), (8, .int v8)]) dX0_gather_127 (nle rfl) rfl ?_
        exact r_pick (ls1 := [(0, .ref (ad g 33)), (1, .ref (ad g o1_)), (2, .int u2_), (4, .int u4_), (5, .int u5_), (6, .int v20), (7, .int v7_), (8, .int v8)]) [1, 2, 3, 4, 5, 0, 6, 7] rfl (hj129 v20 σ23 hr hσ23)
      refine r_icmp_ge (pc := 90) (tgt := 107) dX0_gather_90 rfl (fun hc => ?_) (fun hc => ?_)
      · replace hr := ite_t hc hr
        exact r_pick (ls1 := [(0, .ref (ad g 33)), (1, .ref (ad g o1_)), (2, .int u2_), (4, .int u4_), (5, .int u5_), (6, .int v10), (7, .int v7_), (8, .int v8)]) [0, 1, 2, 3, 4, 5, 6, 7] rfl (hj107 v10 σ11 hr hσ11)
      replace hr := ite_f hc hr
      refine r_aload_n (pc := 93) (j := 0) dX0_gather_93 rfl rfl ?_
      refine r_aload_n (pc := 94) (j := 1) dX0_gather_94 rfl rfl ?_
      refine r_iload_n (pc := 95) (j := 2) dX0_gather_95 rfl rfl ?_
      refine r_iload (pc := 96) (j := 7) dX0_gather_96 rfl ?_
      refine r_iconst (pc := 98) (v := (1 : Int32)) dX0_gather_98 rfl ?_
      refine r_iadd (pc := 99) dX0_gather_99 ?_
      refine r_iload (pc := 100) (j := 5) dX0_gather_100 rfl ?_
      obtain ⟨v24, σ27, eσ27, hr⟩ := bnd_inv hr
      refine kX0_join (pc := 102) eσ27 hs1_ tw_2_223 ⟨nle rfl, nle rfl⟩ (nle rfl) dX0_gather_102 fun hσ27 => ?_
      refine r_istore (pc := 105) (ls1 := [(6, .int v24), (0, .ref (ad g 33)), (1, .ref (ad g o1_)), (2, .int u2_), (4, .int u4_), (5, .int u5_), (7, .int v7_), (8, .int v8), (9, .int s9)]) dX0_gather_105 (nle rfl) rfl ?_
      exact r_pick (ls1 := [(0, .ref (ad g 33)), (1, .ref (ad g o1_)), (2, .int u2_), (4, .int u4_), (5, .int u5_), (6, .int v24), (7, .int v7_), (8, .int v8)]) [1, 2, 3, 4, 5, 0, 6, 7] rfl (hj107 v24 σ27 hr hσ27)
    refine r_if_le (pc := 67) (tgt := 84) dX0_gather_67 rfl (fun hc => ?_) (fun hc => ?_)
    · replace hr := ite_t hc hr
      exact r_pick (ls1 := [(0, .ref (ad g 33)), (1, .ref (ad g o1_)), (2, .int u2_), (4, .int u4_), (5, .int u5_), (6, .int v6_), (7, .int v7_), (8, .int v8), (9, .int s9)]) [1, 2, 3, 4, 5, 6, 7, 8, 0] rfl (hj84 v6_ σ_ hr hw_)
    replace hr := ite_f hc hr
    refine r_aload_n (pc := 70) (j := 1) dX0_gather_70 rfl rfl ?_
    refine r_aload_n (pc := 71) (j := 2) dX0_gather_71 rfl rfl ?_
    refine r_iload_n (pc := 72) (j := 3) dX0_gather_72 rfl rfl ?_
    refine r_iload (pc := 73) (j := 8) dX0_gather_73 rfl ?_
    refine r_iconst (pc := 75) (v := (1 : Int32)) dX0_gather_75 rfl ?_
    refine r_isub (pc := 76) dX0_gather_76 ?_
    refine r_iload (pc := 77) (j := 6) dX0_gather_77 rfl ?_
    obtain ⟨v28, σ31, eσ31, hr⟩ := bnd_inv hr
    refine kX0_join (pc := 79) eσ31 hs1_ tw_2_223 ⟨nle rfl, nle rfl⟩ (nle rfl) dX0_gather_79 fun hσ31 => ?_
    refine r_istore (pc := 82) (ls1 := [(6, .int v28), (9, .int s9), (0, .ref (ad g 33)), (1, .ref (ad g o1_)), (2, .int u2_), (4, .int u4_), (5, .int u5_), (7, .int v7_), (8, .int v8)]) dX0_gather_82 (nle rfl) rfl ?_
    exact r_pick (ls1 := [(0, .ref (ad g 33)), (1, .ref (ad g o1_)), (2, .int u2_), (4, .int u4_), (5, .int u5_), (6, .int v28), (7, .int v7_), (8, .int v8), (9, .int s9)]) [2, 3, 4, 5, 6, 0, 7, 8, 1] rfl (hj84 v28 σ31 hr hσ31)
  refine r_if_le (pc := 51) (tgt := 62) dX0_gather_51 rfl (fun hc => ?_) (fun hc => ?_)
  · replace hr := ite_t hc hr
    refine r_iconst (pc := 62) (v := (0 : Int32)) dX0_gather_62 rfl ?_
    exact r_pick (ls1 := [(0, .ref (ad g 33)), (1, .ref (ad g o1_)), (2, .int u2_), (4, .int u4_), (5, .int u5_), (6, .int v6_), (7, .int v7_), (8, .int v8)]) [1, 2, 3, 4, 5, 6, 7, 0] rfl (hj63 (0 : Int32) hr)
  replace hr := ite_f hc hr
  refine r_iload (pc := 54) (j := 0) dX0_gather_54 rfl ?_
  refine r_iload (pc := 56) (j := 4) dX0_gather_56 rfl ?_
  obtain ⟨h32, hr⟩ := grd_inv hr
  refine r_irem (pc := 58) dX0_gather_58 (nz_ne h32) ?_
  refine r_goto (pc := 59) (tgt := 63) dX0_gather_59 rfl ?_
  exact r_pick (ls1 := [(0, .ref (ad g 33)), (1, .ref (ad g o1_)), (2, .int u2_), (4, .int u4_), (5, .int u5_), (6, .int v6_), (7, .int v7_), (8, .int v8)]) [1, 2, 3, 4, 5, 6, 7, 0] rfl (hj63 (irm v8 u4_) hr)

set_option maxRecDepth 20000 in
theorem sX0_gather {g : GG} {σ : SS} {a1 : Nat} {a2 : Int32} {a3 : Int32} {r : Int32 × SS} (hr : fX0_gather σ a1 a2 a3 = some r) (hs1 : shp a1 = (6, 0)) : Ct g mX0_gather [.ref (ad g 33), .ref (ad g a1), .int a2, .int a3] NF σ (some (.int r.1)) NF r.2 := by
  refine Ct.of (by decide +kernel) (nle rfl) fun hw0 => ?_
  have hw := hw0 rfl
  unfold fX0_gather at hr
  change RR g mX0_gather (FinR g mX0_gather (some (.int r.1)) NF r.2) zF 0 [(0, .ref (ad g 33)), (1, .ref (ad g a1)), (2, .int a2), (3, .int a3)] [] σ
  refine r_aload_n (pc := 0) (j := 1) dX0_gather_0 rfl rfl ?_
  refine gf6_0 (pc := 1) tw_1_33 hs1 dX0_gather_1 ?_
  refine r_topi fun v1 ev1 => ?_
  replace hr := vthen_inv hr v1 ev1
  refine r_istore (pc := 4) (ls1 := [(4, .int v1), (0, .ref (ad g 33)), (1, .ref (ad g a1)), (2, .int a2), (3, .int a3)]) dX0_gather_4 (nle rfl) rfl ?_
  refine r_aload_n (pc := 6) (j := 2) dX0_gather_6 rfl rfl ?_
  refine kX6_size (pc := 7) (hf := rfl) hs1 tw_2_215 ⟨nle rfl, nle rfl⟩ (nle rfl) dX0_gather_7 ?_
  refine r_topi fun v2 ev2 => ?_
  replace hr := vthen_inv hr v2 ev2
  refine r_istore (pc := 10) (ls1 := [(5, .int v2), (4, .int v1), (0, .ref (ad g 33)), (1, .ref (ad g a1)), (2, .int a2), (3, .int a3)]) dX0_gather_10 (nle rfl) rfl ?_
  refine r_aload_n (pc := 12) (j := 2) dX0_gather_12 rfl rfl ?_
  refine r_aload_n (pc := 13) (j := 3) dX0_gather_13 rfl rfl ?_
  refine r_iload_n (pc := 14) (j := 4) dX0_gather_14 rfl rfl ?_
  refine r_iload_n (pc := 15) (j := 5) dX0_gather_15 rfl rfl ?_
  refine r_iconst (pc := 16) (v := (0 : Int32)) dX0_gather_16 rfl ?_
  obtain ⟨v3, σ6, eσ6, hr⟩ := bnd_inv hr
  refine kX0_join (pc := 17) eσ6 hs1 tw_2_223 ⟨nle rfl, nle rfl⟩ (nle rfl) dX0_gather_17 fun hσ6 => ?_
  refine r_istore (pc := 20) (ls1 := [(6, .int v3), (5, .int v2), (4, .int v1), (0, .ref (ad g 33)), (1, .ref (ad g a1)), (2, .int a2), (3, .int a3)]) dX0_gather_20 (nle rfl) rfl ?_
  refine r_iconst (pc := 22) (v := (0 : Int32)) dX0_gather_22 rfl ?_
  refine r_istore (pc := 23) (ls1 := [(7, .int (0 : Int32)), (6, .int v3), (5, .int v2), (4, .int v1), (0, .ref (ad g 33)), (1, .ref (ad g a1)), (2, .int a2), (3, .int a3)]) dX0_gather_23 (nle rfl) rfl ?_
  refine r_pick (ls1 := [(0, .ref (ad g 33)), (1, .ref (ad g a1)), (2, .int a2), (4, .int v1), (5, .int v2), (6, .int v3), (7, .int (0 : Int32))]) [4, 5, 6, 3, 2, 1, 0] rfl ?_
  refine sX0_gather_L25 hs1    fuel v3 (0 : Int32) σ6 hr hσ6

theorem kX0_gather {g : GG} {σ : SS} {a1 : Nat} {a2 : Int32} {a3 : Int32} {v : Int32} {σ2 : SS} {M : MM} {F : State → Array Value → List Frame → State → Prop} {pc index : Nat} {ls : List (Nat × Value)} {rest : List Value} (hf : fX0_gather σ a1 a2 a3 = some (v, σ2)) (hs1 : shp a1 = (6, 0)) (hl : Cond.methodLink M.1.cls index yX0_gather ∈ lw_gt) (hR : mX0_gather.2.2.2.2.frames + 1 ≤ M.2.2.2.2.frames ∧ 8 + (mX0_gather.2.2.1 + 11) + mX0_gather.2.2.2.2.locals ≤ M.2.2.2.2.locals) (hrest : (rest.map fun v => v.category).sum ≤ 8) (hd : decode M.2.1 pc = .ok (.invokevirtual index, 3)) (k : WT σ2 → RR g M F zF (pc + 3) ls (.int v :: rest) σ2) : RR g M F zF pc ls (.int a3 :: .int a2 :: .ref (ad g a1) :: .ref (ad g 33) :: rest) σ :=
  r_callV (z := zF) (N := mX0_gather) (nn := 3) (o1 := some (.int v)) (sX0_gather hf hs1) (rfl : shp 33 = (0, 0)) (by decide) (shp_le (rfl : shp 33 = (0, 0)) (nle rfl)) (ci := 0) rfl rfl tw_2_222 tw_1_6 hl tw_2_221 tp_1 ⟨by decide, by decide, rfl⟩ hR rfl hrest hd ⟨Nat.zero_le _, Nat.zero_le _⟩ rfl (fun h => k (h rfl))

theorem dX0_describe_0 : decode cX0_describe 0 = .ok (.iload_n 1, 1) := by decide +kernel
theorem dX0_describe_1 : decode cX0_describe 1 = .ok (.iconst 1, 1) := by decide +kernel
theorem dX0_describe_2 : decode cX0_describe 2 = .ok (.if_icmp .lt 8, 3) := by decide +kernel
theorem dX0_describe_5 : decode cX0_describe 5 = .ok (.iload_n 2, 1) := by decide +kernel
theorem dX0_describe_6 : decode cX0_describe 6 = .ok (.iconst 1, 1) := by decide +kernel
theorem dX0_describe_7 : decode cX0_describe 7 = .ok (.if_icmp .ge 4, 3) := by decide +kernel
theorem dX0_describe_10 : decode cX0_describe 10 = .ok (.return_, 1) := by decide +kernel
theorem dX0_describe_11 : decode cX0_describe 11 = .ok (.aload_n 0, 1) := by decide +kernel
theorem dX0_describe_12 : decode cX0_describe 12 = .ok (.getfield 43, 3) := by decide +kernel
theorem dX0_describe_15 : decode cX0_describe 15 = .ok (.istore_n 3, 1) := by decide +kernel
theorem dX0_describe_16 : decode cX0_describe 16 = .ok (.aload_n 0, 1) := by decide +kernel
theorem dX0_describe_17 : decode cX0_describe 17 = .ok (.dup, 1) := by decide +kernel
theorem dX0_describe_18 : decode cX0_describe 18 = .ok (.getfield 43, 3) := by decide +kernel
theorem dX0_describe_21 : decode cX0_describe 21 = .ok (.iconst 1, 1) := by decide +kernel
theorem dX0_describe_22 : decode cX0_describe 22 = .ok (.iadd, 1) := by decide +kernel
theorem dX0_describe_23 : decode cX0_describe 23 = .ok (.putfield 43, 3) := by decide +kernel
theorem dX0_describe_26 : decode cX0_describe 26 = .ok (.aload_n 0, 1) := by decide +kernel
theorem dX0_describe_27 : decode cX0_describe 27 = .ok (.getfield 11, 3) := by decide +kernel
theorem dX0_describe_30 : decode cX0_describe 30 = .ok (.iload_n 3, 1) := by decide +kernel
theorem dX0_describe_31 : decode cX0_describe 31 = .ok (.iload_n 2, 1) := by decide +kernel
theorem dX0_describe_32 : decode cX0_describe 32 = .ok (.iastore, 1) := by decide +kernel
theorem dX0_describe_33 : decode cX0_describe 33 = .ok (.aload_n 0, 1) := by decide +kernel
theorem dX0_describe_34 : decode cX0_describe 34 = .ok (.getfield 15, 3) := by decide +kernel
theorem dX0_describe_37 : decode cX0_describe 37 = .ok (.iload_n 3, 1) := by decide +kernel
theorem dX0_describe_38 : decode cX0_describe 38 = .ok (.iconst 0, 1) := by decide +kernel
theorem dX0_describe_39 : decode cX0_describe 39 = .ok (.iastore, 1) := by decide +kernel
theorem dX0_describe_40 : decode cX0_describe 40 = .ok (.aload_n 0, 1) := by decide +kernel
theorem dX0_describe_41 : decode cX0_describe 41 = .ok (.getfield 18, 3) := by decide +kernel
theorem dX0_describe_44 : decode cX0_describe 44 = .ok (.iload_n 3, 1) := by decide +kernel
theorem dX0_describe_45 : decode cX0_describe 45 = .ok (.iconst 0, 1) := by decide +kernel
theorem dX0_describe_46 : decode cX0_describe 46 = .ok (.iastore, 1) := by decide +kernel
theorem dX0_describe_47 : decode cX0_describe 47 = .ok (.aload_n 0, 1) := by decide +kernel
theorem dX0_describe_48 : decode cX0_describe 48 = .ok (.getfield 21, 3) := by decide +kernel
theorem dX0_describe_51 : decode cX0_describe 51 = .ok (.iload_n 3, 1) := by decide +kernel
theorem dX0_describe_52 : decode cX0_describe 52 = .ok (.aload_n 0, 1) := by decide +kernel
theorem dX0_describe_53 : decode cX0_describe 53 = .ok (.getfield 36, 3) := by decide +kernel
theorem dX0_describe_56 : decode cX0_describe 56 = .ok (.iconst 0, 1) := by decide +kernel
theorem dX0_describe_57 : decode cX0_describe 57 = .ok (.iaload, 1) := by decide +kernel
theorem dX0_describe_58 : decode cX0_describe 58 = .ok (.iload_n 1, 1) := by decide +kernel
theorem dX0_describe_59 : decode cX0_describe 59 = .ok (.irem, 1) := by decide +kernel
theorem dX0_describe_60 : decode cX0_describe 60 = .ok (.iastore, 1) := by decide +kernel
theorem dX0_describe_61 : decode cX0_describe 61 = .ok (.aload_n 0, 1) := by decide +kernel
theorem dX0_describe_62 : decode cX0_describe 62 = .ok (.getfield 24, 3) := by decide +kernel
theorem dX0_describe_65 : decode cX0_describe 65 = .ok (.iload_n 3, 1) := by decide +kernel
theorem dX0_describe_66 : decode cX0_describe 66 = .ok (.aload_n 0, 1) := by decide +kernel
theorem dX0_describe_67 : decode cX0_describe 67 = .ok (.getfield 36, 3) := by decide +kernel
theorem dX0_describe_70 : decode cX0_describe 70 = .ok (.iconst 0, 1) := by decide +kernel
theorem dX0_describe_71 : decode cX0_describe 71 = .ok (.iaload, 1) := by decide +kernel
theorem dX0_describe_72 : decode cX0_describe 72 = .ok (.iload_n 1, 1) := by decide +kernel
theorem dX0_describe_73 : decode cX0_describe 73 = .ok (.idiv, 1) := by decide +kernel
theorem dX0_describe_74 : decode cX0_describe 74 = .ok (.iastore, 1) := by decide +kernel
theorem dX0_describe_75 : decode cX0_describe 75 = .ok (.aload_n 0, 1) := by decide +kernel
theorem dX0_describe_76 : decode cX0_describe 76 = .ok (.getfield 27, 3) := by decide +kernel
theorem dX0_describe_79 : decode cX0_describe 79 = .ok (.iload_n 3, 1) := by decide +kernel
theorem dX0_describe_80 : decode cX0_describe 80 = .ok (.aload_n 0, 1) := by decide +kernel
theorem dX0_describe_81 : decode cX0_describe 81 = .ok (.getfield 21, 3) := by decide +kernel
theorem dX0_describe_84 : decode cX0_describe 84 = .ok (.iload_n 3, 1) := by decide +kernel
theorem dX0_describe_85 : decode cX0_describe 85 = .ok (.iaload, 1) := by decide +kernel
theorem dX0_describe_86 : decode cX0_describe 86 = .ok (.iastore, 1) := by decide +kernel
theorem dX0_describe_87 : decode cX0_describe 87 = .ok (.aload_n 0, 1) := by decide +kernel
theorem dX0_describe_88 : decode cX0_describe 88 = .ok (.getfield 30, 3) := by decide +kernel
theorem dX0_describe_91 : decode cX0_describe 91 = .ok (.iload_n 3, 1) := by decide +kernel
theorem dX0_describe_92 : decode cX0_describe 92 = .ok (.aload_n 0, 1) := by decide +kernel
theorem dX0_describe_93 : decode cX0_describe 93 = .ok (.getfield 21, 3) := by decide +kernel
theorem dX0_describe_96 : decode cX0_describe 96 = .ok (.iload_n 3, 1) := by decide +kernel
theorem dX0_describe_97 : decode cX0_describe 97 = .ok (.iaload, 1) := by decide +kernel
theorem dX0_describe_98 : decode cX0_describe 98 = .ok (.iastore, 1) := by decide +kernel
theorem dX0_describe_99 : decode cX0_describe 99 = .ok (.aload_n 0, 1) := by decide +kernel
theorem dX0_describe_100 : decode cX0_describe 100 = .ok (.getfield 33, 3) := by decide +kernel
theorem dX0_describe_103 : decode cX0_describe 103 = .ok (.iload_n 3, 1) := by decide +kernel
theorem dX0_describe_104 : decode cX0_describe 104 = .ok (.aload_n 0, 1) := by decide +kernel
theorem dX0_describe_105 : decode cX0_describe 105 = .ok (.getfield 24, 3) := by decide +kernel
theorem dX0_describe_108 : decode cX0_describe 108 = .ok (.iload_n 3, 1) := by decide +kernel
theorem dX0_describe_109 : decode cX0_describe 109 = .ok (.iaload, 1) := by decide +kernel
theorem dX0_describe_110 : decode cX0_describe 110 = .ok (.iastore, 1) := by decide +kernel
theorem dX0_describe_111 : decode cX0_describe 111 = .ok (.iconst 0, 1) := by decide +kernel
theorem dX0_describe_112 : decode cX0_describe 112 = .ok (.istore 4, 2) := by decide +kernel
theorem dX0_describe_114 : decode cX0_describe 114 = .ok (.iload 4, 2) := by decide +kernel
theorem dX0_describe_116 : decode cX0_describe 116 = .ok (.iload_n 2, 1) := by decide +kernel
theorem dX0_describe_117 : decode cX0_describe 117 = .ok (.if_icmp .ge 104, 3) := by decide +kernel
theorem dX0_describe_120 : decode cX0_describe 120 = .ok (.aload_n 0, 1) := by decide +kernel
theorem dX0_describe_121 : decode cX0_describe 121 = .ok (.getfield 36, 3) := by decide +kernel
theorem dX0_describe_124 : decode cX0_describe 124 = .ok (.iload 4, 2) := by decide +kernel
theorem dX0_describe_126 : decode cX0_describe 126 = .ok (.iaload, 1) := by decide +kernel
theorem dX0_describe_127 : decode cX0_describe 127 = .ok (.iload_n 1, 1) := by decide +kernel
theorem dX0_describe_128 : decode cX0_describe 128 = .ok (.irem, 1) := by decide +kernel
theorem dX0_describe_129 : decode cX0_describe 129 = .ok (.istore 5, 2) := by decide +kernel
theorem dX0_describe_131 : decode cX0_describe 131 = .ok (.aload_n 0, 1) := by decide +kernel
theorem dX0_describe_132 : decode cX0_describe 132 = .ok (.getfield 36, 3) := by decide +kernel
theorem dX0_describe_135 : decode cX0_describe 135 = .ok (.iload 4, 2) := by decide +kernel
theorem dX0_describe_137 : decode cX0_describe 137 = .ok (.iaload, 1) := by decide +kernel
theorem dX0_describe_138 : decode cX0_describe 138 = .ok (.iload_n 1, 1) := by decide +kernel
theorem dX0_describe_139 : decode cX0_describe 139 = .ok (.idiv, 1) := by decide +kernel
theorem dX0_describe_140 : decode cX0_describe 140 = .ok (.istore 6, 2) := by decide +kernel
theorem dX0_describe_142 : decode cX0_describe 142 = .ok (.aload_n 0, 1) := by decide +kernel
theorem dX0_describe_143 : decode cX0_describe 143 = .ok (.getfield 15, 3) := by decide +kernel
theorem dX0_describe_146 : decode cX0_describe 146 = .ok (.iload_n 3, 1) := by decide +kernel
theorem dX0_describe_147 : decode cX0_describe 147 = .ok (.dup2, 1) := by decide +kernel
theorem dX0_describe_148 : decode cX0_describe 148 = .ok (.iaload, 1) := by decide +kernel
theorem dX0_describe_149 : decode cX0_describe 149 = .ok (.iload 5, 2) := by decide +kernel
theorem dX0_describe_151 : decode cX0_describe 151 = .ok (.iadd, 1) := by decide +kernel
theorem dX0_describe_152 : decode cX0_describe 152 = .ok (.iastore, 1) := by decide +kernel
theorem dX0_describe_153 : decode cX0_describe 153 = .ok (.aload_n 0, 1) := by decide +kernel
theorem dX0_describe_154 : decode cX0_describe 154 = .ok (.getfield 18, 3) := by decide +kernel
theorem dX0_describe_157 : decode cX0_describe 157 = .ok (.iload_n 3, 1) := by decide +kernel
theorem dX0_describe_158 : decode cX0_describe 158 = .ok (.dup2, 1) := by decide +kernel
theorem dX0_describe_159 : decode cX0_describe 159 = .ok (.iaload, 1) := by decide +kernel
theorem dX0_describe_160 : decode cX0_describe 160 = .ok (.iload 6, 2) := by decide +kernel
theorem dX0_describe_162 : decode cX0_describe 162 = .ok (.iadd, 1) := by decide +kernel
theorem dX0_describe_163 : decode cX0_describe 163 = .ok (.iastore, 1) := by decide +kernel
theorem dX0_describe_164 : decode cX0_describe 164 = .ok (.aload_n 0, 1) := by decide +kernel
theorem dX0_describe_165 : decode cX0_describe 165 = .ok (.getfield 27, 3) := by decide +kernel
theorem dX0_describe_168 : decode cX0_describe 168 = .ok (.iload_n 3, 1) := by decide +kernel
theorem dX0_describe_169 : decode cX0_describe 169 = .ok (.aload_n 0, 1) := by decide +kernel
theorem dX0_describe_170 : decode cX0_describe 170 = .ok (.getfield 27, 3) := by decide +kernel
theorem dX0_describe_173 : decode cX0_describe 173 = .ok (.iload_n 3, 1) := by decide +kernel
theorem dX0_describe_174 : decode cX0_describe 174 = .ok (.iaload, 1) := by decide +kernel
theorem dX0_describe_175 : decode cX0_describe 175 = .ok (.iload 5, 2) := by decide +kernel
theorem dX0_describe_177 : decode cX0_describe 177 = .ok (.invokestatic 77, 3) := by decide +kernel
theorem dX0_describe_180 : decode cX0_describe 180 = .ok (.iastore, 1) := by decide +kernel
theorem dX0_describe_181 : decode cX0_describe 181 = .ok (.aload_n 0, 1) := by decide +kernel
theorem dX0_describe_182 : decode cX0_describe 182 = .ok (.getfield 30, 3) := by decide +kernel
theorem dX0_describe_185 : decode cX0_describe 185 = .ok (.iload_n 3, 1) := by decide +kernel
theorem dX0_describe_186 : decode cX0_describe 186 = .ok (.aload_n 0, 1) := by decide +kernel
theorem dX0_describe_187 : decode cX0_describe 187 = .ok (.getfield 30, 3) := by decide +kernel
theorem dX0_describe_190 : decode cX0_describe 190 = .ok (.iload_n 3, 1) := by decide +kernel
theorem dX0_describe_191 : decode cX0_describe 191 = .ok (.iaload, 1) := by decide +kernel
theorem dX0_describe_192 : decode cX0_describe 192 = .ok (.iload 5, 2) := by decide +kernel
theorem dX0_describe_194 : decode cX0_describe 194 = .ok (.invokestatic 83, 3) := by decide +kernel
theorem dX0_describe_197 : decode cX0_describe 197 = .ok (.iastore, 1) := by decide +kernel
theorem dX0_describe_198 : decode cX0_describe 198 = .ok (.aload_n 0, 1) := by decide +kernel
theorem dX0_describe_199 : decode cX0_describe 199 = .ok (.getfield 33, 3) := by decide +kernel
theorem dX0_describe_202 : decode cX0_describe 202 = .ok (.iload_n 3, 1) := by decide +kernel
theorem dX0_describe_203 : decode cX0_describe 203 = .ok (.aload_n 0, 1) := by decide +kernel
theorem dX0_describe_204 : decode cX0_describe 204 = .ok (.getfield 33, 3) := by decide +kernel
theorem dX0_describe_207 : decode cX0_describe 207 = .ok (.iload_n 3, 1) := by decide +kernel
theorem dX0_describe_208 : decode cX0_describe 208 = .ok (.iaload, 1) := by decide +kernel
theorem dX0_describe_209 : decode cX0_describe 209 = .ok (.iload 6, 2) := by decide +kernel
theorem dX0_describe_211 : decode cX0_describe 211 = .ok (.invokestatic 83, 3) := by decide +kernel
theorem dX0_describe_214 : decode cX0_describe 214 = .ok (.iastore, 1) := by decide +kernel
theorem dX0_describe_215 : decode cX0_describe 215 = .ok (.iinc 4 1, 3) := by decide +kernel
theorem dX0_describe_218 : decode cX0_describe 218 = .ok (.goto (-104), 3) := by decide +kernel
theorem dX0_describe_221 : decode cX0_describe 221 = .ok (.return_, 1) := by decide +kernel
def mX0_describe : MM := (yX0_describe, cX0_describe, 7, none, { frames := 1, cells := 0, slots := 0, locals := 21 })
def X0_describe_L114 (u1_ : Int32) (u2_ : Int32) (u3_ : Int32)  : Nat → Int32 → SS → Option SS :=
  lp (fun _ _ => none) fun rec v4_ σ_ =>
    if u2_ ≤ v4_ then (
      some σ_
      ) else (
      grd (inb v4_ 1600) <|
      grd (nz u1_) <|
      vthen (irm (gI σ_ 42 (Int32.toNatClampNeg v4_)) u1_) fun v15 =>
      vthen ((gI σ_ 42 (Int32.toNatClampNeg v4_)) / u1_) fun v16 =>
      grd (inb u3_ 800) <|
      vthen (sI σ_ 35 (Int32.toNatClampNeg u3_) ((gI σ_ 35 (Int32.toNatClampNeg u3_)) + v15)) fun σ18 =>
      vthen (sI σ18 36 (Int32.toNatClampNeg u3_) ((gI σ18 36 (Int32.toNatClampNeg u3_)) + v16)) fun σ19 =>
      vthen (sI σ19 39 (Int32.toNatClampNeg u3_) (fJ9_min_7cf53 σ19 (gI σ19 39 (Int32.toNatClampNeg u3_)) v15)) fun σ20 =>
      vthen (sI σ20 40 (Int32.toNatClampNeg u3_) (fJ9_max_7cf53 σ20 (gI σ20 40 (Int32.toNatClampNeg u3_)) v15)) fun σ21 =>
      vthen (sI σ21 41 (Int32.toNatClampNeg u3_) (fJ9_max_7cf53 σ21 (gI σ21 41 (Int32.toNatClampNeg u3_)) v16)) fun σ22 =>
      rec (v4_ + (1 : Int32)) σ22
      )

def fX0_describe (σ : SS) (a1 : Int32) (a2 : Int32) : Option SS :=
  if a1 < (1 : Int32) then (
    some σ
    ) else (
    if (1 : Int32) ≤ a2 then (
      vthen (gI σ 33 0) fun v1 =>
      vthen (sI σ 33 0 ((gI σ 33 0) + (1 : Int32))) fun σ2 =>
      grd (inb v1 800) <|
      vthen (sI σ2 34 (Int32.toNatClampNeg v1) a2) fun σ4 =>
      vthen (sI σ4 35 (Int32.toNatClampNeg v1) (0 : Int32)) fun σ5 =>
      vthen (sI σ5 36 (Int32.toNatClampNeg v1) (0 : Int32)) fun σ6 =>
      grd (nz a1) <|
      vthen (sI σ6 37 (Int32.toNatClampNeg v1) (irm (gI σ6 42 0) a1)) fun σ8 =>
      vthen (sI σ8 38 (Int32.toNatClampNeg v1) ((gI σ8 42 0) / a1)) fun σ9 =>
      vthen (sI σ9 39 (Int32.toNatClampNeg v1) (gI σ9 37 (Int32.toNatClampNeg v1))) fun σ10 =>
      vthen (sI σ10 40 (Int32.toNatClampNeg v1) (gI σ10 37 (Int32.toNatClampNeg v1))) fun σ11 =>
      vthen (sI σ11 41 (Int32.toNatClampNeg v1) (gI σ11 38 (Int32.toNatClampNeg v1))) fun σ12 =>
      X0_describe_L114 a1 a2 v1
      fuel (0 : Int32) σ12
      ) else (
      some σ
      )
    )

set_option maxRecDepth 20000 in
theorem sX0_describe_L114 {g : GG} {r : SS} {u1_ : Int32} {u2_ : Int32} {u3_ : Int32}  
    (n : Nat) : ∀ (v4_ : Int32) (σ_ : SS), X0_describe_L114 u1_ u2_ u3_ n v4_ σ_ = some r → WT σ_ → RR g mX0_describe (FinR g mX0_describe none NF r) zF 114 [(0, .ref (ad g 33)), (1, .int u1_), (2, .int u2_), (3, .int u3_), (4, .int v4_)] [] σ_ := by
  unfold X0_describe_L114
  refine lp_ind (P := fun (rec : Int32 → SS → Option SS) => ∀ (v4_ : Int32) (σ_ : SS), rec v4_ σ_ = some r → WT σ_ → RR g mX0_describe (FinR g mX0_describe none NF r) zF 114 [(0, .ref (ad g 33)), (1, .int u1_), (2, .int u2_), (3, .int u3_), (4, .int v4_)] [] σ_) ?_ ?_ n
  · intro v4_ σ_ hr; cases hr
  intro rec ih v4_ σ_ hr hw_
  refine r_iload (pc := 114) (j := 4) dX0_describe_114 rfl ?_
  refine r_iload_n (pc := 116) (j := 2) dX0_describe_116 rfl rfl ?_
  refine r_icmp_ge (pc := 117) (tgt := 221) dX0_describe_117 rfl (fun hc => ?_) (fun hc => ?_)
  · replace hr := ite_t hc hr
    exact l_ov hr (r_vret (pc := 221) rfl rfl ⟨Nat.le_refl _, Nat.le_refl _⟩ dX0_describe_221)
  replace hr := ite_f hc hr
  refine r_aload_n (pc := 120) (j := 0) dX0_describe_120 rfl rfl ?_
  refine gf0_9 (pc := 121) tw_1_202 hw_ dX0_describe_121 ?_
  refine r_iload (pc := 124) (j := 4) dX0_describe_124 rfl ?_
  obtain ⟨h13, hr⟩ := grd_inv hr
  refine x_iald (pc := 126) (k := (Int32.toNatClampNeg v4_)) rfl h13 rfl dX0_describe_126 ?_
  refine r_iload_n (pc := 127) (j := 1) dX0_describe_127 rfl rfl ?_
  obtain ⟨h14, hr⟩ := grd_inv hr
  refine r_irem (pc := 128) dX0_describe_128 (nz_ne h14) ?_
  refine r_topi fun v15 ev15 => ?_
  replace hr := vthen_inv hr v15 ev15
  refine r_istore (pc := 129) (ls1 := [(5, .int v15), (0, .ref (ad g 33)), (1, .int u1_), (2, .int u2_), (3, .int u3_), (4, .int v4_)]) dX0_describe_129 (nle rfl) rfl ?_
  refine r_aload_n (pc := 131) (j := 1) dX0_describe_131 rfl rfl ?_
  refine gf0_9 (pc := 132) tw_1_202 hw_ dX0_describe_132 ?_
  refine r_iload (pc := 135) (j := 5) dX0_describe_135 rfl ?_
  refine x_iald (pc := 137) (k := (Int32.toNatClampNeg v4_)) rfl h13 rfl dX0_describe_137 ?_
  refine r_iload_n (pc := 138) (j := 2) dX0_describe_138 rfl rfl ?_
  refine r_idiv (pc := 139) dX0_describe_139 (nz_ne h14) ?_
  refine r_topi fun v16 ev16 => ?_
  replace hr := vthen_inv hr v16 ev16
  refine r_istore (pc := 140) (ls1 := [(6, .int v16), (5, .int v15), (0, .ref (ad g 33)), (1, .int u1_), (2, .int u2_), (3, .int u3_), (4, .int v4_)]) dX0_describe_140 (nle rfl) rfl ?_
  refine r_aload_n (pc := 142) (j := 2) dX0_describe_142 rfl rfl ?_
  refine gf0_2 (pc := 143) tw_1_186 hw_ dX0_describe_143 ?_
  refine r_iload_n (pc := 146) (j := 5) dX0_describe_146 rfl rfl ?_
  refine r_dup2 (pc := 147) dX0_describe_147 rfl rfl ?_
  obtain ⟨h17, hr⟩ := grd_inv hr
  refine x_iald (pc := 148) (k := (Int32.toNatClampNeg u3_)) rfl h17 rfl dX0_describe_148 ?_
  refine r_iload (pc := 149) (j := 1) dX0_describe_149 rfl ?_
  refine r_iadd (pc := 151) dX0_describe_151 ?_
  refine x_iast (pc := 152) (j := (Int32.toNatClampNeg u3_)) rfl h17 rfl dX0_describe_152 fun σ18 eσ18 => ?_
  replace hr := vthen_inv hr σ18 eσ18
  have hσ18 := wtI eσ18 hw_
  refine r_aload_n (pc := 153) (j := 2) dX0_describe_153 rfl rfl ?_
  refine gf0_3 (pc := 154) tw_1_189 hσ18 dX0_describe_154 ?_
  refine r_iload_n (pc := 157) (j := 5) dX0_describe_157 rfl rfl ?_
  refine r_dup2 (pc := 158) dX0_describe_158 rfl rfl ?_
  refine x_iald (pc := 159) (k := (Int32.toNatClampNeg u3_)) rfl h17 rfl dX0_describe_159 ?_
  refine r_iload (pc := 160) (j := 0) dX0_describe_160 rfl ?_
  refine r_iadd (pc := 162) dX0_describe_162 ?_
  refine x_iast (pc := 163) (j := (Int32.toNatClampNeg u3_)) rfl h17 rfl dX0_describe_163 fun σ19 eσ19 => ?_
  replace hr := vthen_inv hr σ19 eσ19
  have hσ19 := wtI eσ19 hσ18
  refine r_aload_n (pc := 164) (j := 2) dX0_describe_164 rfl rfl ?_
  refine gf0_6 (pc := 165) tw_1_196 hσ19 dX0_describe_165 ?_
  refine r_iload_n (pc := 168) (j := 5) dX0_describe_168 rfl rfl ?_
  refine r_aload_n (pc := 169) (j := 2) dX0_describe_169 rfl rfl ?_
  refine gf0_6 (pc := 170) tw_1_196 hσ19 dX0_describe_170 ?_
  refine r_iload_n (pc := 173) (j := 5) dX0_describe_173 rfl rfl ?_
  refine x_iald (pc := 174) (k := (Int32.toNatClampNeg u3_)) rfl h17 rfl dX0_describe_174 ?_
  refine r_iload (pc := 175) (j := 1) dX0_describe_175 rfl ?_
  refine kJ9_min_7cf53 (pc := 177) (hf := rfl) tw_2_231 ⟨nle rfl, nle rfl⟩ (nle rfl) dX0_describe_177 ?_
  refine x_iast (pc := 180) (j := (Int32.toNatClampNeg u3_)) rfl h17 rfl dX0_describe_180 fun σ20 eσ20 => ?_
  replace hr := vthen_inv hr σ20 eσ20
  have hσ20 := wtI eσ20 hσ19
  refine r_aload_n (pc := 181) (j := 2) dX0_describe_181 rfl rfl ?_
  refine gf0_7 (pc := 182) tw_1_198 hσ20 dX0_describe_182 ?_
  refine r_iload_n (pc := 185) (j := 5) dX0_describe_185 rfl rfl ?_
  refine r_aload_n (pc := 186) (j := 2) dX0_describe_186 rfl rfl ?_
  refine gf0_7 (pc := 187) tw_1_198 hσ20 dX0_describe_187 ?_
  refine r_iload_n (pc := 190) (j := 5) dX0_describe_190 rfl rfl ?_
  refine x_iald (pc := 191) (k := (Int32.toNatClampNeg u3_)) rfl h17 rfl dX0_describe_191 ?_
  refine r_iload (pc := 192) (j := 1) dX0_describe_192 rfl ?_
  refine kJ9_max_7cf53 (pc := 194) (hf := rfl) tw_2_232 ⟨nle rfl, nle rfl⟩ (nle rfl) dX0_describe_194 ?_
  refine x_iast (pc := 197) (j := (Int32.toNatClampNeg u3_)) rfl h17 rfl dX0_describe_197 fun σ21 eσ21 => ?_
  replace hr := vthen_inv hr σ21 eσ21
  have hσ21 := wtI eσ21 hσ20
  refine r_aload_n (pc := 198) (j := 2) dX0_describe_198 rfl rfl ?_
  refine gf0_8 (pc := 199) tw_1_200 hσ21 dX0_describe_199 ?_
  refine r_iload_n (pc := 202) (j := 5) dX0_describe_202 rfl rfl ?_
  refine r_aload_n (pc := 203) (j := 2) dX0_describe_203 rfl rfl ?_
  refine gf0_8 (pc := 204) tw_1_200 hσ21 dX0_describe_204 ?_
  refine r_iload_n (pc := 207) (j := 5) dX0_describe_207 rfl rfl ?_
  refine x_iald (pc := 208) (k := (Int32.toNatClampNeg u3_)) rfl h17 rfl dX0_describe_208 ?_
  refine r_iload (pc := 209) (j := 0) dX0_describe_209 rfl ?_
  refine kJ9_max_7cf53 (pc := 211) (hf := rfl) tw_2_232 ⟨nle rfl, nle rfl⟩ (nle rfl) dX0_describe_211 ?_
  refine x_iast (pc := 214) (j := (Int32.toNatClampNeg u3_)) rfl h17 rfl dX0_describe_214 fun σ22 eσ22 => ?_
  replace hr := vthen_inv hr σ22 eσ22
  have hσ22 := wtI eσ22 hσ21
  refine r_iinc (pc := 215) (j := 6) (v := (v4_ + (1 : Int32))) (ls1 := [(4, .int (v4_ + (1 : Int32))), (6, .int v16), (5, .int v15), (0, .ref (ad g 33)), (1, .int u1_), (2, .int u2_), (3, .int u3_)]) dX0_describe_215 rfl rfl (nle rfl) rfl ?_
  refine r_goto (pc := 218) (tgt := 114) dX0_describe_218 rfl ?_
  exact r_pick (ls1 := [(0, .ref (ad g 33)), (1, .int u1_), (2, .int u2_), (3, .int u3_), (4, .int (v4_ + (1 : Int32)))]) [3, 4, 5, 6, 0] rfl (ih (v4_ + (1 : Int32)) σ22 hr hσ22)

set_option maxRecDepth 20000 in
theorem sX0_describe {g : GG} {σ : SS} {a1 : Int32} {a2 : Int32} {r : SS} (hr : fX0_describe σ a1 a2 = some r)  : Ct g mX0_describe [.ref (ad g 33), .int a1, .int a2] NF σ none NF r := by
  refine Ct.of (by decide +kernel) (nle rfl) fun hw0 => ?_
  have hw := hw0 rfl
  unfold fX0_describe at hr
  change RR g mX0_describe (FinR g mX0_describe none NF r) zF 0 [(0, .ref (ad g 33)), (1, .int a1), (2, .int a2)] [] σ
  refine r_iload_n (pc := 0) (j := 1) dX0_describe_0 rfl rfl ?_
  refine r_iconst (pc := 1) (v := (1 : Int32)) dX0_describe_1 rfl ?_
  refine r_icmp_lt (pc := 2) (tgt := 10) dX0_describe_2 rfl (fun hc => ?_) (fun hc => ?_)
  · replace hr := ite_t hc hr
    exact l_ov hr (r_vret (pc := 10) rfl rfl ⟨Nat.le_refl _, Nat.le_refl _⟩ dX0_describe_10)
  replace hr := ite_f hc hr
  refine r_iload_n (pc := 5) (j := 2) dX0_describe_5 rfl rfl ?_
  refine r_iconst (pc := 6) (v := (1 : Int32)) dX0_describe_6 rfl ?_
  refine r_icmp_ge (pc := 7) (tgt := 11) dX0_describe_7 rfl (fun hc => ?_) (fun hc => ?_)
  · replace hr := ite_t hc hr
    refine r_aload_n (pc := 11) (j := 0) dX0_describe_11 rfl rfl ?_
    refine gf0_0 (pc := 12) tw_1_181 rfl dX0_describe_12 ?_
    refine r_topi fun v1 ev1 => ?_
    replace hr := vthen_inv hr v1 ev1
    refine r_istore_n (pc := 15) (ls1 := [(3, .int v1), (0, .ref (ad g 33)), (1, .int a1), (2, .int a2)]) dX0_describe_15 rfl (nle rfl) rfl ?_
    refine r_aload_n (pc := 16) (j := 1) dX0_describe_16 rfl rfl ?_
    refine r_dup (pc := 17) dX0_describe_17 rfl ?_
    refine gf0_0 (pc := 18) tw_1_181 rfl dX0_describe_18 ?_
    refine r_iconst (pc := 21) (v := (1 : Int32)) dX0_describe_21 rfl ?_
    refine r_iadd (pc := 22) dX0_describe_22 ?_
    refine pf0_0 (pc := 23) tw_1_181 rfl dX0_describe_23 fun σ2 eσ2 => ?_
    replace hr := vthen_inv hr σ2 eσ2
    have hσ2 := wtI eσ2 hw
    refine r_aload_n (pc := 26) (j := 1) dX0_describe_26 rfl rfl ?_
    refine gf0_1 (pc := 27) tw_1_183 hσ2 dX0_describe_27 ?_
    refine r_iload_n (pc := 30) (j := 0) dX0_describe_30 rfl rfl ?_
    refine r_iload_n (pc := 31) (j := 3) dX0_describe_31 rfl rfl ?_
    obtain ⟨h3, hr⟩ := grd_inv hr
    refine x_iast (pc := 32) (j := (Int32.toNatClampNeg v1)) rfl h3 rfl dX0_describe_32 fun σ4 eσ4 => ?_
    replace hr := vthen_inv hr σ4 eσ4
    have hσ4 := wtI eσ4 hσ2
    refine r_aload_n (pc := 33) (j := 1) dX0_describe_33 rfl rfl ?_
    refine gf0_2 (pc := 34) tw_1_186 hσ4 dX0_describe_34 ?_
    refine r_iload_n (pc := 37) (j := 0) dX0_describe_37 rfl rfl ?_
    refine r_iconst (pc := 38) (v := (0 : Int32)) dX0_describe_38 rfl ?_
    refine x_iast (pc := 39) (j := (Int32.toNatClampNeg v1)) rfl h3 rfl dX0_describe_39 fun σ5 eσ5 => ?_
    replace hr := vthen_inv hr σ5 eσ5
    have hσ5 := wtI eσ5 hσ4
    refine r_aload_n (pc := 40) (j := 1) dX0_describe_40 rfl rfl ?_
    refine gf0_3 (pc := 41) tw_1_189 hσ5 dX0_describe_41 ?_
    refine r_iload_n (pc := 44) (j := 0) dX0_describe_44 rfl rfl ?_
    refine r_iconst (pc := 45) (v := (0 : Int32)) dX0_describe_45 rfl ?_
    refine x_iast (pc := 46) (j := (Int32.toNatClampNeg v1)) rfl h3 rfl dX0_describe_46 fun σ6 eσ6 => ?_
    replace hr := vthen_inv hr σ6 eσ6
    have hσ6 := wtI eσ6 hσ5
    refine r_aload_n (pc := 47) (j := 1) dX0_describe_47 rfl rfl ?_
    refine gf0_4 (pc := 48) tw_1_192 hσ6 dX0_describe_48 ?_
    refine r_iload_n (pc := 51) (j := 0) dX0_describe_51 rfl rfl ?_
    refine r_aload_n (pc := 52) (j := 1) dX0_describe_52 rfl rfl ?_
    refine gf0_9 (pc := 53) tw_1_202 hσ6 dX0_describe_53 ?_
    refine r_iconst (pc := 56) (v := (0 : Int32)) dX0_describe_56 rfl ?_
    refine x_iald (pc := 57) (k := 0) rfl (by decide) rfl dX0_describe_57 ?_
    refine r_iload_n (pc := 58) (j := 2) dX0_describe_58 rfl rfl ?_
    obtain ⟨h7, hr⟩ := grd_inv hr
    refine r_irem (pc := 59) dX0_describe_59 (nz_ne h7) ?_
    refine x_iast (pc := 60) (j := (Int32.toNatClampNeg v1)) rfl h3 rfl dX0_describe_60 fun σ8 eσ8 => ?_
    replace hr := vthen_inv hr σ8 eσ8
    have hσ8 := wtI eσ8 hσ6
    refine r_aload_n (pc := 61) (j := 1) dX0_describe_61 rfl rfl ?_
    refine gf0_5 (pc := 62) tw_1_194 hσ8 dX0_describe_62 ?_
    refine r_iload_n (pc := 65) (j := 0) dX0_describe_65 rfl rfl ?_
    refine r_aload_n (pc := 66) (j := 1) dX0_describe_66 rfl rfl ?_
    refine gf0_9 (pc := 67) tw_1_202 hσ8 dX0_describe_67 ?_
    refine r_iconst (pc := 70) (v := (0 : Int32)) dX0_describe_70 rfl ?_
    refine x_iald (pc := 71) (k := 0) rfl (by decide) rfl dX0_describe_71 ?_
    refine r_iload_n (pc := 72) (j := 2) dX0_describe_72 rfl rfl ?_
    refine r_idiv (pc := 73) dX0_describe_73 (nz_ne h7) ?_
    refine x_iast (pc := 74) (j := (Int32.toNatClampNeg v1)) rfl h3 rfl dX0_describe_74 fun σ9 eσ9 => ?_
    replace hr := vthen_inv hr σ9 eσ9
    have hσ9 := wtI eσ9 hσ8
    refine r_aload_n (pc := 75) (j := 1) dX0_describe_75 rfl rfl ?_
    refine gf0_6 (pc := 76) tw_1_196 hσ9 dX0_describe_76 ?_
    refine r_iload_n (pc := 79) (j := 0) dX0_describe_79 rfl rfl ?_
    refine r_aload_n (pc := 80) (j := 1) dX0_describe_80 rfl rfl ?_
    refine gf0_4 (pc := 81) tw_1_192 hσ9 dX0_describe_81 ?_
    refine r_iload_n (pc := 84) (j := 0) dX0_describe_84 rfl rfl ?_
    refine x_iald (pc := 85) (k := (Int32.toNatClampNeg v1)) rfl h3 rfl dX0_describe_85 ?_
    refine x_iast (pc := 86) (j := (Int32.toNatClampNeg v1)) rfl h3 rfl dX0_describe_86 fun σ10 eσ10 => ?_
    replace hr := vthen_inv hr σ10 eσ10
    have hσ10 := wtI eσ10 hσ9
    refine r_aload_n (pc := 87) (j := 1) dX0_describe_87 rfl rfl ?_
    refine gf0_7 (pc := 88) tw_1_198 hσ10 dX0_describe_88 ?_
    refine r_iload_n (pc := 91) (j := 0) dX0_describe_91 rfl rfl ?_
    refine r_aload_n (pc := 92) (j := 1) dX0_describe_92 rfl rfl ?_
    refine gf0_4 (pc := 93) tw_1_192 hσ10 dX0_describe_93 ?_
    refine r_iload_n (pc := 96) (j := 0) dX0_describe_96 rfl rfl ?_
    refine x_iald (pc := 97) (k := (Int32.toNatClampNeg v1)) rfl h3 rfl dX0_describe_97 ?_
    refine x_iast (pc := 98) (j := (Int32.toNatClampNeg v1)) rfl h3 rfl dX0_describe_98 fun σ11 eσ11 => ?_
    replace hr := vthen_inv hr σ11 eσ11
    have hσ11 := wtI eσ11 hσ10
    refine r_aload_n (pc := 99) (j := 1) dX0_describe_99 rfl rfl ?_
    refine gf0_8 (pc := 100) tw_1_200 hσ11 dX0_describe_100 ?_
    refine r_iload_n (pc := 103) (j := 0) dX0_describe_103 rfl rfl ?_
    refine r_aload_n (pc := 104) (j := 1) dX0_describe_104 rfl rfl ?_
    refine gf0_5 (pc := 105) tw_1_194 hσ11 dX0_describe_105 ?_
    refine r_iload_n (pc := 108) (j := 0) dX0_describe_108 rfl rfl ?_
    refine x_iald (pc := 109) (k := (Int32.toNatClampNeg v1)) rfl h3 rfl dX0_describe_109 ?_
    refine x_iast (pc := 110) (j := (Int32.toNatClampNeg v1)) rfl h3 rfl dX0_describe_110 fun σ12 eσ12 => ?_
    replace hr := vthen_inv hr σ12 eσ12
    have hσ12 := wtI eσ12 hσ11
    refine r_iconst (pc := 111) (v := (0 : Int32)) dX0_describe_111 rfl ?_
    refine r_istore (pc := 112) (ls1 := [(4, .int (0 : Int32)), (3, .int v1), (0, .ref (ad g 33)), (1, .int a1), (2, .int a2)]) dX0_describe_112 (nle rfl) rfl ?_
    refine r_pick (ls1 := [(0, .ref (ad g 33)), (1, .int a1), (2, .int a2), (3, .int v1), (4, .int (0 : Int32))]) [2, 3, 4, 1, 0] rfl ?_
    refine sX0_describe_L114     fuel (0 : Int32) σ12 hr hσ12
  replace hr := ite_f hc hr
  exact l_ov hr (r_vret (pc := 10) rfl rfl ⟨Nat.le_refl _, Nat.le_refl _⟩ dX0_describe_10)

theorem kX0_describe {g : GG} {σ : SS} {a1 : Int32} {a2 : Int32} {σ2 : SS} {M : MM} {F : State → Array Value → List Frame → State → Prop} {pc index : Nat} {ls : List (Nat × Value)} {rest : List Value} (hf : fX0_describe σ a1 a2 = some σ2)  (hl : Cond.methodLink M.1.cls index yX0_describe ∈ lw_gt) (hR : mX0_describe.2.2.2.2.frames + 1 ≤ M.2.2.2.2.frames ∧ 8 + (mX0_describe.2.2.1 + 11) + mX0_describe.2.2.2.2.locals ≤ M.2.2.2.2.locals) (hrest : (rest.map fun v => v.category).sum ≤ 8) (hd : decode M.2.1 pc = .ok (.invokevirtual index, 3)) (k : WT σ2 → RR g M F zF (pc + 3) ls rest σ2) : RR g M F zF pc ls (.int a2 :: .int a1 :: .ref (ad g 33) :: rest) σ :=
  r_callV (z := zF) (N := mX0_describe) (nn := 2) (o1 := none) (sX0_describe hf ) (rfl : shp 33 = (0, 0)) (by decide) (shp_le (rfl : shp 33 = (0, 0)) (nle rfl)) (ci := 0) rfl rfl tw_2_230 tw_1_6 hl tw_2_229 tp_3 ⟨by decide, by decide, rfl⟩ hR rfl hrest hd ⟨Nat.zero_le _, Nat.zero_le _⟩ rfl (fun h => k (h rfl))

theorem dX0_find_0 : decode cX0_find 0 = .ok (.aload_n 0, 1) := by decide +kernel
theorem dX0_find_1 : decode cX0_find 1 = .ok (.iconst 0, 1) := by decide +kernel
theorem dX0_find_2 : decode cX0_find 2 = .ok (.putfield 43, 3) := by decide +kernel
theorem dX0_find_5 : decode cX0_find 5 = .ok (.aload_n 0, 1) := by decide +kernel
theorem dX0_find_6 : decode cX0_find 6 = .ok (.getfield 39, 3) := by decide +kernel
theorem dX0_find_9 : decode cX0_find 9 = .ok (.iconst 0, 1) := by decide +kernel
theorem dX0_find_10 : decode cX0_find 10 = .ok (.invokestatic 47, 3) := by decide +kernel
theorem dX0_find_13 : decode cX0_find 13 = .ok (.iconst 0, 1) := by decide +kernel
theorem dX0_find_14 : decode cX0_find 14 = .ok (.istore 4, 2) := by decide +kernel
theorem dX0_find_16 : decode cX0_find 16 = .ok (.iload 4, 2) := by decide +kernel
theorem dX0_find_18 : decode cX0_find 18 = .ok (.aload_n 1, 1) := by decide +kernel
theorem dX0_find_19 : decode cX0_find 19 = .ok (.invokevirtual 53, 3) := by decide +kernel
theorem dX0_find_22 : decode cX0_find 22 = .ok (.if_icmp .ge 45, 3) := by decide +kernel
theorem dX0_find_25 : decode cX0_find 25 = .ok (.aload_n 0, 1) := by decide +kernel
theorem dX0_find_26 : decode cX0_find 26 = .ok (.aload_n 1, 1) := by decide +kernel
theorem dX0_find_27 : decode cX0_find 27 = .ok (.iload_n 2, 1) := by decide +kernel
theorem dX0_find_28 : decode cX0_find 28 = .ok (.iload 4, 2) := by decide +kernel
theorem dX0_find_30 : decode cX0_find 30 = .ok (.invokevirtual 59, 3) := by decide +kernel
theorem dX0_find_33 : decode cX0_find 33 = .ok (.istore 5, 2) := by decide +kernel
theorem dX0_find_35 : decode cX0_find 35 = .ok (.iload 5, 2) := by decide +kernel
theorem dX0_find_37 : decode cX0_find 37 = .ok (.iload_n 3, 1) := by decide +kernel
theorem dX0_find_38 : decode cX0_find 38 = .ok (.if_icmp .lt 23, 3) := by decide +kernel
theorem dX0_find_41 : decode cX0_find 41 = .ok (.aload_n 0, 1) := by decide +kernel
theorem dX0_find_42 : decode cX0_find 42 = .ok (.getfield 43, 3) := by decide +kernel
theorem dX0_find_45 : decode cX0_find 45 = .ok (.sipush 800, 3) := by decide +kernel
theorem dX0_find_48 : decode cX0_find 48 = .ok (.if_icmp .ge 13, 3) := by decide +kernel
theorem dX0_find_51 : decode cX0_find 51 = .ok (.aload_n 0, 1) := by decide +kernel
theorem dX0_find_52 : decode cX0_find 52 = .ok (.aload_n 1, 1) := by decide +kernel
theorem dX0_find_53 : decode cX0_find 53 = .ok (.getfield 63, 3) := by decide +kernel
theorem dX0_find_56 : decode cX0_find 56 = .ok (.iload 5, 2) := by decide +kernel
theorem dX0_find_58 : decode cX0_find 58 = .ok (.invokevirtual 66, 3) := by decide +kernel
theorem dX0_find_61 : decode cX0_find 61 = .ok (.iinc 4 1, 3) := by decide +kernel
theorem dX0_find_64 : decode cX0_find 64 = .ok (.goto (-48), 3) := by decide +kernel
theorem dX0_find_67 : decode cX0_find 67 = .ok (.return_, 1) := by decide +kernel
def mX0_find : MM := (yX0_find, cX0_find, 6, none, { frames := 2, cells := 0, slots := 0, locals := 53 })
def X0_find_L16 (o1_ : Nat) (u2_ : Int32) (u3_ : Int32)  : Nat → Int32 → SS → Option SS :=
  lp (fun _ _ => none) fun rec v4_ σ_ =>
    if (fX6_size σ_ o1_) ≤ v4_ then (
      some σ_
      ) else (
      bnd (fX0_gather σ_ o1_ u2_ v4_) fun v3 σ6 =>
      if v3 < u3_ then (
        rec (v4_ + (1 : Int32)) σ6
        ) else (
        if (800 : Int32) ≤ (gI σ6 33 0) then (
          rec (v4_ + (1 : Int32)) σ6
          ) else (
          bnd1 (fX0_describe σ6 (gI σ6 o1_ 0) v3) fun σ7 =>
          rec (v4_ + (1 : Int32)) σ7
          )
        )
      )

def fX0_find (σ : SS) (a1 : Nat) (a2 : Int32) (a3 : Int32) : Option SS :=
  vthen (sI σ 33 0 (0 : Int32)) fun σ1 =>
  vthen (flB σ1 43 1600 (0 : Int32)) fun σ2 =>
  X0_find_L16 a1 a2 a3
  fuel (0 : Int32) σ2

set_option maxRecDepth 20000 in
theorem sX0_find_L16 {g : GG} {r : SS} {o1_ : Nat} {u2_ : Int32} {u3_ : Int32}  (hs1_ : shp o1_ = (6, 0))
    (n : Nat) : ∀ (v4_ : Int32) (σ_ : SS), X0_find_L16 o1_ u2_ u3_ n v4_ σ_ = some r → WT σ_ → RR g mX0_find (FinR g mX0_find none NF r) zF 16 [(0, .ref (ad g 33)), (1, .ref (ad g o1_)), (2, .int u2_), (3, .int u3_), (4, .int v4_)] [] σ_ := by
  unfold X0_find_L16
  refine lp_ind (P := fun (rec : Int32 → SS → Option SS) => ∀ (v4_ : Int32) (σ_ : SS), rec v4_ σ_ = some r → WT σ_ → RR g mX0_find (FinR g mX0_find none NF r) zF 16 [(0, .ref (ad g 33)), (1, .ref (ad g o1_)), (2, .int u2_), (3, .int u3_), (4, .int v4_)] [] σ_) ?_ ?_ n
  · intro v4_ σ_ hr; cases hr
  intro rec ih v4_ σ_ hr hw_
  refine r_iload (pc := 16) (j := 4) dX0_find_16 rfl ?_
  refine r_aload_n (pc := 18) (j := 1) dX0_find_18 rfl rfl ?_
  refine kX6_size (pc := 19) (hf := rfl) hs1_ tw_2_215 ⟨nle rfl, nle rfl⟩ (nle rfl) dX0_find_19 ?_
  refine r_icmp_ge (pc := 22) (tgt := 67) dX0_find_22 rfl (fun hc => ?_) (fun hc => ?_)
  · replace hr := ite_t hc hr
    exact l_ov hr (r_vret (pc := 67) rfl rfl ⟨Nat.le_refl _, Nat.le_refl _⟩ dX0_find_67)
  replace hr := ite_f hc hr
  refine r_aload_n (pc := 25) (j := 0) dX0_find_25 rfl rfl ?_
  refine r_aload_n (pc := 26) (j := 1) dX0_find_26 rfl rfl ?_
  refine r_iload_n (pc := 27) (j := 2) dX0_find_27 rfl rfl ?_
  refine r_iload (pc := 28) (j := 4) dX0_find_28 rfl ?_
  obtain ⟨v3, σ6, eσ6, hr⟩ := bnd_inv hr
  refine kX0_gather (pc := 30) eσ6 hs1_ tw_2_219 ⟨nle rfl, nle rfl⟩ (nle rfl) dX0_find_30 fun hσ6 => ?_
  refine r_istore (pc := 33) (ls1 := [(5, .int v3), (0, .ref (ad g 33)), (1, .ref (ad g o1_)), (2, .int u2_), (3, .int u3_), (4, .int v4_)]) dX0_find_33 (nle rfl) rfl ?_
  refine r_iload (pc := 35) (j := 0) dX0_find_35 rfl ?_
  refine r_iload_n (pc := 37) (j := 4) dX0_find_37 rfl rfl ?_
  refine r_icmp_lt (pc := 38) (tgt := 61) dX0_find_38 rfl (fun hc => ?_) (fun hc => ?_)
  · replace hr := ite_t hc hr
    refine r_iinc (pc := 61) (j := 5) (v := (v4_ + (1 : Int32))) (ls1 := [(4, .int (v4_ + (1 : Int32))), (5, .int v3), (0, .ref (ad g 33)), (1, .ref (ad g o1_)), (2, .int u2_), (3, .int u3_)]) dX0_find_61 rfl rfl (nle rfl) rfl ?_
    refine r_goto (pc := 64) (tgt := 16) dX0_find_64 rfl ?_
    exact r_pick (ls1 := [(0, .ref (ad g 33)), (1, .ref (ad g o1_)), (2, .int u2_), (3, .int u3_), (4, .int (v4_ + (1 : Int32)))]) [2, 3, 4, 5, 0] rfl (ih (v4_ + (1 : Int32)) σ6 hr hσ6)
  replace hr := ite_f hc hr
  refine r_aload_n (pc := 41) (j := 1) dX0_find_41 rfl rfl ?_
  refine gf0_0 (pc := 42) tw_1_181 rfl dX0_find_42 ?_
  refine r_sipush (pc := 45) (v := (800 : Int32)) dX0_find_45 rfl ?_
  refine r_icmp_ge (pc := 48) (tgt := 61) dX0_find_48 rfl (fun hc => ?_) (fun hc => ?_)
  · replace hr := ite_t hc hr
    refine r_iinc (pc := 61) (j := 5) (v := (v4_ + (1 : Int32))) (ls1 := [(4, .int (v4_ + (1 : Int32))), (5, .int v3), (0, .ref (ad g 33)), (1, .ref (ad g o1_)), (2, .int u2_), (3, .int u3_)]) dX0_find_61 rfl rfl (nle rfl) rfl ?_
    refine r_goto (pc := 64) (tgt := 16) dX0_find_64 rfl ?_
    exact r_pick (ls1 := [(0, .ref (ad g 33)), (1, .ref (ad g o1_)), (2, .int u2_), (3, .int u3_), (4, .int (v4_ + (1 : Int32)))]) [2, 3, 4, 5, 0] rfl (ih (v4_ + (1 : Int32)) σ6 hr hσ6)
  replace hr := ite_f hc hr
  refine r_aload_n (pc := 51) (j := 1) dX0_find_51 rfl rfl ?_
  refine r_aload_n (pc := 52) (j := 2) dX0_find_52 rfl rfl ?_
  refine gf6_0 (pc := 53) tw_1_33 hs1_ dX0_find_53 ?_
  refine r_iload (pc := 56) (j := 0) dX0_find_56 rfl ?_
  obtain ⟨σ7, eσ7, hr⟩ := bnd1_inv hr
  refine kX0_describe (pc := 58) eσ7 tw_2_227 ⟨nle rfl, nle rfl⟩ (nle rfl) dX0_find_58 fun hσ7 => ?_
  refine r_iinc (pc := 61) (j := 5) (v := (v4_ + (1 : Int32))) (ls1 := [(4, .int (v4_ + (1 : Int32))), (5, .int v3), (0, .ref (ad g 33)), (1, .ref (ad g o1_)), (2, .int u2_), (3, .int u3_)]) dX0_find_61 rfl rfl (nle rfl) rfl ?_
  refine r_goto (pc := 64) (tgt := 16) dX0_find_64 rfl ?_
  exact r_pick (ls1 := [(0, .ref (ad g 33)), (1, .ref (ad g o1_)), (2, .int u2_), (3, .int u3_), (4, .int (v4_ + (1 : Int32)))]) [2, 3, 4, 5, 0] rfl (ih (v4_ + (1 : Int32)) σ7 hr hσ7)

set_option maxRecDepth 20000 in
theorem sX0_find {g : GG} {σ : SS} {a1 : Nat} {a2 : Int32} {a3 : Int32} {r : SS} (hr : fX0_find σ a1 a2 a3 = some r) (hs1 : shp a1 = (6, 0)) : Ct g mX0_find [.ref (ad g 33), .ref (ad g a1), .int a2, .int a3] NF σ none NF r := by
  refine Ct.of (by decide +kernel) (nle rfl) fun hw0 => ?_
  have hw := hw0 rfl
  unfold fX0_find at hr
  change RR g mX0_find (FinR g mX0_find none NF r) zF 0 [(0, .ref (ad g 33)), (1, .ref (ad g a1)), (2, .int a2), (3, .int a3)] [] σ
  refine r_aload_n (pc := 0) (j := 0) dX0_find_0 rfl rfl ?_
  refine r_iconst (pc := 1) (v := (0 : Int32)) dX0_find_1 rfl ?_
  refine pf0_0 (pc := 2) tw_1_181 rfl dX0_find_2 fun σ1 eσ1 => ?_
  replace hr := vthen_inv hr σ1 eσ1
  have hσ1 := wtI eσ1 hw
  refine r_aload_n (pc := 5) (j := 0) dX0_find_5 rfl rfl ?_
  refine gf0_10 (pc := 6) tw_1_203 hσ1 dX0_find_6 ?_
  refine r_iconst (pc := 9) (v := (0 : Int32)) dX0_find_9 rfl ?_
  refine x_flB (pc := 10) (σ := σ1) (c0 := 43) (n := 1600) (v := (0 : Int32)) rfl tw_2_212 ⟨nle rfl, nle rfl⟩ (nle rfl) dX0_find_10 fun σ2 eσ2 => ?_
  replace hr := vthen_inv hr σ2 eσ2
  have hσ2 := wtFB eσ2 hσ1
  refine r_iconst (pc := 13) (v := (0 : Int32)) dX0_find_13 rfl ?_
  refine r_istore (pc := 14) (ls1 := [(4, .int (0 : Int32)), (0, .ref (ad g 33)), (1, .ref (ad g a1)), (2, .int a2), (3, .int a3)]) dX0_find_14 (nle rfl) rfl ?_
  refine r_pick (ls1 := [(0, .ref (ad g 33)), (1, .ref (ad g a1)), (2, .int a2), (3, .int a3), (4, .int (0 : Int32))]) [1, 2, 3, 4, 0] rfl ?_
  refine sX0_find_L16 hs1    fuel (0 : Int32) σ2 hr hσ2

theorem kX0_find {g : GG} {σ : SS} {a1 : Nat} {a2 : Int32} {a3 : Int32} {σ2 : SS} {M : MM} {F : State → Array Value → List Frame → State → Prop} {pc index : Nat} {ls : List (Nat × Value)} {rest : List Value} (hf : fX0_find σ a1 a2 a3 = some σ2) (hs1 : shp a1 = (6, 0)) (hl : Cond.methodLink M.1.cls index yX0_find ∈ lw_gt) (hR : mX0_find.2.2.2.2.frames + 1 ≤ M.2.2.2.2.frames ∧ 8 + (mX0_find.2.2.1 + 11) + mX0_find.2.2.2.2.locals ≤ M.2.2.2.2.locals) (hrest : (rest.map fun v => v.category).sum ≤ 8) (hd : decode M.2.1 pc = .ok (.invokevirtual index, 3)) (k : WT σ2 → RR g M F zF (pc + 3) ls rest σ2) : RR g M F zF pc ls (.int a3 :: .int a2 :: .ref (ad g a1) :: .ref (ad g 33) :: rest) σ :=
  r_callV (z := zF) (N := mX0_find) (nn := 3) (o1 := none) (sX0_find hf hs1) (rfl : shp 33 = (0, 0)) (by decide) (shp_le (rfl : shp 33 = (0, 0)) (nle rfl)) (ci := 0) rfl rfl tw_2_211 tw_1_6 hl tw_2_209 tw_2_210 ⟨by decide, by decide, rfl⟩ hR rfl hrest hd ⟨Nat.zero_le _, Nat.zero_le _⟩ rfl (fun h => k (h rfl))

theorem dX0_nearest_0 : decode cX0_nearest 0 = .ok (.iconst (-1), 1) := by decide +kernel
theorem dX0_nearest_1 : decode cX0_nearest 1 = .ok (.istore 4, 2) := by decide +kernel
theorem dX0_nearest_3 : decode cX0_nearest 3 = .ok (.lconst 0, 1) := by decide +kernel
theorem dX0_nearest_4 : decode cX0_nearest 4 = .ok (.lstore 5, 2) := by decide +kernel
theorem dX0_nearest_6 : decode cX0_nearest 6 = .ok (.lconst 1, 1) := by decide +kernel
theorem dX0_nearest_7 : decode cX0_nearest 7 = .ok (.lstore 7, 2) := by decide +kernel
theorem dX0_nearest_9 : decode cX0_nearest 9 = .ok (.iconst 0, 1) := by decide +kernel
theorem dX0_nearest_10 : decode cX0_nearest 10 = .ok (.istore 9, 2) := by decide +kernel
theorem dX0_nearest_12 : decode cX0_nearest 12 = .ok (.iload 9, 2) := by decide +kernel
theorem dX0_nearest_14 : decode cX0_nearest 14 = .ok (.aload_n 0, 1) := by decide +kernel
theorem dX0_nearest_15 : decode cX0_nearest 15 = .ok (.getfield 43, 3) := by decide +kernel
theorem dX0_nearest_18 : decode cX0_nearest 18 = .ok (.if_icmp .ge 113, 3) := by decide +kernel
theorem dX0_nearest_21 : decode cX0_nearest 21 = .ok (.aload_n 0, 1) := by decide +kernel
theorem dX0_nearest_22 : decode cX0_nearest 22 = .ok (.getfield 11, 3) := by decide +kernel
theorem dX0_nearest_25 : decode cX0_nearest 25 = .ok (.iload 9, 2) := by decide +kernel
theorem dX0_nearest_27 : decode cX0_nearest 27 = .ok (.iaload, 1) := by decide +kernel
theorem dX0_nearest_28 : decode cX0_nearest 28 = .ok (.iload_n 3, 1) := by decide +kernel
theorem dX0_nearest_29 : decode cX0_nearest 29 = .ok (.if_icmp .lt 96, 3) := by decide +kernel
theorem dX0_nearest_32 : decode cX0_nearest 32 = .ok (.aload_n 0, 1) := by decide +kernel
theorem dX0_nearest_33 : decode cX0_nearest 33 = .ok (.getfield 11, 3) := by decide +kernel
theorem dX0_nearest_36 : decode cX0_nearest 36 = .ok (.iload 9, 2) := by decide +kernel
theorem dX0_nearest_38 : decode cX0_nearest 38 = .ok (.iaload, 1) := by decide +kernel
theorem dX0_nearest_39 : decode cX0_nearest 39 = .ok (.i2l, 1) := by decide +kernel
theorem dX0_nearest_40 : decode cX0_nearest 40 = .ok (.lstore 10, 2) := by decide +kernel
theorem dX0_nearest_42 : decode cX0_nearest 42 = .ok (.aload_n 0, 1) := by decide +kernel
theorem dX0_nearest_43 : decode cX0_nearest 43 = .ok (.getfield 15, 3) := by decide +kernel
theorem dX0_nearest_46 : decode cX0_nearest 46 = .ok (.iload 9, 2) := by decide +kernel
theorem dX0_nearest_48 : decode cX0_nearest 48 = .ok (.iaload, 1) := by decide +kernel
theorem dX0_nearest_49 : decode cX0_nearest 49 = .ok (.i2l, 1) := by decide +kernel
theorem dX0_nearest_50 : decode cX0_nearest 50 = .ok (.lload 10, 2) := by decide +kernel
theorem dX0_nearest_52 : decode cX0_nearest 52 = .ok (.iload_n 1, 1) := by decide +kernel
theorem dX0_nearest_53 : decode cX0_nearest 53 = .ok (.i2l, 1) := by decide +kernel
theorem dX0_nearest_54 : decode cX0_nearest 54 = .ok (.lmul, 1) := by decide +kernel
theorem dX0_nearest_55 : decode cX0_nearest 55 = .ok (.lsub, 1) := by decide +kernel
theorem dX0_nearest_56 : decode cX0_nearest 56 = .ok (.lstore 12, 2) := by decide +kernel
theorem dX0_nearest_58 : decode cX0_nearest 58 = .ok (.aload_n 0, 1) := by decide +kernel
theorem dX0_nearest_59 : decode cX0_nearest 59 = .ok (.getfield 18, 3) := by decide +kernel
theorem dX0_nearest_62 : decode cX0_nearest 62 = .ok (.iload 9, 2) := by decide +kernel
theorem dX0_nearest_64 : decode cX0_nearest 64 = .ok (.iaload, 1) := by decide +kernel
theorem dX0_nearest_65 : decode cX0_nearest 65 = .ok (.i2l, 1) := by decide +kernel
theorem dX0_nearest_66 : decode cX0_nearest 66 = .ok (.lload 10, 2) := by decide +kernel
theorem dX0_nearest_68 : decode cX0_nearest 68 = .ok (.iload_n 2, 1) := by decide +kernel
theorem dX0_nearest_69 : decode cX0_nearest 69 = .ok (.i2l, 1) := by decide +kernel
theorem dX0_nearest_70 : decode cX0_nearest 70 = .ok (.lmul, 1) := by decide +kernel
theorem dX0_nearest_71 : decode cX0_nearest 71 = .ok (.lsub, 1) := by decide +kernel
theorem dX0_nearest_72 : decode cX0_nearest 72 = .ok (.lstore 14, 2) := by decide +kernel
theorem dX0_nearest_74 : decode cX0_nearest 74 = .ok (.lload 12, 2) := by decide +kernel
theorem dX0_nearest_76 : decode cX0_nearest 76 = .ok (.lload 12, 2) := by decide +kernel
theorem dX0_nearest_78 : decode cX0_nearest 78 = .ok (.lmul, 1) := by decide +kernel
theorem dX0_nearest_79 : decode cX0_nearest 79 = .ok (.lload 14, 2) := by decide +kernel
theorem dX0_nearest_81 : decode cX0_nearest 81 = .ok (.lload 14, 2) := by decide +kernel
theorem dX0_nearest_83 : decode cX0_nearest 83 = .ok (.lmul, 1) := by decide +kernel
theorem dX0_nearest_84 : decode cX0_nearest 84 = .ok (.ladd, 1) := by decide +kernel
theorem dX0_nearest_85 : decode cX0_nearest 85 = .ok (.lstore 16, 2) := by decide +kernel
theorem dX0_nearest_87 : decode cX0_nearest 87 = .ok (.lload 10, 2) := by decide +kernel
theorem dX0_nearest_89 : decode cX0_nearest 89 = .ok (.lload 10, 2) := by decide +kernel
theorem dX0_nearest_91 : decode cX0_nearest 91 = .ok (.lmul, 1) := by decide +kernel
theorem dX0_nearest_92 : decode cX0_nearest 92 = .ok (.lstore 18, 2) := by decide +kernel
theorem dX0_nearest_94 : decode cX0_nearest 94 = .ok (.iload 4, 2) := by decide +kernel
theorem dX0_nearest_96 : decode cX0_nearest 96 = .ok (.ifCond .lt 17, 3) := by decide +kernel
theorem dX0_nearest_99 : decode cX0_nearest 99 = .ok (.lload 16, 2) := by decide +kernel
theorem dX0_nearest_101 : decode cX0_nearest 101 = .ok (.lload 7, 2) := by decide +kernel
theorem dX0_nearest_103 : decode cX0_nearest 103 = .ok (.lmul, 1) := by decide +kernel
theorem dX0_nearest_104 : decode cX0_nearest 104 = .ok (.lload 5, 2) := by decide +kernel
theorem dX0_nearest_106 : decode cX0_nearest 106 = .ok (.lload 18, 2) := by decide +kernel
theorem dX0_nearest_108 : decode cX0_nearest 108 = .ok (.lmul, 1) := by decide +kernel
theorem dX0_nearest_109 : decode cX0_nearest 109 = .ok (.lcmp, 1) := by decide +kernel
theorem dX0_nearest_110 : decode cX0_nearest 110 = .ok (.ifCond .ge 15, 3) := by decide +kernel
theorem dX0_nearest_113 : decode cX0_nearest 113 = .ok (.iload 9, 2) := by decide +kernel
theorem dX0_nearest_115 : decode cX0_nearest 115 = .ok (.istore 4, 2) := by decide +kernel
theorem dX0_nearest_117 : decode cX0_nearest 117 = .ok (.lload 16, 2) := by decide +kernel
theorem dX0_nearest_119 : decode cX0_nearest 119 = .ok (.lstore 5, 2) := by decide +kernel
theorem dX0_nearest_121 : decode cX0_nearest 121 = .ok (.lload 18, 2) := by decide +kernel
theorem dX0_nearest_123 : decode cX0_nearest 123 = .ok (.lstore 7, 2) := by decide +kernel
theorem dX0_nearest_125 : decode cX0_nearest 125 = .ok (.iinc 9 1, 3) := by decide +kernel
theorem dX0_nearest_128 : decode cX0_nearest 128 = .ok (.goto (-116), 3) := by decide +kernel
theorem dX0_nearest_131 : decode cX0_nearest 131 = .ok (.iload 4, 2) := by decide +kernel
theorem dX0_nearest_133 : decode cX0_nearest 133 = .ok (.ireturn, 1) := by decide +kernel
def mX0_nearest : MM := (yX0_nearest, cX0_nearest, 20, Option.some Jvm.ClassFile.FieldType.int, { frames := 0, cells := 0, slots := 0, locals := 0 })
def X0_nearest_L12 (σ_ : SS) (u1_ : Int32) (u2_ : Int32) (u3_ : Int32)  : Nat → Int32 → Int64 → Int64 → Int32 → Option Int32 :=
  lp (fun _ _ _ _ => none) fun rec v4_ w5_ w7_ v9_ =>
    if (gI σ_ 33 0) ≤ v9_ then (
      some v4_
      ) else (
      grd (inb v9_ 800) <|
      if (gI σ_ 34 (Int32.toNatClampNeg v9_)) < u3_ then (
        rec v4_ w5_ w7_ (v9_ + (1 : Int32))
        ) else (
        vthen (Int32.toInt64 (gI σ_ 34 (Int32.toNatClampNeg v9_))) fun w2 =>
        vthen ((Int32.toInt64 (gI σ_ 35 (Int32.toNatClampNeg v9_))) - (w2 * (Int32.toInt64 u1_))) fun w3 =>
        vthen ((Int32.toInt64 (gI σ_ 36 (Int32.toNatClampNeg v9_))) - (w2 * (Int32.toInt64 u2_))) fun w4 =>
        vthen ((w3 * w3) + (w4 * w4)) fun w5 =>
        vthen (w2 * w2) fun w6 =>
        vthen (fun (_u : Unit) =>
          rec v9_ w5 w6 (v9_ + (1 : Int32))
          ) fun j113 =>
        if v4_ < 0 then (
          j113 ()
          ) else (
          if 0 ≤ (lg_cmp (w5 * w7_) (w5_ * w6)) then (
            rec v4_ w5_ w7_ (v9_ + (1 : Int32))
            ) else (
            j113 ()
            )
          )
        )
      )

def fX0_nearest (σ0 : SS) (a1 : Int32) (a2 : Int32) (a3 : Int32) : Option Int32 :=
  X0_nearest_L12 σ0 a1 a2 a3
  fuel (-1 : Int32) (0 : Int64) (1 : Int64) (0 : Int32)

set_option maxRecDepth 20000 in
theorem sX0_nearest_L12 {g : GG} {r : Int32} {σ_ : SS} {σ0 : SS} {u1_ : Int32} {u2_ : Int32} {u3_ : Int32}  
    (hw_ : WT σ_)
    (h0_ : σ_ = σ0)
    (n : Nat) : ∀ (v4_ : Int32) (w5_ : Int64) (w7_ : Int64) (v9_ : Int32), X0_nearest_L12 σ_ u1_ u2_ u3_ n v4_ w5_ w7_ v9_ = some r → RR g mX0_nearest (FinR g mX0_nearest (some (.int r)) NF σ0) zF 12 [(0, .ref (ad g 33)), (1, .int u1_), (2, .int u2_), (3, .int u3_), (4, .int v4_), (5, .long w5_), (7, .long w7_), (9, .int v9_)] [] σ_ := by
  unfold X0_nearest_L12
  refine lp_ind (P := fun (rec : Int32 → Int64 → Int64 → Int32 → Option Int32) => ∀ (v4_ : Int32) (w5_ : Int64) (w7_ : Int64) (v9_ : Int32), rec v4_ w5_ w7_ v9_ = some r → RR g mX0_nearest (FinR g mX0_nearest (some (.int r)) NF σ0) zF 12 [(0, .ref (ad g 33)), (1, .int u1_), (2, .int u2_), (3, .int u3_), (4, .int v4_), (5, .long w5_), (7, .long w7_), (9, .int v9_)] [] σ_) ?_ ?_ n
  · intro v4_ w5_ w7_ v9_ hr; cases hr
  intro rec ih v4_ w5_ w7_ v9_ hr
  subst h0_
  refine r_iload (pc := 12) (j := 7) dX0_nearest_12 rfl ?_
  refine r_aload_n (pc := 14) (j := 0) dX0_nearest_14 rfl rfl ?_
  refine gf0_0 (pc := 15) tw_1_181 rfl dX0_nearest_15 ?_
  refine r_icmp_ge (pc := 18) (tgt := 131) dX0_nearest_18 rfl (fun hc => ?_) (fun hc => ?_)
  · replace hr := ite_t hc hr
    refine r_iload (pc := 131) (j := 4) dX0_nearest_131 rfl ?_
    exact l_opi hr (r_iret (pc := 133) (v := v4_) rfl rfl ⟨Nat.le_refl _, Nat.le_refl _⟩ dX0_nearest_133)
  replace hr := ite_f hc hr
  refine r_aload_n (pc := 21) (j := 0) dX0_nearest_21 rfl rfl ?_
  refine gf0_1 (pc := 22) tw_1_183 hw_ dX0_nearest_22 ?_
  refine r_iload (pc := 25) (j := 7) dX0_nearest_25 rfl ?_
  obtain ⟨h1, hr⟩ := grd_inv hr
  refine x_iald (pc := 27) (k := (Int32.toNatClampNeg v9_)) rfl h1 rfl dX0_nearest_27 ?_
  refine r_iload_n (pc := 28) (j := 3) dX0_nearest_28 rfl rfl ?_
  refine r_icmp_lt (pc := 29) (tgt := 125) dX0_nearest_29 rfl (fun hc => ?_) (fun hc => ?_)
  · replace hr := ite_t hc hr
    refine r_iinc (pc := 125) (j := 7) (v := (v9_ + (1 : Int32))) (ls1 := [(9, .int (v9_ + (1 : Int32))), (0, .ref (ad g 33)), (1, .int u1_), (2, .int u2_), (3, .int u3_), (4, .int v4_), (5, .long w5_), (7, .long w7_)]) dX0_nearest_125 rfl rfl (nle rfl) rfl ?_
    refine r_goto (pc := 128) (tgt := 12) dX0_nearest_128 rfl ?_
    exact r_pick (ls1 := [(0, .ref (ad g 33)), (1, .int u1_), (2, .int u2_), (3, .int u3_), (4, .int v4_), (5, .long w5_), (7, .long w7_), (9, .int (v9_ + (1 : Int32)))]) [1, 2, 3, 4, 5, 6, 7, 0] rfl (ih v4_ w5_ w7_ (v9_ + (1 : Int32)) hr)
  replace hr := ite_f hc hr
  refine r_aload_n (pc := 32) (j := 0) dX0_nearest_32 rfl rfl ?_
  refine gf0_1 (pc := 33) tw_1_183 hw_ dX0_nearest_33 ?_
  refine r_iload (pc := 36) (j := 7) dX0_nearest_36 rfl ?_
  refine x_iald (pc := 38) (k := (Int32.toNatClampNeg v9_)) rfl h1 rfl dX0_nearest_38 ?_
  refine r_i2l (pc := 39) dX0_nearest_39 ?_
  refine r_topl fun w2 ew2 => ?_
  replace hr := vthen_inv hr w2 ew2
  refine r_lstore (pc := 40) (ls1 := [(10, .long w2), (0, .ref (ad g 33)), (1, .int u1_), (2, .int u2_), (3, .int u3_), (4, .int v4_), (5, .long w5_), (7, .long w7_), (9, .int v9_)]) dX0_nearest_40 (nle rfl) rfl ?_
  refine r_aload_n (pc := 42) (j := 1) dX0_nearest_42 rfl rfl ?_
  refine gf0_2 (pc := 43) tw_1_186 hw_ dX0_nearest_43 ?_
  refine r_iload (pc := 46) (j := 8) dX0_nearest_46 rfl ?_
  refine x_iald (pc := 48) (k := (Int32.toNatClampNeg v9_)) rfl h1 rfl dX0_nearest_48 ?_
  refine r_i2l (pc := 49) dX0_nearest_49 ?_
  refine r_lload (pc := 50) (j := 0) dX0_nearest_50 rfl ?_
  refine r_iload_n (pc := 52) (j := 2) dX0_nearest_52 rfl rfl ?_
  refine r_i2l (pc := 53) dX0_nearest_53 ?_
  refine r_lmul (pc := 54) dX0_nearest_54 ?_
  refine r_lsub (pc := 55) dX0_nearest_55 ?_
  refine r_topl fun w3 ew3 => ?_
  replace hr := vthen_inv hr w3 ew3
  refine r_lstore (pc := 56) (ls1 := [(12, .long w3), (10, .long w2), (0, .ref (ad g 33)), (1, .int u1_), (2, .int u2_), (3, .int u3_), (4, .int v4_), (5, .long w5_), (7, .long w7_), (9, .int v9_)]) dX0_nearest_56 (nle rfl) rfl ?_
  refine r_aload_n (pc := 58) (j := 2) dX0_nearest_58 rfl rfl ?_
  refine gf0_3 (pc := 59) tw_1_189 hw_ dX0_nearest_59 ?_
  refine r_iload (pc := 62) (j := 9) dX0_nearest_62 rfl ?_
  refine x_iald (pc := 64) (k := (Int32.toNatClampNeg v9_)) rfl h1 rfl dX0_nearest_64 ?_
  refine r_i2l (pc := 65) dX0_nearest_65 ?_
  refine r_lload (pc := 66) (j := 1) dX0_nearest_66 rfl ?_
  refine r_iload_n (pc := 68) (j := 4) dX0_nearest_68 rfl rfl ?_
  refine r_i2l (pc := 69) dX0_nearest_69 ?_
  refine r_lmul (pc := 70) dX0_nearest_70 ?_
  refine r_lsub (pc := 71) dX0_nearest_71 ?_
  refine r_topl fun w4 ew4 => ?_
  replace hr := vthen_inv hr w4 ew4
  refine r_lstore (pc := 72) (ls1 := [(14, .long w4), (12, .long w3), (10, .long w2), (0, .ref (ad g 33)), (1, .int u1_), (2, .int u2_), (3, .int u3_), (4, .int v4_), (5, .long w5_), (7, .long w7_), (9, .int v9_)]) dX0_nearest_72 (nle rfl) rfl ?_
  refine r_lload (pc := 74) (j := 1) dX0_nearest_74 rfl ?_
  refine r_lload (pc := 76) (j := 1) dX0_nearest_76 rfl ?_
  refine r_lmul (pc := 78) dX0_nearest_78 ?_
  refine r_lload (pc := 79) (j := 0) dX0_nearest_79 rfl ?_
  refine r_lload (pc := 81) (j := 0) dX0_nearest_81 rfl ?_
  refine r_lmul (pc := 83) dX0_nearest_83 ?_
  refine r_ladd (pc := 84) dX0_nearest_84 ?_
  refine r_topl fun w5 ew5 => ?_
  replace hr := vthen_inv hr w5 ew5
  refine r_lstore (pc := 85) (ls1 := [(16, .long w5), (14, .long w4), (12, .long w3), (10, .long w2), (0, .ref (ad g 33)), (1, .int u1_), (2, .int u2_), (3, .int u3_), (4, .int v4_), (5, .long w5_), (7, .long w7_), (9, .int v9_)]) dX0_nearest_85 (nle rfl) rfl ?_
  refine r_lload (pc := 87) (j := 3) dX0_nearest_87 rfl ?_
  refine r_lload (pc := 89) (j := 3) dX0_nearest_89 rfl ?_
  refine r_lmul (pc := 91) dX0_nearest_91 ?_
  refine r_topl fun w6 ew6 => ?_
  replace hr := vthen_inv hr w6 ew6
  refine r_lstore (pc := 92) (ls1 := [(18, .long w6), (16, .long w5), (14, .long w4), (12, .long w3), (10, .long w2), (0, .ref (ad g 33)), (1, .int u1_), (2, .int u2_), (3, .int u3_), (4, .int v4_), (5, .long w5_), (7, .long w7_), (9, .int v9_)]) dX0_nearest_92 (nle rfl) rfl ?_
  refine r_iload (pc := 94) (j := 9) dX0_nearest_94 rfl ?_
  obtain ⟨j113, ej113, hr⟩ := vth_ex hr
  have hj113 : j113 () = some r → RR g mX0_nearest (FinR g mX0_nearest (some (.int r)) NF σ_) zF 113 [(0, .ref (ad g 33)), (1, .int u1_), (2, .int u2_), (3, .int u3_), (9, .int v9_), (16, .long w5), (18, .long w6)] [] σ_ := by
    intro  hr
    replace hr := (congrFun ej113 ()).symm.trans hr
    refine r_iload (pc := 113) (j := 4) dX0_nearest_113 rfl ?_
    refine r_istore (pc := 115) (ls1 := [(4, .int v9_), (0, .ref (ad g 33)), (1, .int u1_), (2, .int u2_), (3, .int u3_), (9, .int v9_), (16, .long w5), (18, .long w6)]) dX0_nearest_115 (nle rfl) rfl ?_
    refine r_lload (pc := 117) (j := 6) dX0_nearest_117 rfl ?_
    refine r_lstore (pc := 119) (ls1 := [(5, .long w5), (4, .int v9_), (0, .ref (ad g 33)), (1, .int u1_), (2, .int u2_), (3, .int u3_), (9, .int v9_), (16, .long w5), (18, .long w6)]) dX0_nearest_119 (nle rfl) rfl ?_
    refine r_lload (pc := 121) (j := 8) dX0_nearest_121 rfl ?_
    refine r_lstore (pc := 123) (ls1 := [(7, .long w6), (5, .long w5), (4, .int v9_), (0, .ref (ad g 33)), (1, .int u1_), (2, .int u2_), (3, .int u3_), (9, .int v9_), (16, .long w5), (18, .long w6)]) dX0_nearest_123 (nle rfl) rfl ?_
    refine r_iinc (pc := 125) (j := 7) (v := (v9_ + (1 : Int32))) (ls1 := [(9, .int (v9_ + (1 : Int32))), (7, .long w6), (5, .long w5), (4, .int v9_), (0, .ref (ad g 33)), (1, .int u1_), (2, .int u2_), (3, .int u3_), (16, .long w5), (18, .long w6)]) dX0_nearest_125 rfl rfl (nle rfl) rfl ?_
    refine r_goto (pc := 128) (tgt := 12) dX0_nearest_128 rfl ?_
    exact r_pick (ls1 := [(0, .ref (ad g 33)), (1, .int u1_), (2, .int u2_), (3, .int u3_), (4, .int v9_), (5, .long w5), (7, .long w6), (9, .int (v9_ + (1 : Int32)))]) [4, 5, 6, 7, 3, 2, 1, 0] rfl (ih v9_ w5 w6 (v9_ + (1 : Int32)) hr)
  refine r_if_lt (pc := 96) (tgt := 113) dX0_nearest_96 rfl (fun hc => ?_) (fun hc => ?_)
  · replace hr := ite_t hc hr
    exact r_pick (ls1 := [(0, .ref (ad g 33)), (1, .int u1_), (2, .int u2_), (3, .int u3_), (9, .int v9_), (16, .long w5), (18, .long w6)]) [5, 6, 7, 8, 12, 1, 0] rfl (hj113  hr)
  replace hr := ite_f hc hr
  refine r_lload (pc := 99) (j := 1) dX0_nearest_99 rfl ?_
  refine r_lload (pc := 101) (j := 11) dX0_nearest_101 rfl ?_
  refine r_lmul (pc := 103) dX0_nearest_103 ?_
  refine r_lload (pc := 104) (j := 10) dX0_nearest_104 rfl ?_
  refine r_lload (pc := 106) (j := 0) dX0_nearest_106 rfl ?_
  refine r_lmul (pc := 108) dX0_nearest_108 ?_
  refine r_lcmp (pc := 109) dX0_nearest_109 ?_
  refine r_if_ge (pc := 110) (tgt := 125) dX0_nearest_110 rfl (fun hc => ?_) (fun hc => ?_)
  · replace hr := ite_t hc hr
    refine r_iinc (pc := 125) (j := 12) (v := (v9_ + (1 : Int32))) (ls1 := [(9, .int (v9_ + (1 : Int32))), (18, .long w6), (16, .long w5), (14, .long w4), (12, .long w3), (10, .long w2), (0, .ref (ad g 33)), (1, .int u1_), (2, .int u2_), (3, .int u3_), (4, .int v4_), (5, .long w5_), (7, .long w7_)]) dX0_nearest_125 rfl rfl (nle rfl) rfl ?_
    refine r_goto (pc := 128) (tgt := 12) dX0_nearest_128 rfl ?_
    exact r_pick (ls1 := [(0, .ref (ad g 33)), (1, .int u1_), (2, .int u2_), (3, .int u3_), (4, .int v4_), (5, .long w5_), (7, .long w7_), (9, .int (v9_ + (1 : Int32)))]) [6, 7, 8, 9, 10, 11, 12, 0] rfl (ih v4_ w5_ w7_ (v9_ + (1 : Int32)) hr)
  replace hr := ite_f hc hr
  exact r_pick (ls1 := [(0, .ref (ad g 33)), (1, .int u1_), (2, .int u2_), (3, .int u3_), (9, .int v9_), (16, .long w5), (18, .long w6)]) [5, 6, 7, 8, 12, 1, 0] rfl (hj113  hr)

set_option maxRecDepth 20000 in
theorem sX0_nearest {g : GG} {σ0 : SS} {a1 : Int32} {a2 : Int32} {a3 : Int32} {r : Int32} (hr : fX0_nearest σ0 a1 a2 a3 = some r)  : Ct g mX0_nearest [.ref (ad g 33), .int a1, .int a2, .int a3] NF σ0 (some (.int r)) NF σ0 := by
  refine Ct.of (by decide +kernel) (nle rfl) fun hw0 => ?_
  have hw := hw0 rfl
  unfold fX0_nearest at hr
  change RR g mX0_nearest (FinR g mX0_nearest (some (.int r)) NF σ0) zF 0 [(0, .ref (ad g 33)), (1, .int a1), (2, .int a2), (3, .int a3)] [] σ0
  refine r_iconst (pc := 0) (v := (-1 : Int32)) dX0_nearest_0 rfl ?_
  refine r_istore (pc := 1) (ls1 := [(4, .int (-1 : Int32)), (0, .ref (ad g 33)), (1, .int a1), (2, .int a2), (3, .int a3)]) dX0_nearest_1 (nle rfl) rfl ?_
  refine r_lconst (pc := 3) (v := (0 : Int64)) dX0_nearest_3 rfl ?_
  refine r_lstore (pc := 4) (ls1 := [(5, .long (0 : Int64)), (4, .int (-1 : Int32)), (0, .ref (ad g 33)), (1, .int a1), (2, .int a2), (3, .int a3)]) dX0_nearest_4 (nle rfl) rfl ?_
  refine r_lconst (pc := 6) (v := (1 : Int64)) dX0_nearest_6 rfl ?_
  refine r_lstore (pc := 7) (ls1 := [(7, .long (1 : Int64)), (5, .long (0 : Int64)), (4, .int (-1 : Int32)), (0, .ref (ad g 33)), (1, .int a1), (2, .int a2), (3, .int a3)]) dX0_nearest_7 (nle rfl) rfl ?_
  refine r_iconst (pc := 9) (v := (0 : Int32)) dX0_nearest_9 rfl ?_
  refine r_istore (pc := 10) (ls1 := [(9, .int (0 : Int32)), (7, .long (1 : Int64)), (5, .long (0 : Int64)), (4, .int (-1 : Int32)), (0, .ref (ad g 33)), (1, .int a1), (2, .int a2), (3, .int a3)]) dX0_nearest_10 (nle rfl) rfl ?_
  refine r_pick (ls1 := [(0, .ref (ad g 33)), (1, .int a1), (2, .int a2), (3, .int a3), (4, .int (-1 : Int32)), (5, .long (0 : Int64)), (7, .long (1 : Int64)), (9, .int (0 : Int32))]) [4, 5, 6, 7, 3, 2, 1, 0] rfl ?_
  refine sX0_nearest_L12  hw rfl  fuel (-1 : Int32) (0 : Int64) (1 : Int64) (0 : Int32) hr

theorem kX0_nearest {g : GG} {σ0 : SS} {a1 : Int32} {a2 : Int32} {a3 : Int32} {v : Int32} {M : MM} {F : State → Array Value → List Frame → State → Prop} {pc index : Nat} {ls : List (Nat × Value)} {rest : List Value} (hf : fX0_nearest σ0 a1 a2 a3 = some v)  (hl : Cond.methodLink M.1.cls index yX0_nearest ∈ lw_gt) (hR : mX0_nearest.2.2.2.2.frames + 1 ≤ M.2.2.2.2.frames ∧ 8 + (mX0_nearest.2.2.1 + 11) + mX0_nearest.2.2.2.2.locals ≤ M.2.2.2.2.locals) (hrest : (rest.map fun v => v.category).sum ≤ 8) (hd : decode M.2.1 pc = .ok (.invokevirtual index, 3)) (k : RR g M F zF (pc + 3) ls (.int v :: rest) σ0) : RR g M F zF pc ls (.int a3 :: .int a2 :: .int a1 :: .ref (ad g 33) :: rest) σ0 :=
  r_callV (z := zF) (N := mX0_nearest) (nn := 3) (o1 := some (.int v)) (sX0_nearest hf ) (rfl : shp 33 = (0, 0)) (by decide) (shp_le (rfl : shp 33 = (0, 0)) (nle rfl)) (ci := 0) rfl rfl tw_2_236 tw_1_6 hl tw_2_234 tw_2_235 ⟨by decide, by decide, rfl⟩ hR rfl hrest hd ⟨Nat.zero_le _, Nat.zero_le _⟩ rfl (fun h => k)

theorem dX3_marksAreFour_0 : decode cX3_marksAreFour 0 = .ok (.iconst 0, 1) := by decide +kernel
theorem dX3_marksAreFour_1 : decode cX3_marksAreFour 1 = .ok (.istore_n 1, 1) := by decide +kernel
theorem dX3_marksAreFour_2 : decode cX3_marksAreFour 2 = .ok (.iload_n 1, 1) := by decide +kernel
theorem dX3_marksAreFour_3 : decode cX3_marksAreFour 3 = .ok (.iconst 4, 1) := by decide +kernel
theorem dX3_marksAreFour_4 : decode cX3_marksAreFour 4 = .ok (.if_icmp .ge 50, 3) := by decide +kernel
theorem dX3_marksAreFour_7 : decode cX3_marksAreFour 7 = .ok (.aload_n 0, 1) := by decide +kernel
theorem dX3_marksAreFour_8 : decode cX3_marksAreFour 8 = .ok (.getfield 22, 3) := by decide +kernel
theorem dX3_marksAreFour_11 : decode cX3_marksAreFour 11 = .ok (.iload_n 1, 1) := by decide +kernel
theorem dX3_marksAreFour_12 : decode cX3_marksAreFour 12 = .ok (.iaload, 1) := by decide +kernel
theorem dX3_marksAreFour_13 : decode cX3_marksAreFour 13 = .ok (.ifCond .ge 5, 3) := by decide +kernel
theorem dX3_marksAreFour_16 : decode cX3_marksAreFour 16 = .ok (.iconst 0, 1) := by decide +kernel
theorem dX3_marksAreFour_17 : decode cX3_marksAreFour 17 = .ok (.ireturn, 1) := by decide +kernel
theorem dX3_marksAreFour_18 : decode cX3_marksAreFour 18 = .ok (.iconst 0, 1) := by decide +kernel
theorem dX3_marksAreFour_19 : decode cX3_marksAreFour 19 = .ok (.istore_n 2, 1) := by decide +kernel
theorem dX3_marksAreFour_20 : decode cX3_marksAreFour 20 = .ok (.iload_n 2, 1) := by decide +kernel
theorem dX3_marksAreFour_21 : decode cX3_marksAreFour 21 = .ok (.iload_n 1, 1) := by decide +kernel
theorem dX3_marksAreFour_22 : decode cX3_marksAreFour 22 = .ok (.if_icmp .ge 26, 3) := by decide +kernel
theorem dX3_marksAreFour_25 : decode cX3_marksAreFour 25 = .ok (.aload_n 0, 1) := by decide +kernel
theorem dX3_marksAreFour_26 : decode cX3_marksAreFour 26 = .ok (.getfield 22, 3) := by decide +kernel
theorem dX3_marksAreFour_29 : decode cX3_marksAreFour 29 = .ok (.iload_n 2, 1) := by decide +kernel
theorem dX3_marksAreFour_30 : decode cX3_marksAreFour 30 = .ok (.iaload, 1) := by decide +kernel
theorem dX3_marksAreFour_31 : decode cX3_marksAreFour 31 = .ok (.aload_n 0, 1) := by decide +kernel
theorem dX3_marksAreFour_32 : decode cX3_marksAreFour 32 = .ok (.getfield 22, 3) := by decide +kernel
theorem dX3_marksAreFour_35 : decode cX3_marksAreFour 35 = .ok (.iload_n 1, 1) := by decide +kernel
theorem dX3_marksAreFour_36 : decode cX3_marksAreFour 36 = .ok (.iaload, 1) := by decide +kernel
theorem dX3_marksAreFour_37 : decode cX3_marksAreFour 37 = .ok (.if_icmp .ne 5, 3) := by decide +kernel
theorem dX3_marksAreFour_40 : decode cX3_marksAreFour 40 = .ok (.iconst 0, 1) := by decide +kernel
theorem dX3_marksAreFour_41 : decode cX3_marksAreFour 41 = .ok (.ireturn, 1) := by decide +kernel
theorem dX3_marksAreFour_42 : decode cX3_marksAreFour 42 = .ok (.iinc 2 1, 3) := by decide +kernel
theorem dX3_marksAreFour_45 : decode cX3_marksAreFour 45 = .ok (.goto (-25), 3) := by decide +kernel
theorem dX3_marksAreFour_48 : decode cX3_marksAreFour 48 = .ok (.iinc 1 1, 3) := by decide +kernel
theorem dX3_marksAreFour_51 : decode cX3_marksAreFour 51 = .ok (.goto (-49), 3) := by decide +kernel
theorem dX3_marksAreFour_54 : decode cX3_marksAreFour 54 = .ok (.iconst 1, 1) := by decide +kernel
theorem dX3_marksAreFour_55 : decode cX3_marksAreFour 55 = .ok (.ireturn, 1) := by decide +kernel
def mX3_marksAreFour : MM := (yX3_marksAreFour, cX3_marksAreFour, 3, Option.some Jvm.ClassFile.FieldType.boolean, { frames := 0, cells := 0, slots := 0, locals := 0 })
def X3_marksAreFour_L20 (σ_ : SS) (u1_ : Int32) (k48 : Unit → Option Bool) : Nat → Int32 → Option Bool :=
  lp (fun _ => none) fun rec v2_ =>
    if u1_ ≤ v2_ then (
      k48 ()
      ) else (
      grd (inb v2_ 4) <|
      grd (inb u1_ 4) <|
      if (gI σ_ 44 (Int32.toNatClampNeg v2_)) = (gI σ_ 44 (Int32.toNatClampNeg u1_)) then (
        some false
        ) else (
        rec (v2_ + (1 : Int32))
        )
      )

def X3_marksAreFour_L2 (σ_ : SS)   : Nat → Int32 → Option Bool :=
  lp (fun _ => none) fun rec v1_ =>
    if (4 : Int32) ≤ v1_ then (
      some true
      ) else (
      grd (inb v1_ 4) <|
      if 0 ≤ (gI σ_ 44 (Int32.toNatClampNeg v1_)) then (
        X3_marksAreFour_L20 σ_ v1_
        (fun _ =>
          rec (v1_ + (1 : Int32))
          )
        fuel (0 : Int32)
        ) else (
        some false
        )
      )

def fX3_marksAreFour (σ0 : SS)  : Option Bool :=
  X3_marksAreFour_L2 σ0
  fuel (0 : Int32)

set_option maxRecDepth 20000 in
theorem sX3_marksAreFour_L20 {g : GG} {r : Bool} {σ_ : SS} {σ0 : SS} {u1_ : Int32} {k48 : Unit → Option Bool} 
    (hw_ : WT σ_)
    (h0_ : σ_ = σ0)
    (hk48 : k48 () = some r → RR g mX3_marksAreFour (FinR g mX3_marksAreFour (some (.int (b2i r))) NF σ0) zF 48 [(0, .ref (ad g 31)), (1, .int u1_)] [] σ_)
    (n : Nat) : ∀ (v2_ : Int32), X3_marksAreFour_L20 σ_ u1_ k48 n v2_ = some r → RR g mX3_marksAreFour (FinR g mX3_marksAreFour (some (.int (b2i r))) NF σ0) zF 20 [(0, .ref (ad g 31)), (1, .int u1_), (2, .int v2_)] [] σ_ := by
  unfold X3_marksAreFour_L20
  refine lp_ind (P := fun (rec : Int32 → Option Bool) => ∀ (v2_ : Int32), rec v2_ = some r → RR g mX3_marksAreFour (FinR g mX3_marksAreFour (some (.int (b2i r))) NF σ0) zF 20 [(0, .ref (ad g 31)), (1, .int u1_), (2, .int v2_)] [] σ_) ?_ ?_ n
  · intro v2_ hr; cases hr
  intro rec ih v2_ hr
  subst h0_
  refine r_iload_n (pc := 20) (j := 2) dX3_marksAreFour_20 rfl rfl ?_
  refine r_iload_n (pc := 21) (j := 1) dX3_marksAreFour_21 rfl rfl ?_
  refine r_icmp_ge (pc := 22) (tgt := 48) dX3_marksAreFour_22 rfl (fun hc => ?_) (fun hc => ?_)
  · replace hr := ite_t hc hr
    exact r_pick (ls1 := [(0, .ref (ad g 31)), (1, .int u1_)]) [0, 1] rfl (hk48  hr)
  replace hr := ite_f hc hr
  refine r_aload_n (pc := 25) (j := 0) dX3_marksAreFour_25 rfl rfl ?_
  refine gf3_2 (pc := 26) tw_2_24 hw_ dX3_marksAreFour_26 ?_
  refine r_iload_n (pc := 29) (j := 2) dX3_marksAreFour_29 rfl rfl ?_
  obtain ⟨h2, hr⟩ := grd_inv hr
  refine x_iald (pc := 30) (k := (Int32.toNatClampNeg v2_)) rfl h2 rfl dX3_marksAreFour_30 ?_
  refine r_aload_n (pc := 31) (j := 0) dX3_marksAreFour_31 rfl rfl ?_
  refine gf3_2 (pc := 32) tw_2_24 hw_ dX3_marksAreFour_32 ?_
  refine r_iload_n (pc := 35) (j := 1) dX3_marksAreFour_35 rfl rfl ?_
  obtain ⟨h3, hr⟩ := grd_inv hr
  refine x_iald (pc := 36) (k := (Int32.toNatClampNeg u1_)) rfl h3 rfl dX3_marksAreFour_36 ?_
  refine r_icmp_ne (pc := 37) (tgt := 42) dX3_marksAreFour_37 rfl (fun hc => ?_) (fun hc => ?_)
  · replace hr := ite_f hc hr
    refine r_iinc (pc := 42) (j := 2) (v := (v2_ + (1 : Int32))) (ls1 := [(2, .int (v2_ + (1 : Int32))), (0, .ref (ad g 31)), (1, .int u1_)]) dX3_marksAreFour_42 rfl rfl (nle rfl) rfl ?_
    refine r_goto (pc := 45) (tgt := 20) dX3_marksAreFour_45 rfl ?_
    exact r_pick (ls1 := [(0, .ref (ad g 31)), (1, .int u1_), (2, .int (v2_ + (1 : Int32)))]) [1, 2, 0] rfl (ih (v2_ + (1 : Int32)) hr)
  replace hr := ite_t hc hr
  refine r_iconst (pc := 40) (v := (0 : Int32)) dX3_marksAreFour_40 rfl ?_
  exact l_opz hr (r_zret (pc := 41) (v := b2i false) (ty := .boolean) rfl (b2i_nar _) rfl ⟨Nat.le_refl _, Nat.le_refl _⟩ dX3_marksAreFour_41)

set_option maxRecDepth 20000 in
theorem sX3_marksAreFour_L2 {g : GG} {r : Bool} {σ_ : SS} {σ0 : SS}   
    (hw_ : WT σ_)
    (h0_ : σ_ = σ0)
    (n : Nat) : ∀ (v1_ : Int32), X3_marksAreFour_L2 σ_ n v1_ = some r → RR g mX3_marksAreFour (FinR g mX3_marksAreFour (some (.int (b2i r))) NF σ0) zF 2 [(0, .ref (ad g 31)), (1, .int v1_)] [] σ_ := by
  unfold X3_marksAreFour_L2
  refine lp_ind (P := fun (rec : Int32 → Option Bool) => ∀ (v1_ : Int32), rec v1_ = some r → RR g mX3_marksAreFour (FinR g mX3_marksAreFour (some (.int (b2i r))) NF σ0) zF 2 [(0, .ref (ad g 31)), (1, .int v1_)] [] σ_) ?_ ?_ n
  · intro v1_ hr; cases hr
  intro rec ih v1_ hr
  subst h0_
  refine r_iload_n (pc := 2) (j := 1) dX3_marksAreFour_2 rfl rfl ?_
  refine r_iconst (pc := 3) (v := (4 : Int32)) dX3_marksAreFour_3 rfl ?_
  refine r_icmp_ge (pc := 4) (tgt := 54) dX3_marksAreFour_4 rfl (fun hc => ?_) (fun hc => ?_)
  · replace hr := ite_t hc hr
    refine r_iconst (pc := 54) (v := (1 : Int32)) dX3_marksAreFour_54 rfl ?_
    exact l_opz hr (r_zret (pc := 55) (v := b2i true) (ty := .boolean) rfl (b2i_nar _) rfl ⟨Nat.le_refl _, Nat.le_refl _⟩ dX3_marksAreFour_55)
  replace hr := ite_f hc hr
  refine r_aload_n (pc := 7) (j := 0) dX3_marksAreFour_7 rfl rfl ?_
  refine gf3_2 (pc := 8) tw_2_24 hw_ dX3_marksAreFour_8 ?_
  refine r_iload_n (pc := 11) (j := 1) dX3_marksAreFour_11 rfl rfl ?_
  obtain ⟨h1, hr⟩ := grd_inv hr
  refine x_iald (pc := 12) (k := (Int32.toNatClampNeg v1_)) rfl h1 rfl dX3_marksAreFour_12 ?_
  refine r_if_ge (pc := 13) (tgt := 18) dX3_marksAreFour_13 rfl (fun hc => ?_) (fun hc => ?_)
  · replace hr := ite_t hc hr
    refine r_iconst (pc := 18) (v := (0 : Int32)) dX3_marksAreFour_18 rfl ?_
    refine r_istore_n (pc := 19) (ls1 := [(2, .int (0 : Int32)), (0, .ref (ad g 31)), (1, .int v1_)]) dX3_marksAreFour_19 rfl (nle rfl) rfl ?_
    refine r_pick (ls1 := [(0, .ref (ad g 31)), (1, .int v1_), (2, .int (0 : Int32))]) [1, 2, 0] rfl ?_
    refine sX3_marksAreFour_L20  hw_ rfl (fun hr => ?_) fuel (0 : Int32) hr
    refine r_iinc (pc := 48) (j := 1) (v := (v1_ + (1 : Int32))) (ls1 := [(1, .int (v1_ + (1 : Int32))), (0, .ref (ad g 31))]) dX3_marksAreFour_48 rfl rfl (nle rfl) rfl ?_
    refine r_goto (pc := 51) (tgt := 2) dX3_marksAreFour_51 rfl ?_
    exact r_pick (ls1 := [(0, .ref (ad g 31)), (1, .int (v1_ + (1 : Int32)))]) [1, 0] rfl (ih (v1_ + (1 : Int32)) hr)
  replace hr := ite_f hc hr
  refine r_iconst (pc := 16) (v := (0 : Int32)) dX3_marksAreFour_16 rfl ?_
  exact l_opz hr (r_zret (pc := 17) (v := b2i false) (ty := .boolean) rfl (b2i_nar _) rfl ⟨Nat.le_refl _, Nat.le_refl _⟩ dX3_marksAreFour_17)

set_option maxRecDepth 20000 in
theorem sX3_marksAreFour {g : GG} {σ0 : SS}  {r : Bool} (hr : fX3_marksAreFour σ0 = some r)  : Ct g mX3_marksAreFour [.ref (ad g 31)] NF σ0 (some (.int (b2i r))) NF σ0 := by
  refine Ct.of (by decide +kernel) (nle rfl) fun hw0 => ?_
  have hw := hw0 rfl
  unfold fX3_marksAreFour at hr
  change RR g mX3_marksAreFour (FinR g mX3_marksAreFour (some (.int (b2i r))) NF σ0) zF 0 [(0, .ref (ad g 31))] [] σ0
  refine r_iconst (pc := 0) (v := (0 : Int32)) dX3_marksAreFour_0 rfl ?_
  refine r_istore_n (pc := 1) (ls1 := [(1, .int (0 : Int32)), (0, .ref (ad g 31))]) dX3_marksAreFour_1 rfl (nle rfl) rfl ?_
  refine r_pick (ls1 := [(0, .ref (ad g 31)), (1, .int (0 : Int32))]) [1, 0] rfl ?_
  refine sX3_marksAreFour_L2  hw rfl  fuel (0 : Int32) hr

theorem kX3_marksAreFour {g : GG} {σ0 : SS}  {v : Bool} {M : MM} {F : State → Array Value → List Frame → State → Prop} {pc index : Nat} {ls : List (Nat × Value)} {rest : List Value} (hf : fX3_marksAreFour σ0 = some v)  (hl : Cond.methodLink M.1.cls index yX3_marksAreFour ∈ lw_gt) (hR : mX3_marksAreFour.2.2.2.2.frames + 1 ≤ M.2.2.2.2.frames ∧ 8 + (mX3_marksAreFour.2.2.1 + 11) + mX3_marksAreFour.2.2.2.2.locals ≤ M.2.2.2.2.locals) (hrest : (rest.map fun v => v.category).sum ≤ 8) (hd : decode M.2.1 pc = .ok (.invokevirtual index, 3)) (k : RR g M F zF (pc + 3) ls (.int (b2i v) :: rest) σ0) : RR g M F zF pc ls (.ref (ad g 31) :: rest) σ0 :=
  r_callV (z := zF) (N := mX3_marksAreFour) (nn := 0) (o1 := some (.int (b2i v))) (sX3_marksAreFour hf ) (rfl : shp 31 = (3, 0)) (by decide) (shp_le (rfl : shp 31 = (3, 0)) (nle rfl)) (ci := 3) rfl rfl tw_3_0 tw_1_5 hl tw_2_239 tp_4 ⟨by decide, by decide, rfl⟩ hR rfl hrest hd ⟨Nat.zero_le _, Nat.zero_le _⟩ rfl (fun h => k)

theorem dX5_put_0 : decode cX5_put 0 = .ok (.aload_n 0, 1) := by decide +kernel
theorem dX5_put_1 : decode cX5_put 1 = .ok (.getfield 9, 3) := by decide +kernel
theorem dX5_put_4 : decode cX5_put 4 = .ok (.iload_n 1, 1) := by decide +kernel
theorem dX5_put_5 : decode cX5_put 5 = .ok (.lload_n 2, 1) := by decide +kernel
theorem dX5_put_6 : decode cX5_put 6 = .ok (.lastore, 1) := by decide +kernel
theorem dX5_put_7 : decode cX5_put 7 = .ok (.aload_n 0, 1) := by decide +kernel
theorem dX5_put_8 : decode cX5_put 8 = .ok (.getfield 15, 3) := by decide +kernel
theorem dX5_put_11 : decode cX5_put 11 = .ok (.iload_n 1, 1) := by decide +kernel
theorem dX5_put_12 : decode cX5_put 12 = .ok (.lload 4, 2) := by decide +kernel
theorem dX5_put_14 : decode cX5_put 14 = .ok (.lastore, 1) := by decide +kernel
theorem dX5_put_15 : decode cX5_put 15 = .ok (.aload_n 0, 1) := by decide +kernel
theorem dX5_put_16 : decode cX5_put 16 = .ok (.getfield 18, 3) := by decide +kernel
theorem dX5_put_19 : decode cX5_put 19 = .ok (.iload_n 1, 1) := by decide +kernel
theorem dX5_put_20 : decode cX5_put 20 = .ok (.lload 6, 2) := by decide +kernel
theorem dX5_put_22 : decode cX5_put 22 = .ok (.lastore, 1) := by decide +kernel
theorem dX5_put_23 : decode cX5_put 23 = .ok (.return_, 1) := by decide +kernel
def mX5_put : MM := (yX5_put, cX5_put, 8, none, { frames := 0, cells := 0, slots := 0, locals := 0 })
def fX5_put (σ : SS) (a1 : Int32) (a2 : Int64) (a4 : Int64) (a6 : Int64) : Option SS :=
  grd (inb a1 4) <|
  vthen (sL σ 46 (Int32.toNatClampNeg a1) a2) fun σ2 =>
  vthen (sL σ2 47 (Int32.toNatClampNeg a1) a4) fun σ3 =>
  vthen (sL σ3 48 (Int32.toNatClampNeg a1) a6) fun σ4 =>
  some σ4

set_option maxRecDepth 20000 in
theorem sX5_put {g : GG} {σ : SS} {a1 : Int32} {a2 : Int64} {a4 : Int64} {a6 : Int64} {r : SS} (hr : fX5_put σ a1 a2 a4 a6 = some r)  : Ct g mX5_put [.ref (ad g 45), .int a1, .long a2, .long a4, .long a6] NF σ none NF r := by
  refine Ct.of (by decide +kernel) (nle rfl) fun hw0 => ?_
  have hw := hw0 rfl
  unfold fX5_put at hr
  change RR g mX5_put (FinR g mX5_put none NF r) zF 0 [(0, .ref (ad g 45)), (1, .int a1), (2, .long a2), (4, .long a4), (6, .long a6)] [] σ
  refine r_aload_n (pc := 0) (j := 0) dX5_put_0 rfl rfl ?_
  refine gf5_0 (pc := 1) tw_1_234 hw dX5_put_1 ?_
  refine r_iload_n (pc := 4) (j := 1) dX5_put_4 rfl rfl ?_
  refine r_lload_n (pc := 5) (j := 2) dX5_put_5 rfl rfl ?_
  obtain ⟨h1, hr⟩ := grd_inv hr
  refine x_last (pc := 6) (j := (Int32.toNatClampNeg a1)) rfl h1 rfl dX5_put_6 fun σ2 eσ2 => ?_
  replace hr := vthen_inv hr σ2 eσ2
  have hσ2 := wtL eσ2 hw
  refine r_aload_n (pc := 7) (j := 0) dX5_put_7 rfl rfl ?_
  refine gf5_1 (pc := 8) tw_1_235 hσ2 dX5_put_8 ?_
  refine r_iload_n (pc := 11) (j := 1) dX5_put_11 rfl rfl ?_
  refine r_lload (pc := 12) (j := 3) dX5_put_12 rfl ?_
  refine x_last (pc := 14) (j := (Int32.toNatClampNeg a1)) rfl h1 rfl dX5_put_14 fun σ3 eσ3 => ?_
  replace hr := vthen_inv hr σ3 eσ3
  have hσ3 := wtL eσ3 hσ2
  refine r_aload_n (pc := 15) (j := 0) dX5_put_15 rfl rfl ?_
  refine gf5_2 (pc := 16) tw_1_236 hσ3 dX5_put_16 ?_
  refine r_iload_n (pc := 19) (j := 1) dX5_put_19 rfl rfl ?_
  refine r_lload (pc := 20) (j := 4) dX5_put_20 rfl ?_
  refine x_last (pc := 22) (j := (Int32.toNatClampNeg a1)) rfl h1 rfl dX5_put_22 fun σ4 eσ4 => ?_
  replace hr := vthen_inv hr σ4 eσ4
  have hσ4 := wtL eσ4 hσ3
  exact l_ov hr (r_vret (pc := 23) rfl rfl ⟨Nat.le_refl _, Nat.le_refl _⟩ dX5_put_23)

theorem kX5_put {g : GG} {σ : SS} {a1 : Int32} {a2 : Int64} {a4 : Int64} {a6 : Int64} {σ2 : SS} {M : MM} {F : State → Array Value → List Frame → State → Prop} {pc index : Nat} {ls : List (Nat × Value)} {rest : List Value} (hf : fX5_put σ a1 a2 a4 a6 = some σ2)  (hl : Cond.methodLink M.1.cls index yX5_put ∈ lw_gt) (hR : mX5_put.2.2.2.2.frames + 1 ≤ M.2.2.2.2.frames ∧ 8 + (mX5_put.2.2.1 + 11) + mX5_put.2.2.2.2.locals ≤ M.2.2.2.2.locals) (hrest : (rest.map fun v => v.category).sum ≤ 8) (hd : decode M.2.1 pc = .ok (.invokevirtual index, 3)) (k : WT σ2 → RR g M F zF (pc + 3) ls rest σ2) : RR g M F zF pc ls (.long a6 :: .long a4 :: .long a2 :: .int a1 :: .ref (ad g 45) :: rest) σ :=
  r_callV (z := zF) (N := mX5_put) (nn := 4) (o1 := none) (sX5_put hf ) (rfl : shp 45 = (5, 0)) (by decide) (shp_le (rfl : shp 45 = (5, 0)) (nle rfl)) (ci := 5) rfl rfl tw_3_4 tw_1_7 hl tw_3_2 tw_3_3 ⟨by decide, by decide, rfl⟩ hR rfl hrest hd ⟨Nat.zero_le _, Nat.zero_le _⟩ rfl (fun h => k (h rfl))

theorem dX3_locate_0 : decode cX3_locate 0 = .ok (.aload_n 0, 1) := by decide +kernel
theorem dX3_locate_1 : decode cX3_locate 1 = .ok (.getfield 18, 3) := by decide +kernel
theorem dX3_locate_4 : decode cX3_locate 4 = .ok (.aload_n 1, 1) := by decide +kernel
theorem dX3_locate_5 : decode cX3_locate 5 = .ok (.aload_n 0, 1) := by decide +kernel
theorem dX3_locate_6 : decode cX3_locate 6 = .ok (.getfield 9, 3) := by decide +kernel
theorem dX3_locate_9 : decode cX3_locate 9 = .ok (.iconst 0, 1) := by decide +kernel
theorem dX3_locate_10 : decode cX3_locate 10 = .ok (.iaload, 1) := by decide +kernel
theorem dX3_locate_11 : decode cX3_locate 11 = .ok (.aload_n 0, 1) := by decide +kernel
theorem dX3_locate_12 : decode cX3_locate 12 = .ok (.getfield 9, 3) := by decide +kernel
theorem dX3_locate_15 : decode cX3_locate 15 = .ok (.iconst 1, 1) := by decide +kernel
theorem dX3_locate_16 : decode cX3_locate 16 = .ok (.iaload, 1) := by decide +kernel
theorem dX3_locate_17 : decode cX3_locate 17 = .ok (.invokevirtual 53, 3) := by decide +kernel
theorem dX3_locate_20 : decode cX3_locate 20 = .ok (.iconst 0, 1) := by decide +kernel
theorem dX3_locate_21 : decode cX3_locate 21 = .ok (.istore_n 2, 1) := by decide +kernel
theorem dX3_locate_22 : decode cX3_locate 22 = .ok (.iload_n 2, 1) := by decide +kernel
theorem dX3_locate_23 : decode cX3_locate 23 = .ok (.iconst 4, 1) := by decide +kernel
theorem dX3_locate_24 : decode cX3_locate 24 = .ok (.if_icmp .ge 66, 3) := by decide +kernel
theorem dX3_locate_27 : decode cX3_locate 27 = .ok (.iload_n 2, 1) := by decide +kernel
theorem dX3_locate_28 : decode cX3_locate 28 = .ok (.iconst 2, 1) := by decide +kernel
theorem dX3_locate_29 : decode cX3_locate 29 = .ok (.irem, 1) := by decide +kernel
theorem dX3_locate_30 : decode cX3_locate 30 = .ok (.ifCond .ne 7, 3) := by decide +kernel
theorem dX3_locate_33 : decode cX3_locate 33 = .ok (.iconst 0, 1) := by decide +kernel
theorem dX3_locate_34 : decode cX3_locate 34 = .ok (.goto 9, 3) := by decide +kernel
theorem dX3_locate_37 : decode cX3_locate 37 = .ok (.aload_n 1, 1) := by decide +kernel
theorem dX3_locate_38 : decode cX3_locate 38 = .ok (.getfield 57, 3) := by decide +kernel
theorem dX3_locate_41 : decode cX3_locate 41 = .ok (.iconst 1, 1) := by decide +kernel
theorem dX3_locate_42 : decode cX3_locate 42 = .ok (.isub, 1) := by decide +kernel
theorem dX3_locate_43 : decode cX3_locate 43 = .ok (.istore_n 3, 1) := by decide +kernel
theorem dX3_locate_44 : decode cX3_locate 44 = .ok (.iload_n 2, 1) := by decide +kernel
theorem dX3_locate_45 : decode cX3_locate 45 = .ok (.iconst 2, 1) := by decide +kernel
theorem dX3_locate_46 : decode cX3_locate 46 = .ok (.idiv, 1) := by decide +kernel
theorem dX3_locate_47 : decode cX3_locate 47 = .ok (.ifCond .ne 7, 3) := by decide +kernel
theorem dX3_locate_50 : decode cX3_locate 50 = .ok (.iconst 0, 1) := by decide +kernel
theorem dX3_locate_51 : decode cX3_locate 51 = .ok (.goto 9, 3) := by decide +kernel
theorem dX3_locate_54 : decode cX3_locate 54 = .ok (.aload_n 1, 1) := by decide +kernel
theorem dX3_locate_55 : decode cX3_locate 55 = .ok (.getfield 63, 3) := by decide +kernel
theorem dX3_locate_58 : decode cX3_locate 58 = .ok (.iconst 1, 1) := by decide +kernel
theorem dX3_locate_59 : decode cX3_locate 59 = .ok (.isub, 1) := by decide +kernel
theorem dX3_locate_60 : decode cX3_locate 60 = .ok (.istore 4, 2) := by decide +kernel
theorem dX3_locate_62 : decode cX3_locate 62 = .ok (.aload_n 0, 1) := by decide +kernel
theorem dX3_locate_63 : decode cX3_locate 63 = .ok (.getfield 22, 3) := by decide +kernel
theorem dX3_locate_66 : decode cX3_locate 66 = .ok (.iload_n 2, 1) := by decide +kernel
theorem dX3_locate_67 : decode cX3_locate 67 = .ok (.aload_n 0, 1) := by decide +kernel
theorem dX3_locate_68 : decode cX3_locate 68 = .ok (.getfield 18, 3) := by decide +kernel
theorem dX3_locate_71 : decode cX3_locate 71 = .ok (.iload_n 3, 1) := by decide +kernel
theorem dX3_locate_72 : decode cX3_locate 72 = .ok (.iload 4, 2) := by decide +kernel
theorem dX3_locate_74 : decode cX3_locate 74 = .ok (.aload_n 0, 1) := by decide +kernel
theorem dX3_locate_75 : decode cX3_locate 75 = .ok (.getfield 9, 3) := by decide +kernel
theorem dX3_locate_78 : decode cX3_locate 78 = .ok (.iconst 2, 1) := by decide +kernel
theorem dX3_locate_79 : decode cX3_locate 79 = .ok (.iaload, 1) := by decide +kernel
theorem dX3_locate_80 : decode cX3_locate 80 = .ok (.invokevirtual 66, 3) := by decide +kernel
theorem dX3_locate_83 : decode cX3_locate 83 = .ok (.iastore, 1) := by decide +kernel
theorem dX3_locate_84 : decode cX3_locate 84 = .ok (.iinc 2 1, 3) := by decide +kernel
theorem dX3_locate_87 : decode cX3_locate 87 = .ok (.goto (-65), 3) := by decide +kernel
theorem dX3_locate_90 : decode cX3_locate 90 = .ok (.aload_n 0, 1) := by decide +kernel
theorem dX3_locate_91 : decode cX3_locate 91 = .ok (.invokevirtual 70, 3) := by decide +kernel
theorem dX3_locate_94 : decode cX3_locate 94 = .ok (.ifCond .ne 5, 3) := by decide +kernel
theorem dX3_locate_97 : decode cX3_locate 97 = .ok (.iconst 0, 1) := by decide +kernel
theorem dX3_locate_98 : decode cX3_locate 98 = .ok (.ireturn, 1) := by decide +kernel
theorem dX3_locate_99 : decode cX3_locate 99 = .ok (.iconst 0, 1) := by decide +kernel
theorem dX3_locate_100 : decode cX3_locate 100 = .ok (.istore_n 2, 1) := by decide +kernel
theorem dX3_locate_101 : decode cX3_locate 101 = .ok (.iload_n 2, 1) := by decide +kernel
theorem dX3_locate_102 : decode cX3_locate 102 = .ok (.iconst 4, 1) := by decide +kernel
theorem dX3_locate_103 : decode cX3_locate 103 = .ok (.if_icmp .ge 54, 3) := by decide +kernel
theorem dX3_locate_106 : decode cX3_locate 106 = .ok (.aload_n 0, 1) := by decide +kernel
theorem dX3_locate_107 : decode cX3_locate 107 = .ok (.getfield 22, 3) := by decide +kernel
theorem dX3_locate_110 : decode cX3_locate 110 = .ok (.iload_n 2, 1) := by decide +kernel
theorem dX3_locate_111 : decode cX3_locate 111 = .ok (.iaload, 1) := by decide +kernel
theorem dX3_locate_112 : decode cX3_locate 112 = .ok (.istore_n 3, 1) := by decide +kernel
theorem dX3_locate_113 : decode cX3_locate 113 = .ok (.aload_n 0, 1) := by decide +kernel
theorem dX3_locate_114 : decode cX3_locate 114 = .ok (.getfield 28, 3) := by decide +kernel
theorem dX3_locate_117 : decode cX3_locate 117 = .ok (.iload_n 2, 1) := by decide +kernel
theorem dX3_locate_118 : decode cX3_locate 118 = .ok (.aload_n 0, 1) := by decide +kernel
theorem dX3_locate_119 : decode cX3_locate 119 = .ok (.getfield 18, 3) := by decide +kernel
theorem dX3_locate_122 : decode cX3_locate 122 = .ok (.getfield 74, 3) := by decide +kernel
theorem dX3_locate_125 : decode cX3_locate 125 = .ok (.iload_n 3, 1) := by decide +kernel
theorem dX3_locate_126 : decode cX3_locate 126 = .ok (.iaload, 1) := by decide +kernel
theorem dX3_locate_127 : decode cX3_locate 127 = .ok (.i2l, 1) := by decide +kernel
theorem dX3_locate_128 : decode cX3_locate 128 = .ok (.aload_n 0, 1) := by decide +kernel
theorem dX3_locate_129 : decode cX3_locate 129 = .ok (.getfield 18, 3) := by decide +kernel
theorem dX3_locate_132 : decode cX3_locate 132 = .ok (.getfield 77, 3) := by decide +kernel
theorem dX3_locate_135 : decode cX3_locate 135 = .ok (.iload_n 3, 1) := by decide +kernel
theorem dX3_locate_136 : decode cX3_locate 136 = .ok (.iaload, 1) := by decide +kernel
theorem dX3_locate_137 : decode cX3_locate 137 = .ok (.i2l, 1) := by decide +kernel
theorem dX3_locate_138 : decode cX3_locate 138 = .ok (.aload_n 0, 1) := by decide +kernel
theorem dX3_locate_139 : decode cX3_locate 139 = .ok (.getfield 18, 3) := by decide +kernel
theorem dX3_locate_142 : decode cX3_locate 142 = .ok (.getfield 80, 3) := by decide +kernel
theorem dX3_locate_145 : decode cX3_locate 145 = .ok (.iload_n 3, 1) := by decide +kernel
theorem dX3_locate_146 : decode cX3_locate 146 = .ok (.iaload, 1) := by decide +kernel
theorem dX3_locate_147 : decode cX3_locate 147 = .ok (.i2l, 1) := by decide +kernel
theorem dX3_locate_148 : decode cX3_locate 148 = .ok (.invokevirtual 83, 3) := by decide +kernel
theorem dX3_locate_151 : decode cX3_locate 151 = .ok (.iinc 2 1, 3) := by decide +kernel
theorem dX3_locate_154 : decode cX3_locate 154 = .ok (.goto (-53), 3) := by decide +kernel
theorem dX3_locate_157 : decode cX3_locate 157 = .ok (.iconst 1, 1) := by decide +kernel
theorem dX3_locate_158 : decode cX3_locate 158 = .ok (.ireturn, 1) := by decide +kernel
def mX3_locate : MM := (yX3_locate, cX3_locate, 5, Option.some Jvm.ClassFile.FieldType.boolean, { frames := 3, cells := 0, slots := 0, locals := 78 })
def X3_locate_L22 (o1_ : Nat) (k90 : SS → Option (Bool × SS)) : Nat → Int32 → SS → Option (Bool × SS) :=
  lp (fun _ _ => none) fun rec v2_ σ_ =>
    if (4 : Int32) ≤ v2_ then (
      k90 σ_
      ) else (
      vthen (fun (s2 : Int32) =>
        vthen (fun (s3 : Int32) =>
          bnd1 (fX0_nearest σ_ s2 s3 (gI σ_ 32 2)) fun v4 =>
          grd (inb v2_ 4) <|
          vthen (sI σ_ 44 (Int32.toNatClampNeg v2_) v4) fun σ8 =>
          rec (v2_ + (1 : Int32)) σ8
          ) fun j60 =>
        if (v2_ / (2 : Int32)) = 0 then (
          j60 (0 : Int32)
          ) else (
          j60 ((gI σ_ o1_ 1) - (1 : Int32))
          )
        ) fun j43 =>
      if (irm v2_ (2 : Int32)) = 0 then (
        j43 (0 : Int32)
        ) else (
        j43 ((gI σ_ o1_ 0) - (1 : Int32))
        )
      )

def X3_locate_L101   : Nat → Int32 → SS → Option (Bool × SS) :=
  lp (fun _ _ => none) fun rec v2_ σ_ =>
    if (4 : Int32) ≤ v2_ then (
      some (true, σ_)
      ) else (
      grd (inb v2_ 4) <|
      vthen (gI σ_ 44 (Int32.toNatClampNeg v2_)) fun v14 =>
      grd (inb v14 800) <|
      bnd1 (fX5_put σ_ v2_ (Int32.toInt64 (gI σ_ 35 (Int32.toNatClampNeg v14))) (Int32.toInt64 (gI σ_ 36 (Int32.toNatClampNeg v14))) (Int32.toInt64 (gI σ_ 34 (Int32.toNatClampNeg v14)))) fun σ16 =>
      rec (v2_ + (1 : Int32)) σ16
      )

def fX3_locate (σ : SS) (a1 : Nat) : Option (Bool × SS) :=
  bnd1 (fX0_find σ a1 (gI σ 32 0) (gI σ 32 1)) fun σ1 =>
  X3_locate_L22 a1
  (fun σ9 =>
    bnd1 (fX3_marksAreFour σ9) fun b11 =>
    if b11 = true then (
      X3_locate_L101
      fuel (0 : Int32) σ9
      ) else (
      some (false, σ9)
      )
    )
  fuel (0 : Int32) σ1

set_option maxRecDepth 20000 in
theorem sX3_locate_L22 {g : GG} {r : Bool × SS} {o1_ : Nat} {k90 : SS → Option (Bool × SS)} (hs1_ : shp o1_ = (6, 0))
    (hk90 : ∀ (σ_ : SS), k90 σ_ = some r → WT σ_ → RR g mX3_locate (FinR g mX3_locate (some (.int (b2i r.1))) NF r.2) zF 90 [(0, .ref (ad g 31))] [] σ_)
    (n : Nat) : ∀ (v2_ : Int32) (σ_ : SS), X3_locate_L22 o1_ k90 n v2_ σ_ = some r → WT σ_ → RR g mX3_locate (FinR g mX3_locate (some (.int (b2i r.1))) NF r.2) zF 22 [(0, .ref (ad g 31)), (1, .ref (ad g o1_)), (2, .int v2_)] [] σ_ := by
  unfold X3_locate_L22
  refine lp_ind (P := fun (rec : Int32 → SS → Option (Bool × SS)) => ∀ (v2_ : Int32) (σ_ : SS), rec v2_ σ_ = some r → WT σ_ → RR g mX3_locate (FinR g mX3_locate (some (.int (b2i r.1))) NF r.2) zF 22 [(0, .ref (ad g 31)), (1, .ref (ad g o1_)), (2, .int v2_)] [] σ_) ?_ ?_ n
  · intro v2_ σ_ hr; cases hr
  intro rec ih v2_ σ_ hr hw_
  refine r_iload_n (pc := 22) (j := 2) dX3_locate_22 rfl rfl ?_
  refine r_iconst (pc := 23) (v := (4 : Int32)) dX3_locate_23 rfl ?_
  refine r_icmp_ge (pc := 24) (tgt := 90) dX3_locate_24 rfl (fun hc => ?_) (fun hc => ?_)
  · replace hr := ite_t hc hr
    exact r_pick (ls1 := [(0, .ref (ad g 31))]) [0] rfl (hk90 σ_ hr hw_)
  replace hr := ite_f hc hr
  refine r_iload_n (pc := 27) (j := 2) dX3_locate_27 rfl rfl ?_
  refine r_iconst (pc := 28) (v := (2 : Int32)) dX3_locate_28 rfl ?_
  refine r_irem (pc := 29) dX3_locate_29 (by decide) ?_
  obtain ⟨j43, ej43, hr⟩ := vth_ex hr
  have hj43 : ∀ (s2 : Int32), j43 s2 = some r → RR g mX3_locate (FinR g mX3_locate (some (.int (b2i r.1))) NF r.2) zF 43 [(0, .ref (ad g 31)), (1, .ref (ad g o1_)), (2, .int v2_)] [.int s2] σ_ := by
    intro s2 hr
    replace hr := (congrFun ej43 s2).symm.trans hr
    refine r_istore_n (pc := 43) (ls1 := [(3, .int s2), (0, .ref (ad g 31)), (1, .ref (ad g o1_)), (2, .int v2_)]) dX3_locate_43 rfl (nle rfl) rfl ?_
    refine r_iload_n (pc := 44) (j := 3) dX3_locate_44 rfl rfl ?_
    refine r_iconst (pc := 45) (v := (2 : Int32)) dX3_locate_45 rfl ?_
    refine r_idiv (pc := 46) dX3_locate_46 (by decide) ?_
    obtain ⟨j60, ej60, hr⟩ := vth_ex hr
    have hj60 : ∀ (s3 : Int32), j60 s3 = some r → RR g mX3_locate (FinR g mX3_locate (some (.int (b2i r.1))) NF r.2) zF 60 [(0, .ref (ad g 31)), (1, .ref (ad g o1_)), (2, .int v2_), (3, .int s2)] [.int s3] σ_ := by
      intro s3 hr
      replace hr := (congrFun ej60 s3).symm.trans hr
      refine r_istore (pc := 60) (ls1 := [(4, .int s3), (0, .ref (ad g 31)), (1, .ref (ad g o1_)), (2, .int v2_), (3, .int s2)]) dX3_locate_60 (nle rfl) rfl ?_
      refine r_aload_n (pc := 62) (j := 1) dX3_locate_62 rfl rfl ?_
      refine gf3_2 (pc := 63) tw_2_24 hw_ dX3_locate_63 ?_
      refine r_iload_n (pc := 66) (j := 3) dX3_locate_66 rfl rfl ?_
      refine r_aload_n (pc := 67) (j := 1) dX3_locate_67 rfl rfl ?_
      refine gf3_1 (pc := 68) tw_2_22 hw_ dX3_locate_68 ?_
      refine r_iload_n (pc := 71) (j := 4) dX3_locate_71 rfl rfl ?_
      refine r_iload (pc := 72) (j := 0) dX3_locate_72 rfl ?_
      refine r_aload_n (pc := 74) (j := 1) dX3_locate_74 rfl rfl ?_
      refine gf3_0 (pc := 75) tw_2_20 hw_ dX3_locate_75 ?_
      refine r_iconst (pc := 78) (v := (2 : Int32)) dX3_locate_78 rfl ?_
      refine x_iald (pc := 79) (k := 2) rfl (by decide) rfl dX3_locate_79 ?_
      obtain ⟨v4, hv4, hr⟩ := bnd1_inv hr
      refine kX0_nearest (pc := 80) hv4 tw_2_233 ⟨nle rfl, nle rfl⟩ (nle rfl) dX3_locate_80 ?_
      obtain ⟨h7, hr⟩ := grd_inv hr
      refine x_iast (pc := 83) (j := (Int32.toNatClampNeg v2_)) rfl h7 rfl dX3_locate_83 fun σ8 eσ8 => ?_
      replace hr := vthen_inv hr σ8 eσ8
      have hσ8 := wtI eσ8 hw_
      refine r_iinc (pc := 84) (j := 3) (v := (v2_ + (1 : Int32))) (ls1 := [(2, .int (v2_ + (1 : Int32))), (4, .int s3), (0, .ref (ad g 31)), (1, .ref (ad g o1_)), (3, .int s2)]) dX3_locate_84 rfl rfl (nle rfl) rfl ?_
      refine r_goto (pc := 87) (tgt := 22) dX3_locate_87 rfl ?_
      exact r_pick (ls1 := [(0, .ref (ad g 31)), (1, .ref (ad g o1_)), (2, .int (v2_ + (1 : Int32)))]) [2, 3, 0] rfl (ih (v2_ + (1 : Int32)) σ8 hr hσ8)
    refine r_if_ne (pc := 47) (tgt := 54) dX3_locate_47 rfl (fun hc => ?_) (fun hc => ?_)
    · replace hr := ite_f hc hr
      refine r_aload_n (pc := 54) (j := 2) dX3_locate_54 rfl rfl ?_
      refine gf6_1 (pc := 55) tw_1_35 hs1_ dX3_locate_55 ?_
      refine r_iconst (pc := 58) (v := (1 : Int32)) dX3_locate_58 rfl ?_
      refine r_isub (pc := 59) dX3_locate_59 ?_
      exact r_pick (ls1 := [(0, .ref (ad g 31)), (1, .ref (ad g o1_)), (2, .int v2_), (3, .int s2)]) [1, 2, 3, 0] rfl (hj60 ((gI σ_ o1_ 1) - (1 : Int32)) hr)
    replace hr := ite_t hc hr
    refine r_iconst (pc := 50) (v := (0 : Int32)) dX3_locate_50 rfl ?_
    refine r_goto (pc := 51) (tgt := 60) dX3_locate_51 rfl ?_
    exact r_pick (ls1 := [(0, .ref (ad g 31)), (1, .ref (ad g o1_)), (2, .int v2_), (3, .int s2)]) [1, 2, 3, 0] rfl (hj60 (0 : Int32) hr)
  refine r_if_ne (pc := 30) (tgt := 37) dX3_locate_30 rfl (fun hc => ?_) (fun hc => ?_)
  · replace hr := ite_f hc hr
    refine r_aload_n (pc := 37) (j := 1) dX3_locate_37 rfl rfl ?_
    refine gf6_0 (pc := 38) tw_1_32 hs1_ dX3_locate_38 ?_
    refine r_iconst (pc := 41) (v := (1 : Int32)) dX3_locate_41 rfl ?_
    refine r_isub (pc := 42) dX3_locate_42 ?_
    exact r_pick (ls1 := [(0, .ref (ad g 31)), (1, .ref (ad g o1_)), (2, .int v2_)]) [0, 1, 2] rfl (hj43 ((gI σ_ o1_ 0) - (1 : Int32)) hr)
  replace hr := ite_t hc hr
  refine r_iconst (pc := 33) (v := (0 : Int32)) dX3_locate_33 rfl ?_
  refine r_goto (pc := 34) (tgt := 43) dX3_locate_34 rfl ?_
  exact r_pick (ls1 := [(0, .ref (ad g 31)), (1, .ref (ad g o1_)), (2, .int v2_)]) [0, 1, 2] rfl (hj43 (0 : Int32) hr)

set_option maxRecDepth 20000 in
theorem sX3_locate_L101 {g : GG} {r : Bool × SS}   
    (n : Nat) : ∀ (v2_ : Int32) (σ_ : SS), X3_locate_L101 n v2_ σ_ = some r → WT σ_ → RR g mX3_locate (FinR g mX3_locate (some (.int (b2i r.1))) NF r.2) zF 101 [(0, .ref (ad g 31)), (2, .int v2_)] [] σ_ := by
  unfold X3_locate_L101
  refine lp_ind (P := fun (rec : Int32 → SS → Option (Bool × SS)) => ∀ (v2_ : Int32) (σ_ : SS), rec v2_ σ_ = some r → WT σ_ → RR g mX3_locate (FinR g mX3_locate (some (.int (b2i r.1))) NF r.2) zF 101 [(0, .ref (ad g 31)), (2, .int v2_)] [] σ_) ?_ ?_ n
  · intro v2_ σ_ hr; cases hr
  intro rec ih v2_ σ_ hr hw_
  refine r_iload_n (pc := 101) (j := 1) dX3_locate_101 rfl rfl ?_
  refine r_iconst (pc := 102) (v := (4 : Int32)) dX3_locate_102 rfl ?_
  refine r_icmp_ge (pc := 103) (tgt := 157) dX3_locate_103 rfl (fun hc => ?_) (fun hc => ?_)
  · replace hr := ite_t hc hr
    refine r_iconst (pc := 157) (v := (1 : Int32)) dX3_locate_157 rfl ?_
    exact l_osz hr (r_zret (pc := 158) (v := b2i true) (ty := .boolean) rfl (b2i_nar _) rfl ⟨Nat.le_refl _, Nat.le_refl _⟩ dX3_locate_158)
  replace hr := ite_f hc hr
  refine r_aload_n (pc := 106) (j := 0) dX3_locate_106 rfl rfl ?_
  refine gf3_2 (pc := 107) tw_2_24 hw_ dX3_locate_107 ?_
  refine r_iload_n (pc := 110) (j := 1) dX3_locate_110 rfl rfl ?_
  obtain ⟨h13, hr⟩ := grd_inv hr
  refine x_iald (pc := 111) (k := (Int32.toNatClampNeg v2_)) rfl h13 rfl dX3_locate_111 ?_
  refine r_topi fun v14 ev14 => ?_
  replace hr := vthen_inv hr v14 ev14
  refine r_istore_n (pc := 112) (ls1 := [(3, .int v14), (0, .ref (ad g 31)), (2, .int v2_)]) dX3_locate_112 rfl (nle rfl) rfl ?_
  refine r_aload_n (pc := 113) (j := 1) dX3_locate_113 rfl rfl ?_
  refine gf3_3 (pc := 114) tw_2_26 hw_ dX3_locate_114 ?_
  refine r_iload_n (pc := 117) (j := 2) dX3_locate_117 rfl rfl ?_
  refine r_aload_n (pc := 118) (j := 1) dX3_locate_118 rfl rfl ?_
  refine gf3_1 (pc := 119) tw_2_22 hw_ dX3_locate_119 ?_
  refine gf0_2 (pc := 122) tw_1_187 hw_ dX3_locate_122 ?_
  refine r_iload_n (pc := 125) (j := 0) dX3_locate_125 rfl rfl ?_
  obtain ⟨h15, hr⟩ := grd_inv hr
  refine x_iald (pc := 126) (k := (Int32.toNatClampNeg v14)) rfl h15 rfl dX3_locate_126 ?_
  refine r_i2l (pc := 127) dX3_locate_127 ?_
  refine r_aload_n (pc := 128) (j := 1) dX3_locate_128 rfl rfl ?_
  refine gf3_1 (pc := 129) tw_2_22 hw_ dX3_locate_129 ?_
  refine gf0_3 (pc := 132) tw_1_190 hw_ dX3_locate_132 ?_
  refine r_iload_n (pc := 135) (j := 0) dX3_locate_135 rfl rfl ?_
  refine x_iald (pc := 136) (k := (Int32.toNatClampNeg v14)) rfl h15 rfl dX3_locate_136 ?_
  refine r_i2l (pc := 137) dX3_locate_137 ?_
  refine r_aload_n (pc := 138) (j := 1) dX3_locate_138 rfl rfl ?_
  refine gf3_1 (pc := 139) tw_2_22 hw_ dX3_locate_139 ?_
  refine gf0_1 (pc := 142) tw_1_184 hw_ dX3_locate_142 ?_
  refine r_iload_n (pc := 145) (j := 0) dX3_locate_145 rfl rfl ?_
  refine x_iald (pc := 146) (k := (Int32.toNatClampNeg v14)) rfl h15 rfl dX3_locate_146 ?_
  refine r_i2l (pc := 147) dX3_locate_147 ?_
  obtain ⟨σ16, eσ16, hr⟩ := bnd1_inv hr
  refine kX5_put (pc := 148) eσ16 tw_3_1 ⟨nle rfl, nle rfl⟩ (nle rfl) dX3_locate_148 fun hσ16 => ?_
  refine r_iinc (pc := 151) (j := 2) (v := (v2_ + (1 : Int32))) (ls1 := [(2, .int (v2_ + (1 : Int32))), (3, .int v14), (0, .ref (ad g 31))]) dX3_locate_151 rfl rfl (nle rfl) rfl ?_
  refine r_goto (pc := 154) (tgt := 101) dX3_locate_154 rfl ?_
  exact r_pick (ls1 := [(0, .ref (ad g 31)), (2, .int (v2_ + (1 : Int32)))]) [2, 0] rfl (ih (v2_ + (1 : Int32)) σ16 hr hσ16)

set_option maxRecDepth 20000 in
theorem sX3_locate {g : GG} {σ : SS} {a1 : Nat} {r : Bool × SS} (hr : fX3_locate σ a1 = some r) (hs1 : shp a1 = (6, 0)) : Ct g mX3_locate [.ref (ad g 31), .ref (ad g a1)] NF σ (some (.int (b2i r.1))) NF r.2 := by
  refine Ct.of (by decide +kernel) (nle rfl) fun hw0 => ?_
  have hw := hw0 rfl
  unfold fX3_locate at hr
  change RR g mX3_locate (FinR g mX3_locate (some (.int (b2i r.1))) NF r.2) zF 0 [(0, .ref (ad g 31)), (1, .ref (ad g a1))] [] σ
  refine r_aload_n (pc := 0) (j := 0) dX3_locate_0 rfl rfl ?_
  refine gf3_1 (pc := 1) tw_2_22 hw dX3_locate_1 ?_
  refine r_aload_n (pc := 4) (j := 1) dX3_locate_4 rfl rfl ?_
  refine r_aload_n (pc := 5) (j := 0) dX3_locate_5 rfl rfl ?_
  refine gf3_0 (pc := 6) tw_2_20 hw dX3_locate_6 ?_
  refine r_iconst (pc := 9) (v := (0 : Int32)) dX3_locate_9 rfl ?_
  refine x_iald (pc := 10) (k := 0) rfl (by decide) rfl dX3_locate_10 ?_
  refine r_aload_n (pc := 11) (j := 0) dX3_locate_11 rfl rfl ?_
  refine gf3_0 (pc := 12) tw_2_20 hw dX3_locate_12 ?_
  refine r_iconst (pc := 15) (v := (1 : Int32)) dX3_locate_15 rfl ?_
  refine x_iald (pc := 16) (k := 1) rfl (by decide) rfl dX3_locate_16 ?_
  obtain ⟨σ1, eσ1, hr⟩ := bnd1_inv hr
  refine kX0_find (pc := 17) eσ1 hs1 tw_2_208 ⟨nle rfl, nle rfl⟩ (nle rfl) dX3_locate_17 fun hσ1 => ?_
  refine r_iconst (pc := 20) (v := (0 : Int32)) dX3_locate_20 rfl ?_
  refine r_istore_n (pc := 21) (ls1 := [(2, .int (0 : Int32)), (0, .ref (ad g 31)), (1, .ref (ad g a1))]) dX3_locate_21 rfl (nle rfl) rfl ?_
  refine r_pick (ls1 := [(0, .ref (ad g 31)), (1, .ref (ad g a1)), (2, .int (0 : Int32))]) [1, 2, 0] rfl ?_
  refine sX3_locate_L22 hs1   (fun σ9 hr hσ9 => ?_) fuel (0 : Int32) σ1 hr hσ1
  refine r_aload_n (pc := 90) (j := 0) dX3_locate_90 rfl rfl ?_
  obtain ⟨b11, hb11, hr⟩ := bnd1_inv hr
  refine kX3_marksAreFour (pc := 91) hb11 tw_2_237 ⟨nle rfl, nle rfl⟩ (nle rfl) dX3_locate_91 ?_
  refine r_ifB_ne (pc := 94) (tgt := 99) dX3_locate_94 rfl (fun hc => ?_) (fun hc => ?_)
  · replace hr := ite_t hc hr
    refine r_iconst (pc := 99) (v := (0 : Int32)) dX3_locate_99 rfl ?_
    refine r_istore_n (pc := 100) (ls1 := [(2, .int (0 : Int32)), (0, .ref (ad g 31))]) dX3_locate_100 rfl (nle rfl) rfl ?_
    refine r_pick (ls1 := [(0, .ref (ad g 31)), (2, .int (0 : Int32))]) [1, 0] rfl ?_
    refine sX3_locate_L101     fuel (0 : Int32) σ9 hr hσ9
  replace hr := ite_f hc hr
  refine r_iconst (pc := 97) (v := (0 : Int32)) dX3_locate_97 rfl ?_
  exact l_osz hr (r_zret (pc := 98) (v := b2i false) (ty := .boolean) rfl (b2i_nar _) rfl ⟨Nat.le_refl _, Nat.le_refl _⟩ dX3_locate_98)

theorem kX3_locate {g : GG} {σ : SS} {a1 : Nat} {v : Bool} {σ2 : SS} {M : MM} {F : State → Array Value → List Frame → State → Prop} {pc index : Nat} {ls : List (Nat × Value)} {rest : List Value} (hf : fX3_locate σ a1 = some (v, σ2)) (hs1 : shp a1 = (6, 0)) (hl : Cond.methodLink M.1.cls index yX3_locate ∈ lw_gt) (hR : mX3_locate.2.2.2.2.frames + 1 ≤ M.2.2.2.2.frames ∧ 8 + (mX3_locate.2.2.1 + 11) + mX3_locate.2.2.2.2.locals ≤ M.2.2.2.2.locals) (hrest : (rest.map fun v => v.category).sum ≤ 8) (hd : decode M.2.1 pc = .ok (.invokevirtual index, 3)) (k : WT σ2 → RR g M F zF (pc + 3) ls (.int (b2i v) :: rest) σ2) : RR g M F zF pc ls (.ref (ad g a1) :: .ref (ad g 31) :: rest) σ :=
  r_callV (z := zF) (N := mX3_locate) (nn := 1) (o1 := some (.int (b2i v))) (sX3_locate hf hs1) (rfl : shp 31 = (3, 0)) (by decide) (shp_le (rfl : shp 31 = (3, 0)) (nle rfl)) (ci := 3) rfl rfl tw_2_207 tw_1_5 hl tw_2_205 tw_2_206 ⟨by decide, by decide, rfl⟩ hR rfl hrest hd ⟨Nat.zero_le _, Nat.zero_le _⟩ rfl (fun h => k (h rfl))

theorem dX5_spread_0 : decode cX5_spread 0 = .ok (.iconst 0, 1) := by decide +kernel
theorem dX5_spread_1 : decode cX5_spread 1 = .ok (.istore_n 3, 1) := by decide +kernel
theorem dX5_spread_2 : decode cX5_spread 2 = .ok (.iload_n 3, 1) := by decide +kernel
theorem dX5_spread_3 : decode cX5_spread 3 = .ok (.iconst 4, 1) := by decide +kernel
theorem dX5_spread_4 : decode cX5_spread 4 = .ok (.if_icmp .ge 75, 3) := by decide +kernel
theorem dX5_spread_7 : decode cX5_spread 7 = .ok (.lconst 1, 1) := by decide +kernel
theorem dX5_spread_8 : decode cX5_spread 8 = .ok (.lstore 4, 2) := by decide +kernel
theorem dX5_spread_10 : decode cX5_spread 10 = .ok (.iconst 0, 1) := by decide +kernel
theorem dX5_spread_11 : decode cX5_spread 11 = .ok (.istore 6, 2) := by decide +kernel
theorem dX5_spread_13 : decode cX5_spread 13 = .ok (.iload 6, 2) := by decide +kernel
theorem dX5_spread_15 : decode cX5_spread 15 = .ok (.iconst 4, 1) := by decide +kernel
theorem dX5_spread_16 : decode cX5_spread 16 = .ok (.if_icmp .ge 27, 3) := by decide +kernel
theorem dX5_spread_19 : decode cX5_spread 19 = .ok (.iload 6, 2) := by decide +kernel
theorem dX5_spread_21 : decode cX5_spread 21 = .ok (.iload_n 3, 1) := by decide +kernel
theorem dX5_spread_22 : decode cX5_spread 22 = .ok (.if_icmp .eq 15, 3) := by decide +kernel
theorem dX5_spread_25 : decode cX5_spread 25 = .ok (.lload 4, 2) := by decide +kernel
theorem dX5_spread_27 : decode cX5_spread 27 = .ok (.aload_n 0, 1) := by decide +kernel
theorem dX5_spread_28 : decode cX5_spread 28 = .ok (.getfield 18, 3) := by decide +kernel
theorem dX5_spread_31 : decode cX5_spread 31 = .ok (.iload 6, 2) := by decide +kernel
theorem dX5_spread_33 : decode cX5_spread 33 = .ok (.laload, 1) := by decide +kernel
theorem dX5_spread_34 : decode cX5_spread 34 = .ok (.lmul, 1) := by decide +kernel
theorem dX5_spread_35 : decode cX5_spread 35 = .ok (.lstore 4, 2) := by decide +kernel
theorem dX5_spread_37 : decode cX5_spread 37 = .ok (.iinc 6 1, 3) := by decide +kernel
theorem dX5_spread_40 : decode cX5_spread 40 = .ok (.goto (-27), 3) := by decide +kernel
theorem dX5_spread_43 : decode cX5_spread 43 = .ok (.aload_n 0, 1) := by decide +kernel
theorem dX5_spread_44 : decode cX5_spread 44 = .ok (.getfield 21, 3) := by decide +kernel
theorem dX5_spread_47 : decode cX5_spread 47 = .ok (.iload_n 3, 1) := by decide +kernel
theorem dX5_spread_48 : decode cX5_spread 48 = .ok (.aload_n 0, 1) := by decide +kernel
theorem dX5_spread_49 : decode cX5_spread 49 = .ok (.getfield 9, 3) := by decide +kernel
theorem dX5_spread_52 : decode cX5_spread 52 = .ok (.iload_n 3, 1) := by decide +kernel
theorem dX5_spread_53 : decode cX5_spread 53 = .ok (.laload, 1) := by decide +kernel
theorem dX5_spread_54 : decode cX5_spread 54 = .ok (.lload 4, 2) := by decide +kernel
theorem dX5_spread_56 : decode cX5_spread 56 = .ok (.lmul, 1) := by decide +kernel
theorem dX5_spread_57 : decode cX5_spread 57 = .ok (.lastore, 1) := by decide +kernel
theorem dX5_spread_58 : decode cX5_spread 58 = .ok (.aload_n 0, 1) := by decide +kernel
theorem dX5_spread_59 : decode cX5_spread 59 = .ok (.getfield 24, 3) := by decide +kernel
theorem dX5_spread_62 : decode cX5_spread 62 = .ok (.iload_n 3, 1) := by decide +kernel
theorem dX5_spread_63 : decode cX5_spread 63 = .ok (.aload_n 0, 1) := by decide +kernel
theorem dX5_spread_64 : decode cX5_spread 64 = .ok (.getfield 15, 3) := by decide +kernel
theorem dX5_spread_67 : decode cX5_spread 67 = .ok (.iload_n 3, 1) := by decide +kernel
theorem dX5_spread_68 : decode cX5_spread 68 = .ok (.laload, 1) := by decide +kernel
theorem dX5_spread_69 : decode cX5_spread 69 = .ok (.lload 4, 2) := by decide +kernel
theorem dX5_spread_71 : decode cX5_spread 71 = .ok (.lmul, 1) := by decide +kernel
theorem dX5_spread_72 : decode cX5_spread 72 = .ok (.lastore, 1) := by decide +kernel
theorem dX5_spread_73 : decode cX5_spread 73 = .ok (.iinc 3 1, 3) := by decide +kernel
theorem dX5_spread_76 : decode cX5_spread 76 = .ok (.goto (-74), 3) := by decide +kernel
theorem dX5_spread_79 : decode cX5_spread 79 = .ok (.aload_n 0, 1) := by decide +kernel
theorem dX5_spread_80 : decode cX5_spread 80 = .ok (.iconst 2, 1) := by decide +kernel
theorem dX5_spread_81 : decode cX5_spread 81 = .ok (.iload_n 1, 1) := by decide +kernel
theorem dX5_spread_82 : decode cX5_spread 82 = .ok (.imul, 1) := by decide +kernel
theorem dX5_spread_83 : decode cX5_spread 83 = .ok (.putfield 27, 3) := by decide +kernel
theorem dX5_spread_86 : decode cX5_spread 86 = .ok (.aload_n 0, 1) := by decide +kernel
theorem dX5_spread_87 : decode cX5_spread 87 = .ok (.iconst 2, 1) := by decide +kernel
theorem dX5_spread_88 : decode cX5_spread 88 = .ok (.iload_n 2, 1) := by decide +kernel
theorem dX5_spread_89 : decode cX5_spread 89 = .ok (.imul, 1) := by decide +kernel
theorem dX5_spread_90 : decode cX5_spread 90 = .ok (.putfield 31, 3) := by decide +kernel
theorem dX5_spread_93 : decode cX5_spread 93 = .ok (.aload_n 0, 1) := by decide +kernel
theorem dX5_spread_94 : decode cX5_spread 94 = .ok (.aload_n 0, 1) := by decide +kernel
theorem dX5_spread_95 : decode cX5_spread 95 = .ok (.getfield 18, 3) := by decide +kernel
theorem dX5_spread_98 : decode cX5_spread 98 = .ok (.iconst 0, 1) := by decide +kernel
theorem dX5_spread_99 : decode cX5_spread 99 = .ok (.laload, 1) := by decide +kernel
theorem dX5_spread_100 : decode cX5_spread 100 = .ok (.aload_n 0, 1) := by decide +kernel
theorem dX5_spread_101 : decode cX5_spread 101 = .ok (.getfield 18, 3) := by decide +kernel
theorem dX5_spread_104 : decode cX5_spread 104 = .ok (.iconst 1, 1) := by decide +kernel
theorem dX5_spread_105 : decode cX5_spread 105 = .ok (.laload, 1) := by decide +kernel
theorem dX5_spread_106 : decode cX5_spread 106 = .ok (.lmul, 1) := by decide +kernel
theorem dX5_spread_107 : decode cX5_spread 107 = .ok (.aload_n 0, 1) := by decide +kernel
theorem dX5_spread_108 : decode cX5_spread 108 = .ok (.getfield 18, 3) := by decide +kernel
theorem dX5_spread_111 : decode cX5_spread 111 = .ok (.iconst 2, 1) := by decide +kernel
theorem dX5_spread_112 : decode cX5_spread 112 = .ok (.laload, 1) := by decide +kernel
theorem dX5_spread_113 : decode cX5_spread 113 = .ok (.lmul, 1) := by decide +kernel
theorem dX5_spread_114 : decode cX5_spread 114 = .ok (.aload_n 0, 1) := by decide +kernel
theorem dX5_spread_115 : decode cX5_spread 115 = .ok (.getfield 18, 3) := by decide +kernel
theorem dX5_spread_118 : decode cX5_spread 118 = .ok (.iconst 3, 1) := by decide +kernel
theorem dX5_spread_119 : decode cX5_spread 119 = .ok (.laload, 1) := by decide +kernel
theorem dX5_spread_120 : decode cX5_spread 120 = .ok (.lmul, 1) := by decide +kernel
theorem dX5_spread_121 : decode cX5_spread 121 = .ok (.aload_n 0, 1) := by decide +kernel
theorem dX5_spread_122 : decode cX5_spread 122 = .ok (.getfield 27, 3) := by decide +kernel
theorem dX5_spread_125 : decode cX5_spread 125 = .ok (.i2l, 1) := by decide +kernel
theorem dX5_spread_126 : decode cX5_spread 126 = .ok (.lmul, 1) := by decide +kernel
theorem dX5_spread_127 : decode cX5_spread 127 = .ok (.aload_n 0, 1) := by decide +kernel
theorem dX5_spread_128 : decode cX5_spread 128 = .ok (.getfield 31, 3) := by decide +kernel
theorem dX5_spread_131 : decode cX5_spread 131 = .ok (.i2l, 1) := by decide +kernel
theorem dX5_spread_132 : decode cX5_spread 132 = .ok (.lmul, 1) := by decide +kernel
theorem dX5_spread_133 : decode cX5_spread 133 = .ok (.putfield 34, 3) := by decide +kernel
theorem dX5_spread_136 : decode cX5_spread 136 = .ok (.return_, 1) := by decide +kernel
def mX5_spread : MM := (yX5_spread, cX5_spread, 7, none, { frames := 0, cells := 0, slots := 0, locals := 0 })
def X5_spread_L13 (σ_ : SS) (u3_ : Int32) (k43 : Int64 → Option SS) : Nat → Int64 → Int32 → Option SS :=
  lp (fun _ _ => none) fun rec w4_ v6_ =>
    if (4 : Int32) ≤ v6_ then (
      k43 w4_
      ) else (
      if v6_ = u3_ then (
        rec w4_ (v6_ + (1 : Int32))
        ) else (
        grd (inb v6_ 4) <|
        vthen (w4_ * (gL σ_ 48 (Int32.toNatClampNeg v6_))) fun w2 =>
        rec w2 (v6_ + (1 : Int32))
        )
      )

def X5_spread_L2  (k79 : SS → Option SS) : Nat → Int32 → SS → Option SS :=
  lp (fun _ _ => none) fun rec v3_ σ_ =>
    if (4 : Int32) ≤ v3_ then (
      k79 σ_
      ) else (
      X5_spread_L13 σ_ v3_
      (fun w3 =>
        grd (inb v3_ 4) <|
        vthen (sL σ_ 49 (Int32.toNatClampNeg v3_) ((gL σ_ 46 (Int32.toNatClampNeg v3_)) * w3)) fun σ5 =>
        vthen (sL σ5 50 (Int32.toNatClampNeg v3_) ((gL σ5 47 (Int32.toNatClampNeg v3_)) * w3)) fun σ6 =>
        rec (v3_ + (1 : Int32)) σ6
        )
      fuel (1 : Int64) (0 : Int32)
      )

def fX5_spread (σ : SS) (a1 : Int32) (a2 : Int32) : Option SS :=
  X5_spread_L2
  (fun σ7 =>
    vthen (sI σ7 45 6 ((2 : Int32) * a1)) fun σ8 =>
    vthen (sI σ8 45 7 ((2 : Int32) * a2)) fun σ9 =>
    vthen (sL σ9 45 5 ((((((gL σ9 48 0) * (gL σ9 48 1)) * (gL σ9 48 2)) * (gL σ9 48 3)) * (Int32.toInt64 (gI σ9 45 6))) * (Int32.toInt64 (gI σ9 45 7)))) fun σ10 =>
    some σ10
    )
  fuel (0 : Int32) σ

set_option maxRecDepth 20000 in
theorem sX5_spread_L13 {g : GG} {r : SS} {σ_ : SS} {x1_ : Int32} {x2_ : Int32} {u3_ : Int32} {k43 : Int64 → Option SS} 
    (hw_ : WT σ_)
    (hk43 : ∀ (y4 : Int64), k43 y4 = some r → RR g mX5_spread (FinR g mX5_spread none NF r) zF 43 [(0, .ref (ad g 45)), (1, .int x1_), (2, .int x2_), (3, .int u3_), (4, .long y4)] [] σ_)
    (n : Nat) : ∀ (w4_ : Int64) (v6_ : Int32), X5_spread_L13 σ_ u3_ k43 n w4_ v6_ = some r → RR g mX5_spread (FinR g mX5_spread none NF r) zF 13 [(0, .ref (ad g 45)), (1, .int x1_), (2, .int x2_), (3, .int u3_), (4, .long w4_), (6, .int v6_)] [] σ_ := by
  unfold X5_spread_L13
  refine lp_ind (P := fun (rec : Int64 → Int32 → Option SS) => ∀ (w4_ : Int64) (v6_ : Int32), rec w4_ v6_ = some r → RR g mX5_spread (FinR g mX5_spread none NF r) zF 13 [(0, .ref (ad g 45)), (1, .int x1_), (2, .int x2_), (3, .int u3_), (4, .long w4_), (6, .int v6_)] [] σ_) ?_ ?_ n
  · intro w4_ v6_ hr; cases hr
  intro rec ih w4_ v6_ hr
  refine r_iload (pc := 13) (j := 5) dX5_spread_13 rfl ?_
  refine r_iconst (pc := 15) (v := (4 : Int32)) dX5_spread_15 rfl ?_
  refine r_icmp_ge (pc := 16) (tgt := 43) dX5_spread_16 rfl (fun hc => ?_) (fun hc => ?_)
  · replace hr := ite_t hc hr
    exact r_pick (ls1 := [(0, .ref (ad g 45)), (1, .int x1_), (2, .int x2_), (3, .int u3_), (4, .long w4_)]) [0, 1, 2, 3, 4] rfl (hk43 w4_ hr)
  replace hr := ite_f hc hr
  refine r_iload (pc := 19) (j := 5) dX5_spread_19 rfl ?_
  refine r_iload_n (pc := 21) (j := 3) dX5_spread_21 rfl rfl ?_
  refine r_icmp_eq (pc := 22) (tgt := 37) dX5_spread_22 rfl (fun hc => ?_) (fun hc => ?_)
  · replace hr := ite_t hc hr
    refine r_iinc (pc := 37) (j := 5) (v := (v6_ + (1 : Int32))) (ls1 := [(6, .int (v6_ + (1 : Int32))), (0, .ref (ad g 45)), (1, .int x1_), (2, .int x2_), (3, .int u3_), (4, .long w4_)]) dX5_spread_37 rfl rfl (nle rfl) rfl ?_
    refine r_goto (pc := 40) (tgt := 13) dX5_spread_40 rfl ?_
    exact r_pick (ls1 := [(0, .ref (ad g 45)), (1, .int x1_), (2, .int x2_), (3, .int u3_), (4, .long w4_), (6, .int (v6_ + (1 : Int32)))]) [1, 2, 3, 4, 5, 0] rfl (ih w4_ (v6_ + (1 : Int32)) hr)
  replace hr := ite_f hc hr
  refine r_lload (pc := 25) (j := 4) dX5_spread_25 rfl ?_
  refine r_aload_n (pc := 27) (j := 0) dX5_spread_27 rfl rfl ?_
  refine gf5_2 (pc := 28) tw_1_236 hw_ dX5_spread_28 ?_
  refine r_iload (pc := 31) (j := 5) dX5_spread_31 rfl ?_
  obtain ⟨h1, hr⟩ := grd_inv hr
  refine x_lald (pc := 33) (k := (Int32.toNatClampNeg v6_)) rfl h1 rfl dX5_spread_33 ?_
  refine r_lmul (pc := 34) dX5_spread_34 ?_
  refine r_topl fun w2 ew2 => ?_
  replace hr := vthen_inv hr w2 ew2
  refine r_lstore (pc := 35) (ls1 := [(4, .long w2), (0, .ref (ad g 45)), (1, .int x1_), (2, .int x2_), (3, .int u3_), (6, .int v6_)]) dX5_spread_35 (nle rfl) rfl ?_
  refine r_iinc (pc := 37) (j := 5) (v := (v6_ + (1 : Int32))) (ls1 := [(6, .int (v6_ + (1 : Int32))), (4, .long w2), (0, .ref (ad g 45)), (1, .int x1_), (2, .int x2_), (3, .int u3_)]) dX5_spread_37 rfl rfl (nle rfl) rfl ?_
  refine r_goto (pc := 40) (tgt := 13) dX5_spread_40 rfl ?_
  exact r_pick (ls1 := [(0, .ref (ad g 45)), (1, .int x1_), (2, .int x2_), (3, .int u3_), (4, .long w2), (6, .int (v6_ + (1 : Int32)))]) [2, 3, 4, 5, 1, 0] rfl (ih w2 (v6_ + (1 : Int32)) hr)

set_option maxRecDepth 20000 in
theorem sX5_spread_L2 {g : GG} {r : SS} {x1_ : Int32} {x2_ : Int32} {k79 : SS → Option SS} 
    (hk79 : ∀ (σ_ : SS), k79 σ_ = some r → WT σ_ → RR g mX5_spread (FinR g mX5_spread none NF r) zF 79 [(0, .ref (ad g 45)), (1, .int x1_), (2, .int x2_)] [] σ_)
    (n : Nat) : ∀ (v3_ : Int32) (σ_ : SS), X5_spread_L2 k79 n v3_ σ_ = some r → WT σ_ → RR g mX5_spread (FinR g mX5_spread none NF r) zF 2 [(0, .ref (ad g 45)), (1, .int x1_), (2, .int x2_), (3, .int v3_)] [] σ_ := by
  unfold X5_spread_L2
  refine lp_ind (P := fun (rec : Int32 → SS → Option SS) => ∀ (v3_ : Int32) (σ_ : SS), rec v3_ σ_ = some r → WT σ_ → RR g mX5_spread (FinR g mX5_spread none NF r) zF 2 [(0, .ref (ad g 45)), (1, .int x1_), (2, .int x2_), (3, .int v3_)] [] σ_) ?_ ?_ n
  · intro v3_ σ_ hr; cases hr
  intro rec ih v3_ σ_ hr hw_
  refine r_iload_n (pc := 2) (j := 3) dX5_spread_2 rfl rfl ?_
  refine r_iconst (pc := 3) (v := (4 : Int32)) dX5_spread_3 rfl ?_
  refine r_icmp_ge (pc := 4) (tgt := 79) dX5_spread_4 rfl (fun hc => ?_) (fun hc => ?_)
  · replace hr := ite_t hc hr
    exact r_pick (ls1 := [(0, .ref (ad g 45)), (1, .int x1_), (2, .int x2_)]) [0, 1, 2] rfl (hk79 σ_ hr hw_)
  replace hr := ite_f hc hr
  refine r_lconst (pc := 7) (v := (1 : Int64)) dX5_spread_7 rfl ?_
  refine r_lstore (pc := 8) (ls1 := [(4, .long (1 : Int64)), (0, .ref (ad g 45)), (1, .int x1_), (2, .int x2_), (3, .int v3_)]) dX5_spread_8 (nle rfl) rfl ?_
  refine r_iconst (pc := 10) (v := (0 : Int32)) dX5_spread_10 rfl ?_
  refine r_istore (pc := 11) (ls1 := [(6, .int (0 : Int32)), (4, .long (1 : Int64)), (0, .ref (ad g 45)), (1, .int x1_), (2, .int x2_), (3, .int v3_)]) dX5_spread_11 (nle rfl) rfl ?_
  refine r_pick (ls1 := [(0, .ref (ad g 45)), (1, .int x1_), (2, .int x2_), (3, .int v3_), (4, .long (1 : Int64)), (6, .int (0 : Int32))]) [2, 3, 4, 5, 1, 0] rfl ?_
  refine sX5_spread_L13  hw_  (fun w3 hr => ?_) fuel (1 : Int64) (0 : Int32) hr
  refine r_aload_n (pc := 43) (j := 0) dX5_spread_43 rfl rfl ?_
  refine gf5_3 (pc := 44) tw_1_237 hw_ dX5_spread_44 ?_
  refine r_iload_n (pc := 47) (j := 3) dX5_spread_47 rfl rfl ?_
  refine r_aload_n (pc := 48) (j := 0) dX5_spread_48 rfl rfl ?_
  refine gf5_0 (pc := 49) tw_1_234 hw_ dX5_spread_49 ?_
  refine r_iload_n (pc := 52) (j := 3) dX5_spread_52 rfl rfl ?_
  obtain ⟨h4, hr⟩ := grd_inv hr
  refine x_lald (pc := 53) (k := (Int32.toNatClampNeg v3_)) rfl h4 rfl dX5_spread_53 ?_
  refine r_lload (pc := 54) (j := 4) dX5_spread_54 rfl ?_
  refine r_lmul (pc := 56) dX5_spread_56 ?_
  refine x_last (pc := 57) (j := (Int32.toNatClampNeg v3_)) rfl h4 rfl dX5_spread_57 fun σ5 eσ5 => ?_
  replace hr := vthen_inv hr σ5 eσ5
  have hσ5 := wtL eσ5 hw_
  refine r_aload_n (pc := 58) (j := 0) dX5_spread_58 rfl rfl ?_
  refine gf5_4 (pc := 59) tw_1_238 hσ5 dX5_spread_59 ?_
  refine r_iload_n (pc := 62) (j := 3) dX5_spread_62 rfl rfl ?_
  refine r_aload_n (pc := 63) (j := 0) dX5_spread_63 rfl rfl ?_
  refine gf5_1 (pc := 64) tw_1_235 hσ5 dX5_spread_64 ?_
  refine r_iload_n (pc := 67) (j := 3) dX5_spread_67 rfl rfl ?_
  refine x_lald (pc := 68) (k := (Int32.toNatClampNeg v3_)) rfl h4 rfl dX5_spread_68 ?_
  refine r_lload (pc := 69) (j := 4) dX5_spread_69 rfl ?_
  refine r_lmul (pc := 71) dX5_spread_71 ?_
  refine x_last (pc := 72) (j := (Int32.toNatClampNeg v3_)) rfl h4 rfl dX5_spread_72 fun σ6 eσ6 => ?_
  replace hr := vthen_inv hr σ6 eσ6
  have hσ6 := wtL eσ6 hσ5
  refine r_iinc (pc := 73) (j := 3) (v := (v3_ + (1 : Int32))) (ls1 := [(3, .int (v3_ + (1 : Int32))), (0, .ref (ad g 45)), (1, .int x1_), (2, .int x2_), (4, .long w3)]) dX5_spread_73 rfl rfl (nle rfl) rfl ?_
  refine r_goto (pc := 76) (tgt := 2) dX5_spread_76 rfl ?_
  exact r_pick (ls1 := [(0, .ref (ad g 45)), (1, .int x1_), (2, .int x2_), (3, .int (v3_ + (1 : Int32)))]) [1, 2, 3, 0] rfl (ih (v3_ + (1 : Int32)) σ6 hr hσ6)

set_option maxRecDepth 20000 in
theorem sX5_spread {g : GG} {σ : SS} {a1 : Int32} {a2 : Int32} {r : SS} (hr : fX5_spread σ a1 a2 = some r)  : Ct g mX5_spread [.ref (ad g 45), .int a1, .int a2] NF σ none NF r := by
  refine Ct.of (by decide +kernel) (nle rfl) fun hw0 => ?_
  have hw := hw0 rfl
  unfold fX5_spread at hr
  change RR g mX5_spread (FinR g mX5_spread none NF r) zF 0 [(0, .ref (ad g 45)), (1, .int a1), (2, .int a2)] [] σ
  refine r_iconst (pc := 0) (v := (0 : Int32)) dX5_spread_0 rfl ?_
  refine r_istore_n (pc := 1) (ls1 := [(3, .int (0 : Int32)), (0, .ref (ad g 45)), (1, .int a1), (2, .int a2)]) dX5_spread_1 rfl (nle rfl) rfl ?_
  refine r_pick (ls1 := [(0, .ref (ad g 45)), (1, .int a1), (2, .int a2), (3, .int (0 : Int32))]) [1, 2, 3, 0] rfl ?_
  refine sX5_spread_L2    (fun σ7 hr hσ7 => ?_) fuel (0 : Int32) σ hr hw
  refine r_aload_n (pc := 79) (j := 0) dX5_spread_79 rfl rfl ?_
  refine r_iconst (pc := 80) (v := (2 : Int32)) dX5_spread_80 rfl ?_
  refine r_iload_n (pc := 81) (j := 1) dX5_spread_81 rfl rfl ?_
  refine r_imul (pc := 82) dX5_spread_82 ?_
  refine pf5_6 (pc := 83) tw_2_0 rfl dX5_spread_83 fun σ8 eσ8 => ?_
  replace hr := vthen_inv hr σ8 eσ8
  have hσ8 := wtI eσ8 hσ7
  refine r_aload_n (pc := 86) (j := 0) dX5_spread_86 rfl rfl ?_
  refine r_iconst (pc := 87) (v := (2 : Int32)) dX5_spread_87 rfl ?_
  refine r_iload_n (pc := 88) (j := 2) dX5_spread_88 rfl rfl ?_
  refine r_imul (pc := 89) dX5_spread_89 ?_
  refine pf5_7 (pc := 90) tw_2_1 rfl dX5_spread_90 fun σ9 eσ9 => ?_
  replace hr := vthen_inv hr σ9 eσ9
  have hσ9 := wtI eσ9 hσ8
  refine r_aload_n (pc := 93) (j := 0) dX5_spread_93 rfl rfl ?_
  refine r_aload_n (pc := 94) (j := 0) dX5_spread_94 rfl rfl ?_
  refine gf5_2 (pc := 95) tw_1_236 hσ9 dX5_spread_95 ?_
  refine r_iconst (pc := 98) (v := (0 : Int32)) dX5_spread_98 rfl ?_
  refine x_lald (pc := 99) (k := 0) rfl (by decide) rfl dX5_spread_99 ?_
  refine r_aload_n (pc := 100) (j := 0) dX5_spread_100 rfl rfl ?_
  refine gf5_2 (pc := 101) tw_1_236 hσ9 dX5_spread_101 ?_
  refine r_iconst (pc := 104) (v := (1 : Int32)) dX5_spread_104 rfl ?_
  refine x_lald (pc := 105) (k := 1) rfl (by decide) rfl dX5_spread_105 ?_
  refine r_lmul (pc := 106) dX5_spread_106 ?_
  refine r_aload_n (pc := 107) (j := 0) dX5_spread_107 rfl rfl ?_
  refine gf5_2 (pc := 108) tw_1_236 hσ9 dX5_spread_108 ?_
  refine r_iconst (pc := 111) (v := (2 : Int32)) dX5_spread_111 rfl ?_
  refine x_lald (pc := 112) (k := 2) rfl (by decide) rfl dX5_spread_112 ?_
  refine r_lmul (pc := 113) dX5_spread_113 ?_
  refine r_aload_n (pc := 114) (j := 0) dX5_spread_114 rfl rfl ?_
  refine gf5_2 (pc := 115) tw_1_236 hσ9 dX5_spread_115 ?_
  refine r_iconst (pc := 118) (v := (3 : Int32)) dX5_spread_118 rfl ?_
  refine x_lald (pc := 119) (k := 3) rfl (by decide) rfl dX5_spread_119 ?_
  refine r_lmul (pc := 120) dX5_spread_120 ?_
  refine r_aload_n (pc := 121) (j := 0) dX5_spread_121 rfl rfl ?_
  refine gf5_6 (pc := 122) tw_2_0 rfl dX5_spread_122 ?_
  refine r_i2l (pc := 125) dX5_spread_125 ?_
  refine r_lmul (pc := 126) dX5_spread_126 ?_
  refine r_aload_n (pc := 127) (j := 0) dX5_spread_127 rfl rfl ?_
  refine gf5_7 (pc := 128) tw_2_1 rfl dX5_spread_128 ?_
  refine r_i2l (pc := 131) dX5_spread_131 ?_
  refine r_lmul (pc := 132) dX5_spread_132 ?_
  refine pf5_5 (pc := 133) tw_1_239 rfl dX5_spread_133 fun σ10 eσ10 => ?_
  replace hr := vthen_inv hr σ10 eσ10
  have hσ10 := wtL eσ10 hσ9
  exact l_ov hr (r_vret (pc := 136) rfl rfl ⟨Nat.le_refl _, Nat.le_refl _⟩ dX5_spread_136)

theorem kX5_spread {g : GG} {σ : SS} {a1 : Int32} {a2 : Int32} {σ2 : SS} {M : MM} {F : State → Array Value → List Frame → State → Prop} {pc index : Nat} {ls : List (Nat × Value)} {rest : List Value} (hf : fX5_spread σ a1 a2 = some σ2)  (hl : Cond.methodLink M.1.cls index yX5_spread ∈ lw_gt) (hR : mX5_spread.2.2.2.2.frames + 1 ≤ M.2.2.2.2.frames ∧ 8 + (mX5_spread.2.2.1 + 11) + mX5_spread.2.2.2.2.locals ≤ M.2.2.2.2.locals) (hrest : (rest.map fun v => v.category).sum ≤ 8) (hd : decode M.2.1 pc = .ok (.invokevirtual index, 3)) (k : WT σ2 → RR g M F zF (pc + 3) ls rest σ2) : RR g M F zF pc ls (.int a2 :: .int a1 :: .ref (ad g 45) :: rest) σ :=
  r_callV (z := zF) (N := mX5_spread) (nn := 2) (o1 := none) (sX5_spread hf ) (rfl : shp 45 = (5, 0)) (by decide) (shp_le (rfl : shp 45 = (5, 0)) (nle rfl)) (ci := 5) rfl rfl tw_3_22 tw_1_7 hl tw_3_20 tw_3_21 ⟨by decide, by decide, rfl⟩ hR rfl hrest hd ⟨Nat.zero_le _, Nat.zero_le _⟩ rfl (fun h => k (h rfl))

theorem dX5_weighed_0 : decode cX5_weighed 0 = .ok (.aload_n 1, 1) := by decide +kernel
theorem dX5_weighed_1 : decode cX5_weighed 1 = .ok (.iconst 0, 1) := by decide +kernel
theorem dX5_weighed_2 : decode cX5_weighed 2 = .ok (.laload, 1) := by decide +kernel
theorem dX5_weighed_3 : decode cX5_weighed 3 = .ok (.aload_n 0, 1) := by decide +kernel
theorem dX5_weighed_4 : decode cX5_weighed 4 = .ok (.getfield 27, 3) := by decide +kernel
theorem dX5_weighed_7 : decode cX5_weighed 7 = .ok (.iload_n 2, 1) := by decide +kernel
theorem dX5_weighed_8 : decode cX5_weighed 8 = .ok (.isub, 1) := by decide +kernel
theorem dX5_weighed_9 : decode cX5_weighed 9 = .ok (.aload_n 0, 1) := by decide +kernel
theorem dX5_weighed_10 : decode cX5_weighed 10 = .ok (.getfield 31, 3) := by decide +kernel
theorem dX5_weighed_13 : decode cX5_weighed 13 = .ok (.iload_n 3, 1) := by decide +kernel
theorem dX5_weighed_14 : decode cX5_weighed 14 = .ok (.isub, 1) := by decide +kernel
theorem dX5_weighed_15 : decode cX5_weighed 15 = .ok (.imul, 1) := by decide +kernel
theorem dX5_weighed_16 : decode cX5_weighed 16 = .ok (.i2l, 1) := by decide +kernel
theorem dX5_weighed_17 : decode cX5_weighed 17 = .ok (.lmul, 1) := by decide +kernel
theorem dX5_weighed_18 : decode cX5_weighed 18 = .ok (.aload_n 1, 1) := by decide +kernel
theorem dX5_weighed_19 : decode cX5_weighed 19 = .ok (.iconst 1, 1) := by decide +kernel
theorem dX5_weighed_20 : decode cX5_weighed 20 = .ok (.laload, 1) := by decide +kernel
theorem dX5_weighed_21 : decode cX5_weighed 21 = .ok (.iload_n 2, 1) := by decide +kernel
theorem dX5_weighed_22 : decode cX5_weighed 22 = .ok (.aload_n 0, 1) := by decide +kernel
theorem dX5_weighed_23 : decode cX5_weighed 23 = .ok (.getfield 31, 3) := by decide +kernel
theorem dX5_weighed_26 : decode cX5_weighed 26 = .ok (.iload_n 3, 1) := by decide +kernel
theorem dX5_weighed_27 : decode cX5_weighed 27 = .ok (.isub, 1) := by decide +kernel
theorem dX5_weighed_28 : decode cX5_weighed 28 = .ok (.imul, 1) := by decide +kernel
theorem dX5_weighed_29 : decode cX5_weighed 29 = .ok (.i2l, 1) := by decide +kernel
theorem dX5_weighed_30 : decode cX5_weighed 30 = .ok (.lmul, 1) := by decide +kernel
theorem dX5_weighed_31 : decode cX5_weighed 31 = .ok (.ladd, 1) := by decide +kernel
theorem dX5_weighed_32 : decode cX5_weighed 32 = .ok (.aload_n 1, 1) := by decide +kernel
theorem dX5_weighed_33 : decode cX5_weighed 33 = .ok (.iconst 2, 1) := by decide +kernel
theorem dX5_weighed_34 : decode cX5_weighed 34 = .ok (.laload, 1) := by decide +kernel
theorem dX5_weighed_35 : decode cX5_weighed 35 = .ok (.aload_n 0, 1) := by decide +kernel
theorem dX5_weighed_36 : decode cX5_weighed 36 = .ok (.getfield 27, 3) := by decide +kernel
theorem dX5_weighed_39 : decode cX5_weighed 39 = .ok (.iload_n 2, 1) := by decide +kernel
theorem dX5_weighed_40 : decode cX5_weighed 40 = .ok (.isub, 1) := by decide +kernel
theorem dX5_weighed_41 : decode cX5_weighed 41 = .ok (.iload_n 3, 1) := by decide +kernel
theorem dX5_weighed_42 : decode cX5_weighed 42 = .ok (.imul, 1) := by decide +kernel
theorem dX5_weighed_43 : decode cX5_weighed 43 = .ok (.i2l, 1) := by decide +kernel
theorem dX5_weighed_44 : decode cX5_weighed 44 = .ok (.lmul, 1) := by decide +kernel
theorem dX5_weighed_45 : decode cX5_weighed 45 = .ok (.ladd, 1) := by decide +kernel
theorem dX5_weighed_46 : decode cX5_weighed 46 = .ok (.aload_n 1, 1) := by decide +kernel
theorem dX5_weighed_47 : decode cX5_weighed 47 = .ok (.iconst 3, 1) := by decide +kernel
theorem dX5_weighed_48 : decode cX5_weighed 48 = .ok (.laload, 1) := by decide +kernel
theorem dX5_weighed_49 : decode cX5_weighed 49 = .ok (.iload_n 2, 1) := by decide +kernel
theorem dX5_weighed_50 : decode cX5_weighed 50 = .ok (.iload_n 3, 1) := by decide +kernel
theorem dX5_weighed_51 : decode cX5_weighed 51 = .ok (.imul, 1) := by decide +kernel
theorem dX5_weighed_52 : decode cX5_weighed 52 = .ok (.i2l, 1) := by decide +kernel
theorem dX5_weighed_53 : decode cX5_weighed 53 = .ok (.lmul, 1) := by decide +kernel
theorem dX5_weighed_54 : decode cX5_weighed 54 = .ok (.ladd, 1) := by decide +kernel
theorem dX5_weighed_55 : decode cX5_weighed 55 = .ok (.lreturn, 1) := by decide +kernel
def mX5_weighed : MM := (yX5_weighed, cX5_weighed, 4, Option.some Jvm.ClassFile.FieldType.long, { frames := 0, cells := 0, slots := 0, locals := 0 })
def fX5_weighed (σ0 : SS) (a1 : Nat) (a2 : Int32) (a3 : Int32) : Option Int64 :=
  some (((((gL σ0 a1 0) * (Int32.toInt64 (((gI σ0 45 6) - a2) * ((gI σ0 45 7) - a3)))) + ((gL σ0 a1 1) * (Int32.toInt64 (a2 * ((gI σ0 45 7) - a3))))) + ((gL σ0 a1 2) * (Int32.toInt64 (((gI σ0 45 6) - a2) * a3)))) + ((gL σ0 a1 3) * (Int32.toInt64 (a2 * a3))))

set_option maxRecDepth 20000 in
theorem sX5_weighed {g : GG} {σ0 : SS} {a1 : Nat} {a2 : Int32} {a3 : Int32} {r : Int64} (hr : fX5_weighed σ0 a1 a2 a3 = some r) (hs1 : shp a1 = (23, 4)) : Ct g mX5_weighed [.ref (ad g 45), .ref (ad g a1), .int a2, .int a3] NF σ0 (some (.long r)) NF σ0 := by
  refine Ct.of (by decide +kernel) (nle rfl) fun hw0 => ?_
  have hw := hw0 rfl
  unfold fX5_weighed at hr
  change RR g mX5_weighed (FinR g mX5_weighed (some (.long r)) NF σ0) zF 0 [(0, .ref (ad g 45)), (1, .ref (ad g a1)), (2, .int a2), (3, .int a3)] [] σ0
  refine r_aload_n (pc := 0) (j := 1) dX5_weighed_0 rfl rfl ?_
  refine r_iconst (pc := 1) (v := (0 : Int32)) dX5_weighed_1 rfl ?_
  refine x_lald (pc := 2) (k := 0) hs1 (by decide) rfl dX5_weighed_2 ?_
  refine r_aload_n (pc := 3) (j := 0) dX5_weighed_3 rfl rfl ?_
  refine gf5_6 (pc := 4) tw_2_0 rfl dX5_weighed_4 ?_
  refine r_iload_n (pc := 7) (j := 2) dX5_weighed_7 rfl rfl ?_
  refine r_isub (pc := 8) dX5_weighed_8 ?_
  refine r_aload_n (pc := 9) (j := 0) dX5_weighed_9 rfl rfl ?_
  refine gf5_7 (pc := 10) tw_2_1 rfl dX5_weighed_10 ?_
  refine r_iload_n (pc := 13) (j := 3) dX5_weighed_13 rfl rfl ?_
  refine r_isub (pc := 14) dX5_weighed_14 ?_
  refine r_imul (pc := 15) dX5_weighed_15 ?_
  refine r_i2l (pc := 16) dX5_weighed_16 ?_
  refine r_lmul (pc := 17) dX5_weighed_17 ?_
  refine r_aload_n (pc := 18) (j := 1) dX5_weighed_18 rfl rfl ?_
  refine r_iconst (pc := 19) (v := (1 : Int32)) dX5_weighed_19 rfl ?_
  refine x_lald (pc := 20) (k := 1) hs1 (by decide) rfl dX5_weighed_20 ?_
  refine r_iload_n (pc := 21) (j := 2) dX5_weighed_21 rfl rfl ?_
  refine r_aload_n (pc := 22) (j := 0) dX5_weighed_22 rfl rfl ?_
  refine gf5_7 (pc := 23) tw_2_1 rfl dX5_weighed_23 ?_
  refine r_iload_n (pc := 26) (j := 3) dX5_weighed_26 rfl rfl ?_
  refine r_isub (pc := 27) dX5_weighed_27 ?_
  refine r_imul (pc := 28) dX5_weighed_28 ?_
  refine r_i2l (pc := 29) dX5_weighed_29 ?_
  refine r_lmul (pc := 30) dX5_weighed_30 ?_
  refine r_ladd (pc := 31) dX5_weighed_31 ?_
  refine r_aload_n (pc := 32) (j := 1) dX5_weighed_32 rfl rfl ?_
  refine r_iconst (pc := 33) (v := (2 : Int32)) dX5_weighed_33 rfl ?_
  refine x_lald (pc := 34) (k := 2) hs1 (by decide) rfl dX5_weighed_34 ?_
  refine r_aload_n (pc := 35) (j := 0) dX5_weighed_35 rfl rfl ?_
  refine gf5_6 (pc := 36) tw_2_0 rfl dX5_weighed_36 ?_
  refine r_iload_n (pc := 39) (j := 2) dX5_weighed_39 rfl rfl ?_
  refine r_isub (pc := 40) dX5_weighed_40 ?_
  refine r_iload_n (pc := 41) (j := 3) dX5_weighed_41 rfl rfl ?_
  refine r_imul (pc := 42) dX5_weighed_42 ?_
  refine r_i2l (pc := 43) dX5_weighed_43 ?_
  refine r_lmul (pc := 44) dX5_weighed_44 ?_
  refine r_ladd (pc := 45) dX5_weighed_45 ?_
  refine r_aload_n (pc := 46) (j := 1) dX5_weighed_46 rfl rfl ?_
  refine r_iconst (pc := 47) (v := (3 : Int32)) dX5_weighed_47 rfl ?_
  refine x_lald (pc := 48) (k := 3) hs1 (by decide) rfl dX5_weighed_48 ?_
  refine r_iload_n (pc := 49) (j := 2) dX5_weighed_49 rfl rfl ?_
  refine r_iload_n (pc := 50) (j := 3) dX5_weighed_50 rfl rfl ?_
  refine r_imul (pc := 51) dX5_weighed_51 ?_
  refine r_i2l (pc := 52) dX5_weighed_52 ?_
  refine r_lmul (pc := 53) dX5_weighed_53 ?_
  refine r_ladd (pc := 54) dX5_weighed_54 ?_
  exact l_opl hr (r_lret (pc := 55) (v := (((((gL σ0 a1 0) * (Int32.toInt64 (((gI σ0 45 6) - a2) * ((gI σ0 45 7) - a3)))) + ((gL σ0 a1 1) * (Int32.toInt64 (a2 * ((gI σ0 45 7) - a3))))) + ((gL σ0 a1 2) * (Int32.toInt64 (((gI σ0 45 6) - a2) * a3)))) + ((gL σ0 a1 3) * (Int32.toInt64 (a2 * a3))))) rfl rfl ⟨Nat.le_refl _, Nat.le_refl _⟩ dX5_weighed_55)

theorem kX5_weighed {g : GG} {σ0 : SS} {a1 : Nat} {a2 : Int32} {a3 : Int32} {v : Int64} {M : MM} {F : State → Array Value → List Frame → State → Prop} {pc index : Nat} {ls : List (Nat × Value)} {rest : List Value} (hf : fX5_weighed σ0 a1 a2 a3 = some v) (hs1 : shp a1 = (23, 4)) (hl : Cond.methodLink M.1.cls index yX5_weighed ∈ lw_gt) (hR : mX5_weighed.2.2.2.2.frames + 1 ≤ M.2.2.2.2.frames ∧ 8 + (mX5_weighed.2.2.1 + 11) + mX5_weighed.2.2.2.2.locals ≤ M.2.2.2.2.locals) (hrest : (rest.map fun v => v.category).sum ≤ 8) (hd : decode M.2.1 pc = .ok (.invokevirtual index, 3)) (k : RR g M F zF (pc + 3) ls (.long v :: rest) σ0) : RR g M F zF pc ls (.int a3 :: .int a2 :: .ref (ad g a1) :: .ref (ad g 45) :: rest) σ0 :=
  r_callV (z := zF) (N := mX5_weighed) (nn := 3) (o1 := some (.long v)) (sX5_weighed hf hs1) (rfl : shp 45 = (5, 0)) (by decide) (shp_le (rfl : shp 45 = (5, 0)) (nle rfl)) (ci := 5) rfl rfl tw_3_34 tw_1_7 hl tw_3_33 tp_6 ⟨by decide, by decide, rfl⟩ hR rfl hrest hd ⟨Nat.zero_le _, Nat.zero_le _⟩ rfl (fun h => k)

theorem dX5_rounded_0 : decode cX5_rounded 0 = .ok (.aload_n 0, 1) := by decide +kernel
theorem dX5_rounded_1 : decode cX5_rounded 1 = .ok (.getfield 34, 3) := by decide +kernel
theorem dX5_rounded_4 : decode cX5_rounded 4 = .ok (.lconst 0, 1) := by decide +kernel
theorem dX5_rounded_5 : decode cX5_rounded 5 = .ok (.lcmp, 1) := by decide +kernel
theorem dX5_rounded_6 : decode cX5_rounded 6 = .ok (.ifCond .le 26, 3) := by decide +kernel
theorem dX5_rounded_9 : decode cX5_rounded 9 = .ok (.ldc2_w 38, 3) := by decide +kernel
theorem dX5_rounded_12 : decode cX5_rounded 12 = .ok (.lload_n 1, 1) := by decide +kernel
theorem dX5_rounded_13 : decode cX5_rounded 13 = .ok (.lmul, 1) := by decide +kernel
theorem dX5_rounded_14 : decode cX5_rounded 14 = .ok (.aload_n 0, 1) := by decide +kernel
theorem dX5_rounded_15 : decode cX5_rounded 15 = .ok (.getfield 34, 3) := by decide +kernel
theorem dX5_rounded_18 : decode cX5_rounded 18 = .ok (.ladd, 1) := by decide +kernel
theorem dX5_rounded_19 : decode cX5_rounded 19 = .ok (.ldc2_w 38, 3) := by decide +kernel
theorem dX5_rounded_22 : decode cX5_rounded 22 = .ok (.aload_n 0, 1) := by decide +kernel
theorem dX5_rounded_23 : decode cX5_rounded 23 = .ok (.getfield 34, 3) := by decide +kernel
theorem dX5_rounded_26 : decode cX5_rounded 26 = .ok (.lmul, 1) := by decide +kernel
theorem dX5_rounded_27 : decode cX5_rounded 27 = .ok (.ldiv, 1) := by decide +kernel
theorem dX5_rounded_28 : decode cX5_rounded 28 = .ok (.l2i, 1) := by decide +kernel
theorem dX5_rounded_29 : decode cX5_rounded 29 = .ok (.goto 4, 3) := by decide +kernel
theorem dX5_rounded_32 : decode cX5_rounded 32 = .ok (.iconst 0, 1) := by decide +kernel
theorem dX5_rounded_33 : decode cX5_rounded 33 = .ok (.ireturn, 1) := by decide +kernel
def mX5_rounded : MM := (yX5_rounded, cX5_rounded, 3, Option.some Jvm.ClassFile.FieldType.int, { frames := 0, cells := 0, slots := 0, locals := 0 })
def fX5_rounded (σ0 : SS) (a1 : Int64) : Option Int32 :=
  if (lg_cmp (gL σ0 45 5) (0 : Int64)) ≤ 0 then (
    some (0 : Int32)
    ) else (
    grd (nzl ((2 : Int64) * (gL σ0 45 5))) <|
    some (Int64.toInt32 ((((2 : Int64) * a1) + (gL σ0 45 5)) / ((2 : Int64) * (gL σ0 45 5))))
    )

set_option maxRecDepth 20000 in
theorem sX5_rounded {g : GG} {σ0 : SS} {a1 : Int64} {r : Int32} (hr : fX5_rounded σ0 a1 = some r)  : Ct g mX5_rounded [.ref (ad g 45), .long a1] NF σ0 (some (.int r)) NF σ0 := by
  refine Ct.of (by decide +kernel) (nle rfl) fun hw0 => ?_
  have hw := hw0 rfl
  unfold fX5_rounded at hr
  change RR g mX5_rounded (FinR g mX5_rounded (some (.int r)) NF σ0) zF 0 [(0, .ref (ad g 45)), (1, .long a1)] [] σ0
  refine r_aload_n (pc := 0) (j := 0) dX5_rounded_0 rfl rfl ?_
  refine gf5_5 (pc := 1) tw_1_239 rfl dX5_rounded_1 ?_
  refine r_lconst (pc := 4) (v := (0 : Int64)) dX5_rounded_4 rfl ?_
  refine r_lcmp (pc := 5) dX5_rounded_5 ?_
  refine r_if_le (pc := 6) (tgt := 32) dX5_rounded_6 rfl (fun hc => ?_) (fun hc => ?_)
  · replace hr := ite_t hc hr
    refine r_iconst (pc := 32) (v := (0 : Int32)) dX5_rounded_32 rfl ?_
    exact l_opi hr (r_iret (pc := 33) (v := (0 : Int32)) rfl rfl ⟨Nat.le_refl _, Nat.le_refl _⟩ dX5_rounded_33)
  replace hr := ite_f hc hr
  refine r_ldc2 (pc := 9) (v := (2 : Int64)) dX5_rounded_9 tw_3_39 ?_
  refine r_lload_n (pc := 12) (j := 1) dX5_rounded_12 rfl rfl ?_
  refine r_lmul (pc := 13) dX5_rounded_13 ?_
  refine r_aload_n (pc := 14) (j := 0) dX5_rounded_14 rfl rfl ?_
  refine gf5_5 (pc := 15) tw_1_239 rfl dX5_rounded_15 ?_
  refine r_ladd (pc := 18) dX5_rounded_18 ?_
  refine r_ldc2 (pc := 19) (v := (2 : Int64)) dX5_rounded_19 tw_3_39 ?_
  refine r_aload_n (pc := 22) (j := 0) dX5_rounded_22 rfl rfl ?_
  refine gf5_5 (pc := 23) tw_1_239 rfl dX5_rounded_23 ?_
  refine r_lmul (pc := 26) dX5_rounded_26 ?_
  obtain ⟨h1, hr⟩ := grd_inv hr
  refine r_ldiv (pc := 27) dX5_rounded_27 (nzl_ne h1) ?_
  refine r_l2i (pc := 28) dX5_rounded_28 ?_
  refine r_goto (pc := 29) (tgt := 33) dX5_rounded_29 rfl ?_
  exact l_opi hr (r_iret (pc := 33) (v := (Int64.toInt32 ((((2 : Int64) * a1) + (gL σ0 45 5)) / ((2 : Int64) * (gL σ0 45 5))))) rfl rfl ⟨Nat.le_refl _, Nat.le_refl _⟩ dX5_rounded_33)

theorem kX5_rounded {g : GG} {σ0 : SS} {a1 : Int64} {v : Int32} {M : MM} {F : State → Array Value → List Frame → State → Prop} {pc index : Nat} {ls : List (Nat × Value)} {rest : List Value} (hf : fX5_rounded σ0 a1 = some v)  (hl : Cond.methodLink M.1.cls index yX5_rounded ∈ lw_gt) (hR : mX5_rounded.2.2.2.2.frames + 1 ≤ M.2.2.2.2.frames ∧ 8 + (mX5_rounded.2.2.1 + 11) + mX5_rounded.2.2.2.2.locals ≤ M.2.2.2.2.locals) (hrest : (rest.map fun v => v.category).sum ≤ 8) (hd : decode M.2.1 pc = .ok (.invokevirtual index, 3)) (k : RR g M F zF (pc + 3) ls (.int v :: rest) σ0) : RR g M F zF pc ls (.long a1 :: .ref (ad g 45) :: rest) σ0 :=
  r_callV (z := zF) (N := mX5_rounded) (nn := 1) (o1 := some (.int v)) (sX5_rounded hf ) (rfl : shp 45 = (5, 0)) (by decide) (shp_le (rfl : shp 45 = (5, 0)) (nle rfl)) (ci := 5) rfl rfl tw_3_38 tw_1_7 hl tw_3_37 tp_7 ⟨by decide, by decide, rfl⟩ hR rfl hrest hd ⟨Nat.zero_le _, Nat.zero_le _⟩ rfl (fun h => k)

theorem dX5_dotX_0 : decode cX5_dotX 0 = .ok (.aload_n 0, 1) := by decide +kernel
theorem dX5_dotX_1 : decode cX5_dotX 1 = .ok (.aload_n 0, 1) := by decide +kernel
theorem dX5_dotX_2 : decode cX5_dotX 2 = .ok (.aload_n 0, 1) := by decide +kernel
theorem dX5_dotX_3 : decode cX5_dotX 3 = .ok (.getfield 21, 3) := by decide +kernel
theorem dX5_dotX_6 : decode cX5_dotX 6 = .ok (.iload_n 1, 1) := by decide +kernel
theorem dX5_dotX_7 : decode cX5_dotX 7 = .ok (.iload_n 2, 1) := by decide +kernel
theorem dX5_dotX_8 : decode cX5_dotX 8 = .ok (.invokevirtual 42, 3) := by decide +kernel
theorem dX5_dotX_11 : decode cX5_dotX 11 = .ok (.invokevirtual 46, 3) := by decide +kernel
theorem dX5_dotX_14 : decode cX5_dotX 14 = .ok (.ireturn, 1) := by decide +kernel
def mX5_dotX : MM := (yX5_dotX, cX5_dotX, 3, Option.some Jvm.ClassFile.FieldType.int, { frames := 1, cells := 0, slots := 0, locals := 23 })
def fX5_dotX (σ0 : SS) (a1 : Int32) (a2 : Int32) : Option Int32 :=
  bnd1 (fX5_weighed σ0 49 a1 a2) fun w3 =>
  bnd1 (fX5_rounded σ0 w3) fun v4 =>
  some v4

set_option maxRecDepth 20000 in
theorem sX5_dotX {g : GG} {σ0 : SS} {a1 : Int32} {a2 : Int32} {r : Int32} (hr : fX5_dotX σ0 a1 a2 = some r)  : Ct g mX5_dotX [.ref (ad g 45), .int a1, .int a2] NF σ0 (some (.int r)) NF σ0 := by
  refine Ct.of (by decide +kernel) (nle rfl) fun hw0 => ?_
  have hw := hw0 rfl
  unfold fX5_dotX at hr
  change RR g mX5_dotX (FinR g mX5_dotX (some (.int r)) NF σ0) zF 0 [(0, .ref (ad g 45)), (1, .int a1), (2, .int a2)] [] σ0
  refine r_aload_n (pc := 0) (j := 0) dX5_dotX_0 rfl rfl ?_
  refine r_aload_n (pc := 1) (j := 0) dX5_dotX_1 rfl rfl ?_
  refine r_aload_n (pc := 2) (j := 0) dX5_dotX_2 rfl rfl ?_
  refine gf5_3 (pc := 3) tw_1_237 hw dX5_dotX_3 ?_
  refine r_iload_n (pc := 6) (j := 1) dX5_dotX_6 rfl rfl ?_
  refine r_iload_n (pc := 7) (j := 2) dX5_dotX_7 rfl rfl ?_
  obtain ⟨w3, hw3, hr⟩ := bnd1_inv hr
  refine kX5_weighed (pc := 8) hw3 rfl tw_3_31 ⟨nle rfl, nle rfl⟩ (nle rfl) dX5_dotX_8 ?_
  obtain ⟨v4, hv4, hr⟩ := bnd1_inv hr
  refine kX5_rounded (pc := 11) hv4 tw_3_35 ⟨nle rfl, nle rfl⟩ (nle rfl) dX5_dotX_11 ?_
  exact l_opi hr (r_iret (pc := 14) (v := v4) rfl rfl ⟨Nat.le_refl _, Nat.le_refl _⟩ dX5_dotX_14)

theorem kX5_dotX {g : GG} {σ0 : SS} {a1 : Int32} {a2 : Int32} {v : Int32} {M : MM} {F : State → Array Value → List Frame → State → Prop} {pc index : Nat} {ls : List (Nat × Value)} {rest : List Value} (hf : fX5_dotX σ0 a1 a2 = some v)  (hl : Cond.methodLink M.1.cls index yX5_dotX ∈ lw_gt) (hR : mX5_dotX.2.2.2.2.frames + 1 ≤ M.2.2.2.2.frames ∧ 8 + (mX5_dotX.2.2.1 + 11) + mX5_dotX.2.2.2.2.locals ≤ M.2.2.2.2.locals) (hrest : (rest.map fun v => v.category).sum ≤ 8) (hd : decode M.2.1 pc = .ok (.invokevirtual index, 3)) (k : RR g M F zF (pc + 3) ls (.int v :: rest) σ0) : RR g M F zF pc ls (.int a2 :: .int a1 :: .ref (ad g 45) :: rest) σ0 :=
  r_callV (z := zF) (N := mX5_dotX) (nn := 2) (o1 := some (.int v)) (sX5_dotX hf ) (rfl : shp 45 = (5, 0)) (by decide) (shp_le (rfl : shp 45 = (5, 0)) (nle rfl)) (ci := 5) rfl rfl tw_3_30 tw_1_7 hl tw_3_28 tw_3_29 ⟨by decide, by decide, rfl⟩ hR rfl hrest hd ⟨Nat.zero_le _, Nat.zero_le _⟩ rfl (fun h => k)

theorem dX5_dotY_0 : decode cX5_dotY 0 = .ok (.aload_n 0, 1) := by decide +kernel
theorem dX5_dotY_1 : decode cX5_dotY 1 = .ok (.aload_n 0, 1) := by decide +kernel
theorem dX5_dotY_2 : decode cX5_dotY 2 = .ok (.aload_n 0, 1) := by decide +kernel
theorem dX5_dotY_3 : decode cX5_dotY 3 = .ok (.getfield 24, 3) := by decide +kernel
theorem dX5_dotY_6 : decode cX5_dotY 6 = .ok (.iload_n 1, 1) := by decide +kernel
theorem dX5_dotY_7 : decode cX5_dotY 7 = .ok (.iload_n 2, 1) := by decide +kernel
theorem dX5_dotY_8 : decode cX5_dotY 8 = .ok (.invokevirtual 42, 3) := by decide +kernel
theorem dX5_dotY_11 : decode cX5_dotY 11 = .ok (.invokevirtual 46, 3) := by decide +kernel
theorem dX5_dotY_14 : decode cX5_dotY 14 = .ok (.ireturn, 1) := by decide +kernel
def mX5_dotY : MM := (yX5_dotY, cX5_dotY, 3, Option.some Jvm.ClassFile.FieldType.int, { frames := 1, cells := 0, slots := 0, locals := 23 })
def fX5_dotY (σ0 : SS) (a1 : Int32) (a2 : Int32) : Option Int32 :=
  bnd1 (fX5_weighed σ0 50 a1 a2) fun w3 =>
  bnd1 (fX5_rounded σ0 w3) fun v4 =>
  some v4

set_option maxRecDepth 20000 in
theorem sX5_dotY {g : GG} {σ0 : SS} {a1 : Int32} {a2 : Int32} {r : Int32} (hr : fX5_dotY σ0 a1 a2 = some r)  : Ct g mX5_dotY [.ref (ad g 45), .int a1, .int a2] NF σ0 (some (.int r)) NF σ0 := by
  refine Ct.of (by decide +kernel) (nle rfl) fun hw0 => ?_
  have hw := hw0 rfl
  unfold fX5_dotY at hr
  change RR g mX5_dotY (FinR g mX5_dotY (some (.int r)) NF σ0) zF 0 [(0, .ref (ad g 45)), (1, .int a1), (2, .int a2)] [] σ0
  refine r_aload_n (pc := 0) (j := 0) dX5_dotY_0 rfl rfl ?_
  refine r_aload_n (pc := 1) (j := 0) dX5_dotY_1 rfl rfl ?_
  refine r_aload_n (pc := 2) (j := 0) dX5_dotY_2 rfl rfl ?_
  refine gf5_4 (pc := 3) tw_1_238 hw dX5_dotY_3 ?_
  refine r_iload_n (pc := 6) (j := 1) dX5_dotY_6 rfl rfl ?_
  refine r_iload_n (pc := 7) (j := 2) dX5_dotY_7 rfl rfl ?_
  obtain ⟨w3, hw3, hr⟩ := bnd1_inv hr
  refine kX5_weighed (pc := 8) hw3 rfl tw_3_31 ⟨nle rfl, nle rfl⟩ (nle rfl) dX5_dotY_8 ?_
  obtain ⟨v4, hv4, hr⟩ := bnd1_inv hr
  refine kX5_rounded (pc := 11) hv4 tw_3_35 ⟨nle rfl, nle rfl⟩ (nle rfl) dX5_dotY_11 ?_
  exact l_opi hr (r_iret (pc := 14) (v := v4) rfl rfl ⟨Nat.le_refl _, Nat.le_refl _⟩ dX5_dotY_14)

theorem kX5_dotY {g : GG} {σ0 : SS} {a1 : Int32} {a2 : Int32} {v : Int32} {M : MM} {F : State → Array Value → List Frame → State → Prop} {pc index : Nat} {ls : List (Nat × Value)} {rest : List Value} (hf : fX5_dotY σ0 a1 a2 = some v)  (hl : Cond.methodLink M.1.cls index yX5_dotY ∈ lw_gt) (hR : mX5_dotY.2.2.2.2.frames + 1 ≤ M.2.2.2.2.frames ∧ 8 + (mX5_dotY.2.2.1 + 11) + mX5_dotY.2.2.2.2.locals ≤ M.2.2.2.2.locals) (hrest : (rest.map fun v => v.category).sum ≤ 8) (hd : decode M.2.1 pc = .ok (.invokevirtual index, 3)) (k : RR g M F zF (pc + 3) ls (.int v :: rest) σ0) : RR g M F zF pc ls (.int a2 :: .int a1 :: .ref (ad g 45) :: rest) σ0 :=
  r_callV (z := zF) (N := mX5_dotY) (nn := 2) (o1 := some (.int v)) (sX5_dotY hf ) (rfl : shp 45 = (5, 0)) (by decide) (shp_le (rfl : shp 45 = (5, 0)) (nle rfl)) (ci := 5) rfl rfl tw_3_43 tw_1_7 hl tw_3_41 tw_3_42 ⟨by decide, by decide, rfl⟩ hR rfl hrest hd ⟨Nat.zero_le _, Nat.zero_le _⟩ rfl (fun h => k)

theorem dX6_has_0 : decode cX6_has 0 = .ok (.iload_n 1, 1) := by decide +kernel
theorem dX6_has_1 : decode cX6_has 1 = .ok (.ifCond .lt 27, 3) := by decide +kernel
theorem dX6_has_4 : decode cX6_has 4 = .ok (.iload_n 1, 1) := by decide +kernel
theorem dX6_has_5 : decode cX6_has 5 = .ok (.aload_n 0, 1) := by decide +kernel
theorem dX6_has_6 : decode cX6_has 6 = .ok (.getfield 18, 3) := by decide +kernel
theorem dX6_has_9 : decode cX6_has 9 = .ok (.if_icmp .ge 19, 3) := by decide +kernel
theorem dX6_has_12 : decode cX6_has 12 = .ok (.iload_n 2, 1) := by decide +kernel
theorem dX6_has_13 : decode cX6_has 13 = .ok (.ifCond .lt 15, 3) := by decide +kernel
theorem dX6_has_16 : decode cX6_has 16 = .ok (.iload_n 2, 1) := by decide +kernel
theorem dX6_has_17 : decode cX6_has 17 = .ok (.aload_n 0, 1) := by decide +kernel
theorem dX6_has_18 : decode cX6_has 18 = .ok (.getfield 22, 3) := by decide +kernel
theorem dX6_has_21 : decode cX6_has 21 = .ok (.if_icmp .ge 7, 3) := by decide +kernel
theorem dX6_has_24 : decode cX6_has 24 = .ok (.iconst 1, 1) := by decide +kernel
theorem dX6_has_25 : decode cX6_has 25 = .ok (.goto 4, 3) := by decide +kernel
theorem dX6_has_28 : decode cX6_has 28 = .ok (.iconst 0, 1) := by decide +kernel
theorem dX6_has_29 : decode cX6_has 29 = .ok (.ireturn, 1) := by decide +kernel
def mX6_has : MM := (yX6_has, cX6_has, 3, Option.some Jvm.ClassFile.FieldType.boolean, { frames := 0, cells := 0, slots := 0, locals := 0 })
def fX6_has (σ0 : SS) (a0 : Nat) (a1 : Int32) (a2 : Int32) : Bool :=
  vthen (fun (_u : Unit) =>
    false
    ) fun j28 =>
  if a1 < 0 then (
    j28 ()
    ) else (
    if (gI σ0 a0 0) ≤ a1 then (
      j28 ()
      ) else (
      if a2 < 0 then (
        j28 ()
        ) else (
        if (gI σ0 a0 1) ≤ a2 then (
          j28 ()
          ) else (
          true
          )
        )
      )
    )

set_option maxRecDepth 20000 in
theorem sX6_has {g : GG} {σ0 : SS} {a0 : Nat} {a1 : Int32} {a2 : Int32} {r : Bool} (hr : fX6_has σ0 a0 a1 a2 = r) (hs0 : shp a0 = (6, 0)) : Ct g mX6_has [.ref (ad g a0), .int a1, .int a2] NF σ0 (some (.int (b2i r))) NF σ0 := by
  refine Ct.of (by decide +kernel) (nle rfl) fun hw0 => ?_
  have hw := hw0 rfl
  unfold fX6_has at hr
  change RR g mX6_has (FinR g mX6_has (some (.int (b2i r))) NF σ0) zF 0 [(0, .ref (ad g a0)), (1, .int a1), (2, .int a2)] [] σ0
  refine r_iload_n (pc := 0) (j := 1) dX6_has_0 rfl rfl ?_
  obtain ⟨j28, ej28, hr⟩ := vth_ex hr
  have hj28 : j28 () = r → RR g mX6_has (FinR g mX6_has (some (.int (b2i r))) NF σ0) zF 28 [] [] σ0 := by
    intro  hr
    replace hr := (congrFun ej28 ()).symm.trans hr
    refine r_iconst (pc := 28) (v := (0 : Int32)) dX6_has_28 rfl ?_
    exact l_pz hr (r_zret (pc := 29) (v := b2i false) (ty := .boolean) rfl (b2i_nar _) rfl ⟨Nat.le_refl _, Nat.le_refl _⟩ dX6_has_29)
  refine r_if_lt (pc := 1) (tgt := 28) dX6_has_1 rfl (fun hc => ?_) (fun hc => ?_)
  · replace hr := ite_t hc hr
    exact r_pick (ls1 := []) [] rfl (hj28  hr)
  replace hr := ite_f hc hr
  refine r_iload_n (pc := 4) (j := 1) dX6_has_4 rfl rfl ?_
  refine r_aload_n (pc := 5) (j := 0) dX6_has_5 rfl rfl ?_
  refine gf6_0 (pc := 6) tw_1_31 hs0 dX6_has_6 ?_
  refine r_icmp_ge (pc := 9) (tgt := 28) dX6_has_9 rfl (fun hc => ?_) (fun hc => ?_)
  · replace hr := ite_t hc hr
    exact r_pick (ls1 := []) [] rfl (hj28  hr)
  replace hr := ite_f hc hr
  refine r_iload_n (pc := 12) (j := 2) dX6_has_12 rfl rfl ?_
  refine r_if_lt (pc := 13) (tgt := 28) dX6_has_13 rfl (fun hc => ?_) (fun hc => ?_)
  · replace hr := ite_t hc hr
    exact r_pick (ls1 := []) [] rfl (hj28  hr)
  replace hr := ite_f hc hr
  refine r_iload_n (pc := 16) (j := 2) dX6_has_16 rfl rfl ?_
  refine r_aload_n (pc := 17) (j := 0) dX6_has_17 rfl rfl ?_
  refine gf6_1 (pc := 18) tw_1_36 hs0 dX6_has_18 ?_
  refine r_icmp_ge (pc := 21) (tgt := 28) dX6_has_21 rfl (fun hc => ?_) (fun hc => ?_)
  · replace hr := ite_t hc hr
    exact r_pick (ls1 := []) [] rfl (hj28  hr)
  replace hr := ite_f hc hr
  refine r_iconst (pc := 24) (v := (1 : Int32)) dX6_has_24 rfl ?_
  refine r_goto (pc := 25) (tgt := 29) dX6_has_25 rfl ?_
  exact l_pz hr (r_zret (pc := 29) (v := b2i true) (ty := .boolean) rfl (b2i_nar _) rfl ⟨Nat.le_refl _, Nat.le_refl _⟩ dX6_has_29)

theorem kX6_has {g : GG} {σ0 : SS} {a0 : Nat} {a1 : Int32} {a2 : Int32} {v : Bool} {M : MM} {F : State → Array Value → List Frame → State → Prop} {pc index : Nat} {ls : List (Nat × Value)} {rest : List Value} (hf : fX6_has σ0 a0 a1 a2 = v) (hs0 : shp a0 = (6, 0)) (hl : Cond.methodLink M.1.cls index yX6_has ∈ lw_gt) (hR : mX6_has.2.2.2.2.frames + 1 ≤ M.2.2.2.2.frames ∧ 8 + (mX6_has.2.2.1 + 11) + mX6_has.2.2.2.2.locals ≤ M.2.2.2.2.locals) (hrest : (rest.map fun v => v.category).sum ≤ 8) (hd : decode M.2.1 pc = .ok (.invokevirtual index, 3)) (k : RR g M F zF (pc + 3) ls (.int (b2i v) :: rest) σ0) : RR g M F zF pc ls (.int a2 :: .int a1 :: .ref (ad g a0) :: rest) σ0 :=
  r_callV (z := zF) (N := mX6_has) (nn := 2) (o1 := some (.int (b2i v))) (sX6_has hf hs0) hs0 (by decide) (shp_le hs0 (nle rfl)) (ci := 6) rfl rfl tw_2_174 tw_1_2 hl tw_2_172 tw_2_173 ⟨by decide, by decide, rfl⟩ hR rfl hrest hd ⟨Nat.zero_le _, Nat.zero_le _⟩ rfl (fun h => k)

theorem dX6_at_0 : decode cX6_at 0 = .ok (.aload_n 0, 1) := by decide +kernel
theorem dX6_at_1 : decode cX6_at 1 = .ok (.iload_n 1, 1) := by decide +kernel
theorem dX6_at_2 : decode cX6_at 2 = .ok (.iload_n 2, 1) := by decide +kernel
theorem dX6_at_3 : decode cX6_at 3 = .ok (.invokevirtual 31, 3) := by decide +kernel
theorem dX6_at_6 : decode cX6_at 6 = .ok (.ifCond .eq 19, 3) := by decide +kernel
theorem dX6_at_9 : decode cX6_at 9 = .ok (.aload_n 0, 1) := by decide +kernel
theorem dX6_at_10 : decode cX6_at 10 = .ok (.getfield 9, 3) := by decide +kernel
theorem dX6_at_13 : decode cX6_at 13 = .ok (.iload_n 2, 1) := by decide +kernel
theorem dX6_at_14 : decode cX6_at 14 = .ok (.aload_n 0, 1) := by decide +kernel
theorem dX6_at_15 : decode cX6_at 15 = .ok (.getfield 18, 3) := by decide +kernel
theorem dX6_at_18 : decode cX6_at 18 = .ok (.imul, 1) := by decide +kernel
theorem dX6_at_19 : decode cX6_at 19 = .ok (.iload_n 1, 1) := by decide +kernel
theorem dX6_at_20 : decode cX6_at 20 = .ok (.iadd, 1) := by decide +kernel
theorem dX6_at_21 : decode cX6_at 21 = .ok (.iaload, 1) := by decide +kernel
theorem dX6_at_22 : decode cX6_at 22 = .ok (.goto 4, 3) := by decide +kernel
theorem dX6_at_25 : decode cX6_at 25 = .ok (.iconst 0, 1) := by decide +kernel
theorem dX6_at_26 : decode cX6_at 26 = .ok (.ireturn, 1) := by decide +kernel
def mX6_at : MM := (yX6_at, cX6_at, 3, Option.some Jvm.ClassFile.FieldType.int, { frames := 1, cells := 0, slots := 0, locals := 22 })
def fX6_at (σ0 : SS) (a0 : Nat) (a1 : Int32) (a2 : Int32) : Option Int32 :=
  if (fX6_has σ0 a0 a1 a2) = true then (
    grd (inb ((a2 * (gI σ0 a0 0)) + a1) 1600) <|
    some (gI σ0 (a0 + 1) (Int32.toNatClampNeg ((a2 * (gI σ0 a0 0)) + a1)))
    ) else (
    some (0 : Int32)
    )

set_option maxRecDepth 20000 in
theorem sX6_at {g : GG} {σ0 : SS} {a0 : Nat} {a1 : Int32} {a2 : Int32} {r : Int32} (hr : fX6_at σ0 a0 a1 a2 = some r) (hs0 : shp a0 = (6, 0)) : Ct g mX6_at [.ref (ad g a0), .int a1, .int a2] NF σ0 (some (.int r)) NF σ0 := by
  refine Ct.of (by decide +kernel) (nle rfl) fun hw0 => ?_
  have hw := hw0 rfl
  unfold fX6_at at hr
  change RR g mX6_at (FinR g mX6_at (some (.int r)) NF σ0) zF 0 [(0, .ref (ad g a0)), (1, .int a1), (2, .int a2)] [] σ0
  refine r_aload_n (pc := 0) (j := 0) dX6_at_0 rfl rfl ?_
  refine r_iload_n (pc := 1) (j := 1) dX6_at_1 rfl rfl ?_
  refine r_iload_n (pc := 2) (j := 2) dX6_at_2 rfl rfl ?_
  refine kX6_has (pc := 3) (hf := rfl) hs0 tw_2_171 ⟨nle rfl, nle rfl⟩ (nle rfl) dX6_at_3 ?_
  refine r_ifB_eq (pc := 6) (tgt := 25) dX6_at_6 rfl (fun hc => ?_) (fun hc => ?_)
  · replace hr := ite_f hc hr
    refine r_iconst (pc := 25) (v := (0 : Int32)) dX6_at_25 rfl ?_
    exact l_opi hr (r_iret (pc := 26) (v := (0 : Int32)) rfl rfl ⟨Nat.le_refl _, Nat.le_refl _⟩ dX6_at_26)
  replace hr := ite_t hc hr
  refine r_aload_n (pc := 9) (j := 0) dX6_at_9 rfl rfl ?_
  refine gf6_2 (pc := 10) tw_1_38 hw hs0 dX6_at_10 ?_
  refine r_iload_n (pc := 13) (j := 2) dX6_at_13 rfl rfl ?_
  refine r_aload_n (pc := 14) (j := 0) dX6_at_14 rfl rfl ?_
  refine gf6_0 (pc := 15) tw_1_31 hs0 dX6_at_15 ?_
  refine r_imul (pc := 18) dX6_at_18 ?_
  refine r_iload_n (pc := 19) (j := 1) dX6_at_19 rfl rfl ?_
  refine r_iadd (pc := 20) dX6_at_20 ?_
  obtain ⟨h1, hr⟩ := grd_inv hr
  refine x_iald (pc := 21) (k := (Int32.toNatClampNeg ((a2 * (gI σ0 a0 0)) + a1))) (sh6_2 hs0) h1 rfl dX6_at_21 ?_
  refine r_goto (pc := 22) (tgt := 26) dX6_at_22 rfl ?_
  exact l_opi hr (r_iret (pc := 26) (v := (gI σ0 (a0 + 1) (Int32.toNatClampNeg ((a2 * (gI σ0 a0 0)) + a1)))) rfl rfl ⟨Nat.le_refl _, Nat.le_refl _⟩ dX6_at_26)

theorem kX6_at {g : GG} {σ0 : SS} {a0 : Nat} {a1 : Int32} {a2 : Int32} {v : Int32} {M : MM} {F : State → Array Value → List Frame → State → Prop} {pc index : Nat} {ls : List (Nat × Value)} {rest : List Value} (hf : fX6_at σ0 a0 a1 a2 = some v) (hs0 : shp a0 = (6, 0)) (hl : Cond.methodLink M.1.cls index yX6_at ∈ lw_gt) (hR : mX6_at.2.2.2.2.frames + 1 ≤ M.2.2.2.2.frames ∧ 8 + (mX6_at.2.2.1 + 11) + mX6_at.2.2.2.2.locals ≤ M.2.2.2.2.locals) (hrest : (rest.map fun v => v.category).sum ≤ 8) (hd : decode M.2.1 pc = .ok (.invokevirtual index, 3)) (k : RR g M F zF (pc + 3) ls (.int v :: rest) σ0) : RR g M F zF pc ls (.int a2 :: .int a1 :: .ref (ad g a0) :: rest) σ0 :=
  r_callV (z := zF) (N := mX6_at) (nn := 2) (o1 := some (.int v)) (sX6_at hf hs0) hs0 (by decide) (shp_le hs0 (nle rfl)) (ci := 6) rfl rfl tw_2_170 tw_1_2 hl tw_2_168 tw_2_169 ⟨by decide, by decide, rfl⟩ hR rfl hrest hd ⟨Nat.zero_le _, Nat.zero_le _⟩ rfl (fun h => k)

theorem dX3_darkOf_0 : decode cX3_darkOf 0 = .ok (.iconst 0, 1) := by decide +kernel
theorem dX3_darkOf_1 : decode cX3_darkOf 1 = .ok (.istore 4, 2) := by decide +kernel
theorem dX3_darkOf_3 : decode cX3_darkOf 3 = .ok (.aload_n 2, 1) := by decide +kernel
theorem dX3_darkOf_4 : decode cX3_darkOf 4 = .ok (.getfield 115, 3) := by decide +kernel
theorem dX3_darkOf_7 : decode cX3_darkOf 7 = .ok (.iload_n 3, 1) := by decide +kernel
theorem dX3_darkOf_8 : decode cX3_darkOf 8 = .ok (.iaload, 1) := by decide +kernel
theorem dX3_darkOf_9 : decode cX3_darkOf 9 = .ok (.istore 5, 2) := by decide +kernel
theorem dX3_darkOf_11 : decode cX3_darkOf 11 = .ok (.aload_n 2, 1) := by decide +kernel
theorem dX3_darkOf_12 : decode cX3_darkOf 12 = .ok (.getfield 118, 3) := by decide +kernel
theorem dX3_darkOf_15 : decode cX3_darkOf 15 = .ok (.iload_n 3, 1) := by decide +kernel
theorem dX3_darkOf_16 : decode cX3_darkOf 16 = .ok (.iaload, 1) := by decide +kernel
theorem dX3_darkOf_17 : decode cX3_darkOf 17 = .ok (.istore 6, 2) := by decide +kernel
theorem dX3_darkOf_19 : decode cX3_darkOf 19 = .ok (.iload 6, 2) := by decide +kernel
theorem dX3_darkOf_21 : decode cX3_darkOf 21 = .ok (.istore 7, 2) := by decide +kernel
theorem dX3_darkOf_23 : decode cX3_darkOf 23 = .ok (.iload 7, 2) := by decide +kernel
theorem dX3_darkOf_25 : decode cX3_darkOf 25 = .ok (.iload 6, 2) := by decide +kernel
theorem dX3_darkOf_27 : decode cX3_darkOf 27 = .ok (.aload_n 2, 1) := by decide +kernel
theorem dX3_darkOf_28 : decode cX3_darkOf 28 = .ok (.getfield 121, 3) := by decide +kernel
theorem dX3_darkOf_31 : decode cX3_darkOf 31 = .ok (.iadd, 1) := by decide +kernel
theorem dX3_darkOf_32 : decode cX3_darkOf 32 = .ok (.if_icmp .ge 78, 3) := by decide +kernel
theorem dX3_darkOf_35 : decode cX3_darkOf 35 = .ok (.iload 5, 2) := by decide +kernel
theorem dX3_darkOf_37 : decode cX3_darkOf 37 = .ok (.istore 8, 2) := by decide +kernel
theorem dX3_darkOf_39 : decode cX3_darkOf 39 = .ok (.iload 8, 2) := by decide +kernel
theorem dX3_darkOf_41 : decode cX3_darkOf 41 = .ok (.iload 5, 2) := by decide +kernel
theorem dX3_darkOf_43 : decode cX3_darkOf 43 = .ok (.aload_n 2, 1) := by decide +kernel
theorem dX3_darkOf_44 : decode cX3_darkOf 44 = .ok (.getfield 124, 3) := by decide +kernel
theorem dX3_darkOf_47 : decode cX3_darkOf 47 = .ok (.iadd, 1) := by decide +kernel
theorem dX3_darkOf_48 : decode cX3_darkOf 48 = .ok (.if_icmp .ge 56, 3) := by decide +kernel
theorem dX3_darkOf_51 : decode cX3_darkOf 51 = .ok (.iload 4, 2) := by decide +kernel
theorem dX3_darkOf_53 : decode cX3_darkOf 53 = .ok (.aload_n 1, 1) := by decide +kernel
theorem dX3_darkOf_54 : decode cX3_darkOf 54 = .ok (.aload_n 0, 1) := by decide +kernel
theorem dX3_darkOf_55 : decode cX3_darkOf 55 = .ok (.getfield 28, 3) := by decide +kernel
theorem dX3_darkOf_58 : decode cX3_darkOf 58 = .ok (.iconst 2, 1) := by decide +kernel
theorem dX3_darkOf_59 : decode cX3_darkOf 59 = .ok (.iload 8, 2) := by decide +kernel
theorem dX3_darkOf_61 : decode cX3_darkOf 61 = .ok (.imul, 1) := by decide +kernel
theorem dX3_darkOf_62 : decode cX3_darkOf 62 = .ok (.iconst 1, 1) := by decide +kernel
theorem dX3_darkOf_63 : decode cX3_darkOf 63 = .ok (.iadd, 1) := by decide +kernel
theorem dX3_darkOf_64 : decode cX3_darkOf 64 = .ok (.iconst 2, 1) := by decide +kernel
theorem dX3_darkOf_65 : decode cX3_darkOf 65 = .ok (.iload 7, 2) := by decide +kernel
theorem dX3_darkOf_67 : decode cX3_darkOf 67 = .ok (.imul, 1) := by decide +kernel
theorem dX3_darkOf_68 : decode cX3_darkOf 68 = .ok (.iconst 1, 1) := by decide +kernel
theorem dX3_darkOf_69 : decode cX3_darkOf 69 = .ok (.iadd, 1) := by decide +kernel
theorem dX3_darkOf_70 : decode cX3_darkOf 70 = .ok (.invokevirtual 127, 3) := by decide +kernel
theorem dX3_darkOf_73 : decode cX3_darkOf 73 = .ok (.aload_n 0, 1) := by decide +kernel
theorem dX3_darkOf_74 : decode cX3_darkOf 74 = .ok (.getfield 28, 3) := by decide +kernel
theorem dX3_darkOf_77 : decode cX3_darkOf 77 = .ok (.iconst 2, 1) := by decide +kernel
theorem dX3_darkOf_78 : decode cX3_darkOf 78 = .ok (.iload 8, 2) := by decide +kernel
theorem dX3_darkOf_80 : decode cX3_darkOf 80 = .ok (.imul, 1) := by decide +kernel
theorem dX3_darkOf_81 : decode cX3_darkOf 81 = .ok (.iconst 1, 1) := by decide +kernel
theorem dX3_darkOf_82 : decode cX3_darkOf 82 = .ok (.iadd, 1) := by decide +kernel
theorem dX3_darkOf_83 : decode cX3_darkOf 83 = .ok (.iconst 2, 1) := by decide +kernel
theorem dX3_darkOf_84 : decode cX3_darkOf 84 = .ok (.iload 7, 2) := by decide +kernel
theorem dX3_darkOf_86 : decode cX3_darkOf 86 = .ok (.imul, 1) := by decide +kernel
theorem dX3_darkOf_87 : decode cX3_darkOf 87 = .ok (.iconst 1, 1) := by decide +kernel
theorem dX3_darkOf_88 : decode cX3_darkOf 88 = .ok (.iadd, 1) := by decide +kernel
theorem dX3_darkOf_89 : decode cX3_darkOf 89 = .ok (.invokevirtual 130, 3) := by decide +kernel
theorem dX3_darkOf_92 : decode cX3_darkOf 92 = .ok (.invokevirtual 133, 3) := by decide +kernel
theorem dX3_darkOf_95 : decode cX3_darkOf 95 = .ok (.iadd, 1) := by decide +kernel
theorem dX3_darkOf_96 : decode cX3_darkOf 96 = .ok (.istore 4, 2) := by decide +kernel
theorem dX3_darkOf_98 : decode cX3_darkOf 98 = .ok (.iinc 8 1, 3) := by decide +kernel
theorem dX3_darkOf_101 : decode cX3_darkOf 101 = .ok (.goto (-62), 3) := by decide +kernel
theorem dX3_darkOf_104 : decode cX3_darkOf 104 = .ok (.iinc 7 1, 3) := by decide +kernel
theorem dX3_darkOf_107 : decode cX3_darkOf 107 = .ok (.goto (-84), 3) := by decide +kernel
theorem dX3_darkOf_110 : decode cX3_darkOf 110 = .ok (.iload 4, 2) := by decide +kernel
theorem dX3_darkOf_112 : decode cX3_darkOf 112 = .ok (.ireturn, 1) := by decide +kernel
def mX3_darkOf : MM := (yX3_darkOf, cX3_darkOf, 9, Option.some Jvm.ClassFile.FieldType.int, { frames := 2, cells := 0, slots := 0, locals := 45 })
def X3_darkOf_L39 (σ_ : SS) (o1_ : Nat) (o2_ : Nat) (u5_ : Int32) (u7_ : Int32) (k104 : Int32 → Option Int32) : Nat → Int32 → Int32 → Option Int32 :=
  lp (fun _ _ => none) fun rec v4_ v8_ =>
    if (u5_ + (gI σ_ o2_ 3)) ≤ v8_ then (
      k104 v4_
      ) else (
      bnd1 (fX5_dotX σ_ (((2 : Int32) * v8_) + (1 : Int32)) (((2 : Int32) * u7_) + (1 : Int32))) fun v4 =>
      bnd1 (fX5_dotY σ_ (((2 : Int32) * v8_) + (1 : Int32)) (((2 : Int32) * u7_) + (1 : Int32))) fun v7 =>
      bnd1 (fX6_at σ_ o1_ v4 v7) fun v10 =>
      vthen (v4_ + v10) fun v13 =>
      rec v13 (v8_ + (1 : Int32))
      )

def X3_darkOf_L23 (σ_ : SS) (o1_ : Nat) (o2_ : Nat) (u5_ : Int32) (u6_ : Int32)  : Nat → Int32 → Int32 → Option Int32 :=
  lp (fun _ _ => none) fun rec v4_ v7_ =>
    if (u6_ + (gI σ_ o2_ 4)) ≤ v7_ then (
      some v4_
      ) else (
      X3_darkOf_L39 σ_ o1_ o2_ u5_ v7_
      (fun v14 =>
        rec v14 (v7_ + (1 : Int32))
        )
      fuel v4_ u5_
      )

def fX3_darkOf (σ0 : SS) (a1 : Nat) (a2 : Nat) (a3 : Int32) : Option Int32 :=
  grd (inb a3 72) <|
  vthen (gI σ0 (a2 + 6) (Int32.toNatClampNeg a3)) fun v2 =>
  vthen (gI σ0 (a2 + 7) (Int32.toNatClampNeg a3)) fun v3 =>
  X3_darkOf_L23 σ0 a1 a2 v2 v3
  fuel (0 : Int32) v3

set_option maxRecDepth 20000 in
theorem sX3_darkOf_L39 {g : GG} {r : Int32} {σ_ : SS} {σ0 : SS} {o1_ : Nat} {o2_ : Nat} {u5_ : Int32} {x6_ : Int32} {u7_ : Int32} {k104 : Int32 → Option Int32} (hs1_ : shp o1_ = (6, 0)) (hs2_ : shp o2_ = (1, 0))
    (hw_ : WT σ_)
    (h0_ : σ_ = σ0)
    (hk104 : ∀ (y4 : Int32), k104 y4 = some r → RR g mX3_darkOf (FinR g mX3_darkOf (some (.int r)) NF σ0) zF 104 [(0, .ref (ad g 31)), (1, .ref (ad g o1_)), (2, .ref (ad g o2_)), (4, .int y4), (5, .int u5_), (6, .int x6_), (7, .int u7_)] [] σ_)
    (n : Nat) : ∀ (v4_ : Int32) (v8_ : Int32), X3_darkOf_L39 σ_ o1_ o2_ u5_ u7_ k104 n v4_ v8_ = some r → RR g mX3_darkOf (FinR g mX3_darkOf (some (.int r)) NF σ0) zF 39 [(0, .ref (ad g 31)), (1, .ref (ad g o1_)), (2, .ref (ad g o2_)), (4, .int v4_), (5, .int u5_), (6, .int x6_), (7, .int u7_), (8, .int v8_)] [] σ_ := by
  unfold X3_darkOf_L39
  refine lp_ind (P := fun (rec : Int32 → Int32 → Option Int32) => ∀ (v4_ : Int32) (v8_ : Int32), rec v4_ v8_ = some r → RR g mX3_darkOf (FinR g mX3_darkOf (some (.int r)) NF σ0) zF 39 [(0, .ref (ad g 31)), (1, .ref (ad g o1_)), (2, .ref (ad g o2_)), (4, .int v4_), (5, .int u5_), (6, .int x6_), (7, .int u7_), (8, .int v8_)] [] σ_) ?_ ?_ n
  · intro v4_ v8_ hr; cases hr
  intro rec ih v4_ v8_ hr
  subst h0_
  refine r_iload (pc := 39) (j := 7) dX3_darkOf_39 rfl ?_
  refine r_iload (pc := 41) (j := 4) dX3_darkOf_41 rfl ?_
  refine r_aload_n (pc := 43) (j := 2) dX3_darkOf_43 rfl rfl ?_
  refine gf1_3 (pc := 44) tw_1_71 hs2_ dX3_darkOf_44 ?_
  refine r_iadd (pc := 47) dX3_darkOf_47 ?_
  refine r_icmp_ge (pc := 48) (tgt := 104) dX3_darkOf_48 rfl (fun hc => ?_) (fun hc => ?_)
  · replace hr := ite_t hc hr
    exact r_pick (ls1 := [(0, .ref (ad g 31)), (1, .ref (ad g o1_)), (2, .ref (ad g o2_)), (4, .int v4_), (5, .int u5_), (6, .int x6_), (7, .int u7_)]) [0, 1, 2, 3, 4, 5, 6] rfl (hk104 v4_ hr)
  replace hr := ite_f hc hr
  refine r_iload (pc := 51) (j := 3) dX3_darkOf_51 rfl ?_
  refine r_aload_n (pc := 53) (j := 1) dX3_darkOf_53 rfl rfl ?_
  refine r_aload_n (pc := 54) (j := 0) dX3_darkOf_54 rfl rfl ?_
  refine gf3_3 (pc := 55) tw_2_26 hw_ dX3_darkOf_55 ?_
  refine r_iconst (pc := 58) (v := (2 : Int32)) dX3_darkOf_58 rfl ?_
  refine r_iload (pc := 59) (j := 7) dX3_darkOf_59 rfl ?_
  refine r_imul (pc := 61) dX3_darkOf_61 ?_
  refine r_iconst (pc := 62) (v := (1 : Int32)) dX3_darkOf_62 rfl ?_
  refine r_iadd (pc := 63) dX3_darkOf_63 ?_
  refine r_iconst (pc := 64) (v := (2 : Int32)) dX3_darkOf_64 rfl ?_
  refine r_iload (pc := 65) (j := 6) dX3_darkOf_65 rfl ?_
  refine r_imul (pc := 67) dX3_darkOf_67 ?_
  refine r_iconst (pc := 68) (v := (1 : Int32)) dX3_darkOf_68 rfl ?_
  refine r_iadd (pc := 69) dX3_darkOf_69 ?_
  obtain ⟨v4, hv4, hr⟩ := bnd1_inv hr
  refine kX5_dotX (pc := 70) hv4 tw_3_27 ⟨nle rfl, nle rfl⟩ (nle rfl) dX3_darkOf_70 ?_
  refine r_aload_n (pc := 73) (j := 0) dX3_darkOf_73 rfl rfl ?_
  refine gf3_3 (pc := 74) tw_2_26 hw_ dX3_darkOf_74 ?_
  refine r_iconst (pc := 77) (v := (2 : Int32)) dX3_darkOf_77 rfl ?_
  refine r_iload (pc := 78) (j := 7) dX3_darkOf_78 rfl ?_
  refine r_imul (pc := 80) dX3_darkOf_80 ?_
  refine r_iconst (pc := 81) (v := (1 : Int32)) dX3_darkOf_81 rfl ?_
  refine r_iadd (pc := 82) dX3_darkOf_82 ?_
  refine r_iconst (pc := 83) (v := (2 : Int32)) dX3_darkOf_83 rfl ?_
  refine r_iload (pc := 84) (j := 6) dX3_darkOf_84 rfl ?_
  refine r_imul (pc := 86) dX3_darkOf_86 ?_
  refine r_iconst (pc := 87) (v := (1 : Int32)) dX3_darkOf_87 rfl ?_
  refine r_iadd (pc := 88) dX3_darkOf_88 ?_
  obtain ⟨v7, hv7, hr⟩ := bnd1_inv hr
  refine kX5_dotY (pc := 89) hv7 tw_3_40 ⟨nle rfl, nle rfl⟩ (nle rfl) dX3_darkOf_89 ?_
  obtain ⟨v10, hv10, hr⟩ := bnd1_inv hr
  refine kX6_at (pc := 92) hv10 hs1_ tw_3_44 ⟨nle rfl, nle rfl⟩ (nle rfl) dX3_darkOf_92 ?_
  refine r_iadd (pc := 95) dX3_darkOf_95 ?_
  refine r_topi fun v13 ev13 => ?_
  replace hr := vthen_inv hr v13 ev13
  refine r_istore (pc := 96) (ls1 := [(4, .int v13), (0, .ref (ad g 31)), (1, .ref (ad g o1_)), (2, .ref (ad g o2_)), (5, .int u5_), (6, .int x6_), (7, .int u7_), (8, .int v8_)]) dX3_darkOf_96 (nle rfl) rfl ?_
  refine r_iinc (pc := 98) (j := 7) (v := (v8_ + (1 : Int32))) (ls1 := [(8, .int (v8_ + (1 : Int32))), (4, .int v13), (0, .ref (ad g 31)), (1, .ref (ad g o1_)), (2, .ref (ad g o2_)), (5, .int u5_), (6, .int x6_), (7, .int u7_)]) dX3_darkOf_98 rfl rfl (nle rfl) rfl ?_
  refine r_goto (pc := 101) (tgt := 39) dX3_darkOf_101 rfl ?_
  exact r_pick (ls1 := [(0, .ref (ad g 31)), (1, .ref (ad g o1_)), (2, .ref (ad g o2_)), (4, .int v13), (5, .int u5_), (6, .int x6_), (7, .int u7_), (8, .int (v8_ + (1 : Int32)))]) [2, 3, 4, 1, 5, 6, 7, 0] rfl (ih v13 (v8_ + (1 : Int32)) hr)

set_option maxRecDepth 20000 in
theorem sX3_darkOf_L23 {g : GG} {r : Int32} {σ_ : SS} {σ0 : SS} {o1_ : Nat} {o2_ : Nat} {u5_ : Int32} {u6_ : Int32}  (hs1_ : shp o1_ = (6, 0)) (hs2_ : shp o2_ = (1, 0))
    (hw_ : WT σ_)
    (h0_ : σ_ = σ0)
    (n : Nat) : ∀ (v4_ : Int32) (v7_ : Int32), X3_darkOf_L23 σ_ o1_ o2_ u5_ u6_ n v4_ v7_ = some r → RR g mX3_darkOf (FinR g mX3_darkOf (some (.int r)) NF σ0) zF 23 [(0, .ref (ad g 31)), (1, .ref (ad g o1_)), (2, .ref (ad g o2_)), (4, .int v4_), (5, .int u5_), (6, .int u6_), (7, .int v7_)] [] σ_ := by
  unfold X3_darkOf_L23
  refine lp_ind (P := fun (rec : Int32 → Int32 → Option Int32) => ∀ (v4_ : Int32) (v7_ : Int32), rec v4_ v7_ = some r → RR g mX3_darkOf (FinR g mX3_darkOf (some (.int r)) NF σ0) zF 23 [(0, .ref (ad g 31)), (1, .ref (ad g o1_)), (2, .ref (ad g o2_)), (4, .int v4_), (5, .int u5_), (6, .int u6_), (7, .int v7_)] [] σ_) ?_ ?_ n
  · intro v4_ v7_ hr; cases hr
  intro rec ih v4_ v7_ hr
  subst h0_
  refine r_iload (pc := 23) (j := 6) dX3_darkOf_23 rfl ?_
  refine r_iload (pc := 25) (j := 5) dX3_darkOf_25 rfl ?_
  refine r_aload_n (pc := 27) (j := 2) dX3_darkOf_27 rfl rfl ?_
  refine gf1_4 (pc := 28) tw_1_75 hs2_ dX3_darkOf_28 ?_
  refine r_iadd (pc := 31) dX3_darkOf_31 ?_
  refine r_icmp_ge (pc := 32) (tgt := 110) dX3_darkOf_32 rfl (fun hc => ?_) (fun hc => ?_)
  · replace hr := ite_t hc hr
    refine r_iload (pc := 110) (j := 3) dX3_darkOf_110 rfl ?_
    exact l_opi hr (r_iret (pc := 112) (v := v4_) rfl rfl ⟨Nat.le_refl _, Nat.le_refl _⟩ dX3_darkOf_112)
  replace hr := ite_f hc hr
  refine r_iload (pc := 35) (j := 4) dX3_darkOf_35 rfl ?_
  refine r_istore (pc := 37) (ls1 := [(8, .int u5_), (0, .ref (ad g 31)), (1, .ref (ad g o1_)), (2, .ref (ad g o2_)), (4, .int v4_), (5, .int u5_), (6, .int u6_), (7, .int v7_)]) dX3_darkOf_37 (nle rfl) rfl ?_
  refine r_pick (ls1 := [(0, .ref (ad g 31)), (1, .ref (ad g o1_)), (2, .ref (ad g o2_)), (4, .int v4_), (5, .int u5_), (6, .int u6_), (7, .int v7_), (8, .int u5_)]) [1, 2, 3, 4, 5, 6, 7, 0] rfl ?_
  refine sX3_darkOf_L39 hs1_ hs2_ hw_ rfl (fun v14 hr => ?_) fuel v4_ u5_ hr
  refine r_iinc (pc := 104) (j := 6) (v := (v7_ + (1 : Int32))) (ls1 := [(7, .int (v7_ + (1 : Int32))), (0, .ref (ad g 31)), (1, .ref (ad g o1_)), (2, .ref (ad g o2_)), (4, .int v14), (5, .int u5_), (6, .int u6_)]) dX3_darkOf_104 rfl rfl (nle rfl) rfl ?_
  refine r_goto (pc := 107) (tgt := 23) dX3_darkOf_107 rfl ?_
  exact r_pick (ls1 := [(0, .ref (ad g 31)), (1, .ref (ad g o1_)), (2, .ref (ad g o2_)), (4, .int v14), (5, .int u5_), (6, .int u6_), (7, .int (v7_ + (1 : Int32)))]) [1, 2, 3, 4, 5, 6, 0] rfl (ih v14 (v7_ + (1 : Int32)) hr)

set_option maxRecDepth 20000 in
theorem sX3_darkOf {g : GG} {σ0 : SS} {a1 : Nat} {a2 : Nat} {a3 : Int32} {r : Int32} (hr : fX3_darkOf σ0 a1 a2 a3 = some r) (hs1 : shp a1 = (6, 0)) (hs2 : shp a2 = (1, 0)) : Ct g mX3_darkOf [.ref (ad g 31), .ref (ad g a1), .ref (ad g a2), .int a3] NF σ0 (some (.int r)) NF σ0 := by
  refine Ct.of (by decide +kernel) (nle rfl) fun hw0 => ?_
  have hw := hw0 rfl
  unfold fX3_darkOf at hr
  change RR g mX3_darkOf (FinR g mX3_darkOf (some (.int r)) NF σ0) zF 0 [(0, .ref (ad g 31)), (1, .ref (ad g a1)), (2, .ref (ad g a2)), (3, .int a3)] [] σ0
  refine r_iconst (pc := 0) (v := (0 : Int32)) dX3_darkOf_0 rfl ?_
  refine r_istore (pc := 1) (ls1 := [(4, .int (0 : Int32)), (0, .ref (ad g 31)), (1, .ref (ad g a1)), (2, .ref (ad g a2)), (3, .int a3)]) dX3_darkOf_1 (nle rfl) rfl ?_
  refine r_aload_n (pc := 3) (j := 3) dX3_darkOf_3 rfl rfl ?_
  refine gf1_12 (pc := 4) tw_1_103 hw hs2 dX3_darkOf_4 ?_
  refine r_iload_n (pc := 7) (j := 4) dX3_darkOf_7 rfl rfl ?_
  obtain ⟨h1, hr⟩ := grd_inv hr
  refine x_iald (pc := 8) (k := (Int32.toNatClampNeg a3)) (sh1_12 hs2) h1 rfl dX3_darkOf_8 ?_
  refine r_topi fun v2 ev2 => ?_
  replace hr := vthen_inv hr v2 ev2
  refine r_istore (pc := 9) (ls1 := [(5, .int v2), (4, .int (0 : Int32)), (0, .ref (ad g 31)), (1, .ref (ad g a1)), (2, .ref (ad g a2)), (3, .int a3)]) dX3_darkOf_9 (nle rfl) rfl ?_
  refine r_aload_n (pc := 11) (j := 4) dX3_darkOf_11 rfl rfl ?_
  refine gf1_13 (pc := 12) tw_1_106 hw hs2 dX3_darkOf_12 ?_
  refine r_iload_n (pc := 15) (j := 5) dX3_darkOf_15 rfl rfl ?_
  refine x_iald (pc := 16) (k := (Int32.toNatClampNeg a3)) (sh1_13 hs2) h1 rfl dX3_darkOf_16 ?_
  refine r_topi fun v3 ev3 => ?_
  replace hr := vthen_inv hr v3 ev3
  refine r_istore (pc := 17) (ls1 := [(6, .int v3), (5, .int v2), (4, .int (0 : Int32)), (0, .ref (ad g 31)), (1, .ref (ad g a1)), (2, .ref (ad g a2)), (3, .int a3)]) dX3_darkOf_17 (nle rfl) rfl ?_
  refine r_iload (pc := 19) (j := 0) dX3_darkOf_19 rfl ?_
  refine r_istore (pc := 21) (ls1 := [(7, .int v3), (6, .int v3), (5, .int v2), (4, .int (0 : Int32)), (0, .ref (ad g 31)), (1, .ref (ad g a1)), (2, .ref (ad g a2)), (3, .int a3)]) dX3_darkOf_21 (nle rfl) rfl ?_
  refine r_pick (ls1 := [(0, .ref (ad g 31)), (1, .ref (ad g a1)), (2, .ref (ad g a2)), (4, .int (0 : Int32)), (5, .int v2), (6, .int v3), (7, .int v3)]) [4, 5, 6, 3, 2, 1, 0] rfl ?_
  refine sX3_darkOf_L23 hs1 hs2 hw rfl  fuel (0 : Int32) v3 hr

theorem kX3_darkOf {g : GG} {σ0 : SS} {a1 : Nat} {a2 : Nat} {a3 : Int32} {v : Int32} {M : MM} {F : State → Array Value → List Frame → State → Prop} {pc index : Nat} {ls : List (Nat × Value)} {rest : List Value} (hf : fX3_darkOf σ0 a1 a2 a3 = some v) (hs1 : shp a1 = (6, 0)) (hs2 : shp a2 = (1, 0)) (hl : Cond.methodLink M.1.cls index yX3_darkOf ∈ lw_gt) (hR : mX3_darkOf.2.2.2.2.frames + 1 ≤ M.2.2.2.2.frames ∧ 8 + (mX3_darkOf.2.2.1 + 11) + mX3_darkOf.2.2.2.2.locals ≤ M.2.2.2.2.locals) (hrest : (rest.map fun v => v.category).sum ≤ 8) (hd : decode M.2.1 pc = .ok (.invokevirtual index, 3)) (k : RR g M F zF (pc + 3) ls (.int v :: rest) σ0) : RR g M F zF pc ls (.int a3 :: .ref (ad g a2) :: .ref (ad g a1) :: .ref (ad g 31) :: rest) σ0 :=
  r_callV (z := zF) (N := mX3_darkOf) (nn := 3) (o1 := some (.int v)) (sX3_darkOf hf hs1 hs2) (rfl : shp 31 = (3, 0)) (by decide) (shp_le (rfl : shp 31 = (3, 0)) (nle rfl)) (ci := 3) rfl rfl tw_3_26 tw_1_5 hl tw_3_25 tp_5 ⟨by decide, by decide, rfl⟩ hR rfl hrest hd ⟨Nat.zero_le _, Nat.zero_le _⟩ rfl (fun h => k)

theorem dX3_measure_0 : decode cX3_measure 0 = .ok (.aload_n 0, 1) := by decide +kernel
theorem dX3_measure_1 : decode cX3_measure 1 = .ok (.aload_n 1, 1) := by decide +kernel
theorem dX3_measure_2 : decode cX3_measure 2 = .ok (.invokevirtual 87, 3) := by decide +kernel
theorem dX3_measure_5 : decode cX3_measure 5 = .ok (.ifCond .ne 5, 3) := by decide +kernel
theorem dX3_measure_8 : decode cX3_measure 8 = .ok (.iconst 0, 1) := by decide +kernel
theorem dX3_measure_9 : decode cX3_measure 9 = .ok (.ireturn, 1) := by decide +kernel
theorem dX3_measure_10 : decode cX3_measure 10 = .ok (.aload_n 0, 1) := by decide +kernel
theorem dX3_measure_11 : decode cX3_measure 11 = .ok (.getfield 28, 3) := by decide +kernel
theorem dX3_measure_14 : decode cX3_measure 14 = .ok (.aload_n 2, 1) := by decide +kernel
theorem dX3_measure_15 : decode cX3_measure 15 = .ok (.getfield 91, 3) := by decide +kernel
theorem dX3_measure_18 : decode cX3_measure 18 = .ok (.aload_n 2, 1) := by decide +kernel
theorem dX3_measure_19 : decode cX3_measure 19 = .ok (.getfield 94, 3) := by decide +kernel
theorem dX3_measure_22 : decode cX3_measure 22 = .ok (.invokevirtual 95, 3) := by decide +kernel
theorem dX3_measure_25 : decode cX3_measure 25 = .ok (.iconst 0, 1) := by decide +kernel
theorem dX3_measure_26 : decode cX3_measure 26 = .ok (.istore_n 3, 1) := by decide +kernel
theorem dX3_measure_27 : decode cX3_measure 27 = .ok (.iload_n 3, 1) := by decide +kernel
theorem dX3_measure_28 : decode cX3_measure 28 = .ok (.aload_n 2, 1) := by decide +kernel
theorem dX3_measure_29 : decode cX3_measure 29 = .ok (.getfield 99, 3) := by decide +kernel
theorem dX3_measure_32 : decode cX3_measure 32 = .ok (.if_icmp .ge 52, 3) := by decide +kernel
theorem dX3_measure_35 : decode cX3_measure 35 = .ok (.aload_n 0, 1) := by decide +kernel
theorem dX3_measure_36 : decode cX3_measure 36 = .ok (.getfield 32, 3) := by decide +kernel
theorem dX3_measure_39 : decode cX3_measure 39 = .ok (.iload_n 3, 1) := by decide +kernel
theorem dX3_measure_40 : decode cX3_measure 40 = .ok (.aload_n 0, 1) := by decide +kernel
theorem dX3_measure_41 : decode cX3_measure 41 = .ok (.aload_n 1, 1) := by decide +kernel
theorem dX3_measure_42 : decode cX3_measure 42 = .ok (.aload_n 2, 1) := by decide +kernel
theorem dX3_measure_43 : decode cX3_measure 43 = .ok (.iload_n 3, 1) := by decide +kernel
theorem dX3_measure_44 : decode cX3_measure 44 = .ok (.invokevirtual 102, 3) := by decide +kernel
theorem dX3_measure_47 : decode cX3_measure 47 = .ok (.iastore, 1) := by decide +kernel
theorem dX3_measure_48 : decode cX3_measure 48 = .ok (.aload_n 0, 1) := by decide +kernel
theorem dX3_measure_49 : decode cX3_measure 49 = .ok (.iload_n 3, 1) := by decide +kernel
theorem dX3_measure_50 : decode cX3_measure 50 = .ok (.ifCond .ne 12, 3) := by decide +kernel
theorem dX3_measure_53 : decode cX3_measure 53 = .ok (.aload_n 0, 1) := by decide +kernel
theorem dX3_measure_54 : decode cX3_measure 54 = .ok (.getfield 32, 3) := by decide +kernel
theorem dX3_measure_57 : decode cX3_measure 57 = .ok (.iload_n 3, 1) := by decide +kernel
theorem dX3_measure_58 : decode cX3_measure 58 = .ok (.iaload, 1) := by decide +kernel
theorem dX3_measure_59 : decode cX3_measure 59 = .ok (.goto 16, 3) := by decide +kernel
theorem dX3_measure_62 : decode cX3_measure 62 = .ok (.aload_n 0, 1) := by decide +kernel
theorem dX3_measure_63 : decode cX3_measure 63 = .ok (.getfield 106, 3) := by decide +kernel
theorem dX3_measure_66 : decode cX3_measure 66 = .ok (.aload_n 0, 1) := by decide +kernel
theorem dX3_measure_67 : decode cX3_measure 67 = .ok (.getfield 32, 3) := by decide +kernel
theorem dX3_measure_70 : decode cX3_measure 70 = .ok (.iload_n 3, 1) := by decide +kernel
theorem dX3_measure_71 : decode cX3_measure 71 = .ok (.iaload, 1) := by decide +kernel
theorem dX3_measure_72 : decode cX3_measure 72 = .ok (.invokestatic 109, 3) := by decide +kernel
theorem dX3_measure_75 : decode cX3_measure 75 = .ok (.putfield 106, 3) := by decide +kernel
theorem dX3_measure_78 : decode cX3_measure 78 = .ok (.iinc 3 1, 3) := by decide +kernel
theorem dX3_measure_81 : decode cX3_measure 81 = .ok (.goto (-54), 3) := by decide +kernel
theorem dX3_measure_84 : decode cX3_measure 84 = .ok (.iconst 1, 1) := by decide +kernel
theorem dX3_measure_85 : decode cX3_measure 85 = .ok (.ireturn, 1) := by decide +kernel
def mX3_measure : MM := (yX3_measure, cX3_measure, 4, Option.some Jvm.ClassFile.FieldType.boolean, { frames := 4, cells := 0, slots := 0, locals := 102 })
def X3_measure_L27 (o1_ : Nat) (o2_ : Nat)  : Nat → Int32 → SS → Option (Bool × SS) :=
  lp (fun _ _ => none) fun rec v3_ σ_ =>
    if (gI σ_ o2_ 6) ≤ v3_ then (
      some (true, σ_)
      ) else (
      bnd1 (fX3_darkOf σ_ o1_ o2_ v3_) fun v6 =>
      grd (inb v3_ 72) <|
      vthen (sI σ_ 51 (Int32.toNatClampNeg v3_) v6) fun σ10 =>
      vthen (fun (s11 : Int32) =>
        vthen (sI σ10 31 6 s11) fun σ12 =>
        rec (v3_ + (1 : Int32)) σ12
        ) fun j75 =>
      if v3_ = 0 then (
        j75 (gI σ10 51 (Int32.toNatClampNeg v3_))
        ) else (
        j75 (fJ9_min_7cf53 σ10 (gI σ10 31 6) (gI σ10 51 (Int32.toNatClampNeg v3_)))
        )
      )

def fX3_measure (σ : SS) (a1 : Nat) (a2 : Nat) : Option (Bool × SS) :=
  bnd (fX3_locate σ a1) fun b2 σ4 =>
  if b2 = true then (
    bnd1 (fX5_spread σ4 (gI σ4 a2 1) (gI σ4 a2 2)) fun σ5 =>
    X3_measure_L27 a1 a2
    fuel (0 : Int32) σ5
    ) else (
    some (false, σ4)
    )

set_option maxRecDepth 20000 in
theorem sX3_measure_L27 {g : GG} {r : Bool × SS} {o1_ : Nat} {o2_ : Nat}  (hs1_ : shp o1_ = (6, 0)) (hs2_ : shp o2_ = (1, 0))
    (n : Nat) : ∀ (v3_ : Int32) (σ_ : SS), X3_measure_L27 o1_ o2_ n v3_ σ_ = some r → WT σ_ → RR g mX3_measure (FinR g mX3_measure (some (.int (b2i r.1))) NF r.2) zF 27 [(0, .ref (ad g 31)), (1, .ref (ad g o1_)), (2, .ref (ad g o2_)), (3, .int v3_)] [] σ_ := by
  unfold X3_measure_L27
  refine lp_ind (P := fun (rec : Int32 → SS → Option (Bool × SS)) => ∀ (v3_ : Int32) (σ_ : SS), rec v3_ σ_ = some r → WT σ_ → RR g mX3_measure (FinR g mX3_measure (some (.int (b2i r.1))) NF r.2) zF 27 [(0, .ref (ad g 31)), (1, .ref (ad g o1_)), (2, .ref (ad g o2_)), (3, .int v3_)] [] σ_) ?_ ?_ n
  · intro v3_ σ_ hr; cases hr
  intro rec ih v3_ σ_ hr hw_
  refine r_iload_n (pc := 27) (j := 3) dX3_measure_27 rfl rfl ?_
  refine r_aload_n (pc := 28) (j := 2) dX3_measure_28 rfl rfl ?_
  refine gf1_6 (pc := 29) tw_1_82 hs2_ dX3_measure_29 ?_
  refine r_icmp_ge (pc := 32) (tgt := 84) dX3_measure_32 rfl (fun hc => ?_) (fun hc => ?_)
  · replace hr := ite_t hc hr
    refine r_iconst (pc := 84) (v := (1 : Int32)) dX3_measure_84 rfl ?_
    exact l_osz hr (r_zret (pc := 85) (v := b2i true) (ty := .boolean) rfl (b2i_nar _) rfl ⟨Nat.le_refl _, Nat.le_refl _⟩ dX3_measure_85)
  replace hr := ite_f hc hr
  refine r_aload_n (pc := 35) (j := 0) dX3_measure_35 rfl rfl ?_
  refine gf3_4 (pc := 36) tw_2_28 hw_ dX3_measure_36 ?_
  refine r_iload_n (pc := 39) (j := 3) dX3_measure_39 rfl rfl ?_
  refine r_aload_n (pc := 40) (j := 0) dX3_measure_40 rfl rfl ?_
  refine r_aload_n (pc := 41) (j := 1) dX3_measure_41 rfl rfl ?_
  refine r_aload_n (pc := 42) (j := 2) dX3_measure_42 rfl rfl ?_
  refine r_iload_n (pc := 43) (j := 3) dX3_measure_43 rfl rfl ?_
  obtain ⟨v6, hv6, hr⟩ := bnd1_inv hr
  refine kX3_darkOf (pc := 44) hv6 hs1_ hs2_ tw_3_23 ⟨nle rfl, nle rfl⟩ (nle rfl) dX3_measure_44 ?_
  obtain ⟨h9, hr⟩ := grd_inv hr
  refine x_iast (pc := 47) (j := (Int32.toNatClampNeg v3_)) rfl h9 rfl dX3_measure_47 fun σ10 eσ10 => ?_
  replace hr := vthen_inv hr σ10 eσ10
  have hσ10 := wtI eσ10 hw_
  refine r_aload_n (pc := 48) (j := 0) dX3_measure_48 rfl rfl ?_
  refine r_iload_n (pc := 49) (j := 3) dX3_measure_49 rfl rfl ?_
  obtain ⟨j75, ej75, hr⟩ := vth_ex hr
  have hj75 : ∀ (s11 : Int32), j75 s11 = some r → RR g mX3_measure (FinR g mX3_measure (some (.int (b2i r.1))) NF r.2) zF 75 [(0, .ref (ad g 31)), (1, .ref (ad g o1_)), (2, .ref (ad g o2_)), (3, .int v3_)] [.int s11, .ref (ad g 31)] σ10 := by
    intro s11 hr
    replace hr := (congrFun ej75 s11).symm.trans hr
    refine pf3_6 (pc := 75) tw_2_31 rfl dX3_measure_75 fun σ12 eσ12 => ?_
    replace hr := vthen_inv hr σ12 eσ12
    have hσ12 := wtI eσ12 hσ10
    refine r_iinc (pc := 78) (j := 3) (v := (v3_ + (1 : Int32))) (ls1 := [(3, .int (v3_ + (1 : Int32))), (0, .ref (ad g 31)), (1, .ref (ad g o1_)), (2, .ref (ad g o2_))]) dX3_measure_78 rfl rfl (nle rfl) rfl ?_
    refine r_goto (pc := 81) (tgt := 27) dX3_measure_81 rfl ?_
    exact r_pick (ls1 := [(0, .ref (ad g 31)), (1, .ref (ad g o1_)), (2, .ref (ad g o2_)), (3, .int (v3_ + (1 : Int32)))]) [1, 2, 3, 0] rfl (ih (v3_ + (1 : Int32)) σ12 hr hσ12)
  refine r_if_ne (pc := 50) (tgt := 62) dX3_measure_50 rfl (fun hc => ?_) (fun hc => ?_)
  · replace hr := ite_f hc hr
    refine r_aload_n (pc := 62) (j := 0) dX3_measure_62 rfl rfl ?_
    refine gf3_6 (pc := 63) tw_2_31 rfl dX3_measure_63 ?_
    refine r_aload_n (pc := 66) (j := 0) dX3_measure_66 rfl rfl ?_
    refine gf3_4 (pc := 67) tw_2_28 hσ10 dX3_measure_67 ?_
    refine r_iload_n (pc := 70) (j := 3) dX3_measure_70 rfl rfl ?_
    refine x_iald (pc := 71) (k := (Int32.toNatClampNeg v3_)) rfl h9 rfl dX3_measure_71 ?_
    refine kJ9_min_7cf53 (pc := 72) (hf := rfl) tw_3_45 ⟨nle rfl, nle rfl⟩ (nle rfl) dX3_measure_72 ?_
    exact r_pick (ls1 := [(0, .ref (ad g 31)), (1, .ref (ad g o1_)), (2, .ref (ad g o2_)), (3, .int v3_)]) [0, 1, 2, 3] rfl (hj75 (fJ9_min_7cf53 σ10 (gI σ10 31 6) (gI σ10 51 (Int32.toNatClampNeg v3_))) hr)
  replace hr := ite_t hc hr
  refine r_aload_n (pc := 53) (j := 0) dX3_measure_53 rfl rfl ?_
  refine gf3_4 (pc := 54) tw_2_28 hσ10 dX3_measure_54 ?_
  refine r_iload_n (pc := 57) (j := 3) dX3_measure_57 rfl rfl ?_
  refine x_iald (pc := 58) (k := (Int32.toNatClampNeg v3_)) rfl h9 rfl dX3_measure_58 ?_
  refine r_goto (pc := 59) (tgt := 75) dX3_measure_59 rfl ?_
  exact r_pick (ls1 := [(0, .ref (ad g 31)), (1, .ref (ad g o1_)), (2, .ref (ad g o2_)), (3, .int v3_)]) [0, 1, 2, 3] rfl (hj75 (gI σ10 51 (Int32.toNatClampNeg v3_)) hr)

set_option maxRecDepth 20000 in
theorem sX3_measure {g : GG} {σ : SS} {a1 : Nat} {a2 : Nat} {r : Bool × SS} (hr : fX3_measure σ a1 a2 = some r) (hs1 : shp a1 = (6, 0)) (hs2 : shp a2 = (1, 0)) : Ct g mX3_measure [.ref (ad g 31), .ref (ad g a1), .ref (ad g a2)] NF σ (some (.int (b2i r.1))) NF r.2 := by
  refine Ct.of (by decide +kernel) (nle rfl) fun hw0 => ?_
  have hw := hw0 rfl
  unfold fX3_measure at hr
  change RR g mX3_measure (FinR g mX3_measure (some (.int (b2i r.1))) NF r.2) zF 0 [(0, .ref (ad g 31)), (1, .ref (ad g a1)), (2, .ref (ad g a2))] [] σ
  refine r_aload_n (pc := 0) (j := 0) dX3_measure_0 rfl rfl ?_
  refine r_aload_n (pc := 1) (j := 1) dX3_measure_1 rfl rfl ?_
  obtain ⟨b2, σ4, eσ4, hr⟩ := bnd_inv hr
  refine kX3_locate (pc := 2) eσ4 hs1 tw_3_18 ⟨nle rfl, nle rfl⟩ (nle rfl) dX3_measure_2 fun hσ4 => ?_
  refine r_ifB_ne (pc := 5) (tgt := 10) dX3_measure_5 rfl (fun hc => ?_) (fun hc => ?_)
  · replace hr := ite_t hc hr
    refine r_aload_n (pc := 10) (j := 0) dX3_measure_10 rfl rfl ?_
    refine gf3_3 (pc := 11) tw_2_26 hσ4 dX3_measure_11 ?_
    refine r_aload_n (pc := 14) (j := 2) dX3_measure_14 rfl rfl ?_
    refine gf1_1 (pc := 15) tw_1_63 hs2 dX3_measure_15 ?_
    refine r_aload_n (pc := 18) (j := 2) dX3_measure_18 rfl rfl ?_
    refine gf1_2 (pc := 19) tw_1_67 hs2 dX3_measure_19 ?_
    obtain ⟨σ5, eσ5, hr⟩ := bnd1_inv hr
    refine kX5_spread (pc := 22) eσ5 tw_3_19 ⟨nle rfl, nle rfl⟩ (nle rfl) dX3_measure_22 fun hσ5 => ?_
    refine r_iconst (pc := 25) (v := (0 : Int32)) dX3_measure_25 rfl ?_
    refine r_istore_n (pc := 26) (ls1 := [(3, .int (0 : Int32)), (0, .ref (ad g 31)), (1, .ref (ad g a1)), (2, .ref (ad g a2))]) dX3_measure_26 rfl (nle rfl) rfl ?_
    refine r_pick (ls1 := [(0, .ref (ad g 31)), (1, .ref (ad g a1)), (2, .ref (ad g a2)), (3, .int (0 : Int32))]) [1, 2, 3, 0] rfl ?_
    refine sX3_measure_L27 hs1 hs2    fuel (0 : Int32) σ5 hr hσ5
  replace hr := ite_f hc hr
  refine r_iconst (pc := 8) (v := (0 : Int32)) dX3_measure_8 rfl ?_
  exact l_osz hr (r_zret (pc := 9) (v := b2i false) (ty := .boolean) rfl (b2i_nar _) rfl ⟨Nat.le_refl _, Nat.le_refl _⟩ dX3_measure_9)

theorem kX3_measure {g : GG} {σ : SS} {a1 : Nat} {a2 : Nat} {v : Bool} {σ2 : SS} {M : MM} {F : State → Array Value → List Frame → State → Prop} {pc index : Nat} {ls : List (Nat × Value)} {rest : List Value} (hf : fX3_measure σ a1 a2 = some (v, σ2)) (hs1 : shp a1 = (6, 0)) (hs2 : shp a2 = (1, 0)) (hl : Cond.methodLink M.1.cls index yX3_measure ∈ lw_gt) (hR : mX3_measure.2.2.2.2.frames + 1 ≤ M.2.2.2.2.frames ∧ 8 + (mX3_measure.2.2.1 + 11) + mX3_measure.2.2.2.2.locals ≤ M.2.2.2.2.locals) (hrest : (rest.map fun v => v.category).sum ≤ 8) (hd : decode M.2.1 pc = .ok (.invokevirtual index, 3)) (k : WT σ2 → RR g M F zF (pc + 3) ls (.int (b2i v) :: rest) σ2) : RR g M F zF pc ls (.ref (ad g a2) :: .ref (ad g a1) :: .ref (ad g 31) :: rest) σ :=
  r_callV (z := zF) (N := mX3_measure) (nn := 2) (o1 := some (.int (b2i v))) (sX3_measure hf hs1 hs2) (rfl : shp 31 = (3, 0)) (by decide) (shp_le (rfl : shp 31 = (3, 0)) (nle rfl)) (ci := 3) rfl rfl tw_3_17 tw_1_5 hl tw_3_15 tw_3_16 ⟨by decide, by decide, rfl⟩ hR rfl hrest hd ⟨Nat.zero_le _, Nat.zero_le _⟩ rfl (fun h => k (h rfl))

theorem dX3_sortByDark_0 : decode cX3_sortByDark 0 = .ok (.iconst 0, 1) := by decide +kernel
theorem dX3_sortByDark_1 : decode cX3_sortByDark 1 = .ok (.istore_n 3, 1) := by decide +kernel
theorem dX3_sortByDark_2 : decode cX3_sortByDark 2 = .ok (.iload_n 3, 1) := by decide +kernel
theorem dX3_sortByDark_3 : decode cX3_sortByDark 3 = .ok (.iload_n 2, 1) := by decide +kernel
theorem dX3_sortByDark_4 : decode cX3_sortByDark 4 = .ok (.if_icmp .ge 77, 3) := by decide +kernel
theorem dX3_sortByDark_7 : decode cX3_sortByDark 7 = .ok (.iload_n 1, 1) := by decide +kernel
theorem dX3_sortByDark_8 : decode cX3_sortByDark 8 = .ok (.iload_n 3, 1) := by decide +kernel
theorem dX3_sortByDark_9 : decode cX3_sortByDark 9 = .ok (.iadd, 1) := by decide +kernel
theorem dX3_sortByDark_10 : decode cX3_sortByDark 10 = .ok (.istore 4, 2) := by decide +kernel
theorem dX3_sortByDark_12 : decode cX3_sortByDark 12 = .ok (.iload_n 3, 1) := by decide +kernel
theorem dX3_sortByDark_13 : decode cX3_sortByDark 13 = .ok (.istore 5, 2) := by decide +kernel
theorem dX3_sortByDark_15 : decode cX3_sortByDark 15 = .ok (.iload 5, 2) := by decide +kernel
theorem dX3_sortByDark_17 : decode cX3_sortByDark 17 = .ok (.ifCond .le 49, 3) := by decide +kernel
theorem dX3_sortByDark_20 : decode cX3_sortByDark 20 = .ok (.aload_n 0, 1) := by decide +kernel
theorem dX3_sortByDark_21 : decode cX3_sortByDark 21 = .ok (.getfield 32, 3) := by decide +kernel
theorem dX3_sortByDark_24 : decode cX3_sortByDark 24 = .ok (.aload_n 0, 1) := by decide +kernel
theorem dX3_sortByDark_25 : decode cX3_sortByDark 25 = .ok (.getfield 35, 3) := by decide +kernel
theorem dX3_sortByDark_28 : decode cX3_sortByDark 28 = .ok (.iload 5, 2) := by decide +kernel
theorem dX3_sortByDark_30 : decode cX3_sortByDark 30 = .ok (.iconst 1, 1) := by decide +kernel
theorem dX3_sortByDark_31 : decode cX3_sortByDark 31 = .ok (.isub, 1) := by decide +kernel
theorem dX3_sortByDark_32 : decode cX3_sortByDark 32 = .ok (.iaload, 1) := by decide +kernel
theorem dX3_sortByDark_33 : decode cX3_sortByDark 33 = .ok (.iaload, 1) := by decide +kernel
theorem dX3_sortByDark_34 : decode cX3_sortByDark 34 = .ok (.aload_n 0, 1) := by decide +kernel
theorem dX3_sortByDark_35 : decode cX3_sortByDark 35 = .ok (.getfield 32, 3) := by decide +kernel
theorem dX3_sortByDark_38 : decode cX3_sortByDark 38 = .ok (.iload 4, 2) := by decide +kernel
theorem dX3_sortByDark_40 : decode cX3_sortByDark 40 = .ok (.iaload, 1) := by decide +kernel
theorem dX3_sortByDark_41 : decode cX3_sortByDark 41 = .ok (.if_icmp .ge 25, 3) := by decide +kernel
theorem dX3_sortByDark_44 : decode cX3_sortByDark 44 = .ok (.aload_n 0, 1) := by decide +kernel
theorem dX3_sortByDark_45 : decode cX3_sortByDark 45 = .ok (.getfield 35, 3) := by decide +kernel
theorem dX3_sortByDark_48 : decode cX3_sortByDark 48 = .ok (.iload 5, 2) := by decide +kernel
theorem dX3_sortByDark_50 : decode cX3_sortByDark 50 = .ok (.aload_n 0, 1) := by decide +kernel
theorem dX3_sortByDark_51 : decode cX3_sortByDark 51 = .ok (.getfield 35, 3) := by decide +kernel
theorem dX3_sortByDark_54 : decode cX3_sortByDark 54 = .ok (.iload 5, 2) := by decide +kernel
theorem dX3_sortByDark_56 : decode cX3_sortByDark 56 = .ok (.iconst 1, 1) := by decide +kernel
theorem dX3_sortByDark_57 : decode cX3_sortByDark 57 = .ok (.isub, 1) := by decide +kernel
theorem dX3_sortByDark_58 : decode cX3_sortByDark 58 = .ok (.iaload, 1) := by decide +kernel
theorem dX3_sortByDark_59 : decode cX3_sortByDark 59 = .ok (.iastore, 1) := by decide +kernel
theorem dX3_sortByDark_60 : decode cX3_sortByDark 60 = .ok (.iinc 5 (-1), 3) := by decide +kernel
theorem dX3_sortByDark_63 : decode cX3_sortByDark 63 = .ok (.goto (-48), 3) := by decide +kernel
theorem dX3_sortByDark_66 : decode cX3_sortByDark 66 = .ok (.aload_n 0, 1) := by decide +kernel
theorem dX3_sortByDark_67 : decode cX3_sortByDark 67 = .ok (.getfield 35, 3) := by decide +kernel
theorem dX3_sortByDark_70 : decode cX3_sortByDark 70 = .ok (.iload 5, 2) := by decide +kernel
theorem dX3_sortByDark_72 : decode cX3_sortByDark 72 = .ok (.iload 4, 2) := by decide +kernel
theorem dX3_sortByDark_74 : decode cX3_sortByDark 74 = .ok (.iastore, 1) := by decide +kernel
theorem dX3_sortByDark_75 : decode cX3_sortByDark 75 = .ok (.iinc 3 1, 3) := by decide +kernel
theorem dX3_sortByDark_78 : decode cX3_sortByDark 78 = .ok (.goto (-76), 3) := by decide +kernel
theorem dX3_sortByDark_81 : decode cX3_sortByDark 81 = .ok (.return_, 1) := by decide +kernel
def mX3_sortByDark : MM := (yX3_sortByDark, cX3_sortByDark, 6, none, { frames := 0, cells := 0, slots := 0, locals := 0 })
def X3_sortByDark_L15 (u4_ : Int32) (k66 : Int32 → SS → Option SS) : Nat → Int32 → SS → Option SS :=
  lp (fun _ _ => none) fun rec v5_ σ_ =>
    if v5_ ≤ 0 then (
      k66 v5_ σ_
      ) else (
      grd (inb (v5_ - (1 : Int32)) 72) <|
      grd (inb (gI σ_ 52 (Int32.toNatClampNeg (v5_ - (1 : Int32)))) 72) <|
      grd (inb u4_ 72) <|
      if (gI σ_ 51 (Int32.toNatClampNeg u4_)) ≤ (gI σ_ 51 (Int32.toNatClampNeg (gI σ_ 52 (Int32.toNatClampNeg (v5_ - (1 : Int32)))))) then (
        k66 v5_ σ_
        ) else (
        grd (inb v5_ 72) <|
        vthen (sI σ_ 52 (Int32.toNatClampNeg v5_) (gI σ_ 52 (Int32.toNatClampNeg (v5_ - (1 : Int32))))) fun σ6 =>
        rec (v5_ + (-1 : Int32)) σ6
        )
      )

def X3_sortByDark_L2 (u1_ : Int32) (u2_ : Int32)  : Nat → Int32 → SS → Option SS :=
  lp (fun _ _ => none) fun rec v3_ σ_ =>
    if u2_ ≤ v3_ then (
      some σ_
      ) else (
      vthen (u1_ + v3_) fun v1 =>
      X3_sortByDark_L15 v1
      (fun v7 σ8 =>
        grd (inb v7 72) <|
        vthen (sI σ8 52 (Int32.toNatClampNeg v7) v1) fun σ10 =>
        rec (v3_ + (1 : Int32)) σ10
        )
      fuel v3_ σ_
      )

def fX3_sortByDark (σ : SS) (a1 : Int32) (a2 : Int32) : Option SS :=
  X3_sortByDark_L2 a1 a2
  fuel (0 : Int32) σ

set_option maxRecDepth 20000 in
theorem sX3_sortByDark_L15 {g : GG} {r : SS} {x1_ : Int32} {x2_ : Int32} {x3_ : Int32} {u4_ : Int32} {k66 : Int32 → SS → Option SS} 
    (hk66 : ∀ (y5 : Int32) (σ_ : SS), k66 y5 σ_ = some r → WT σ_ → RR g mX3_sortByDark (FinR g mX3_sortByDark none NF r) zF 66 [(0, .ref (ad g 31)), (1, .int x1_), (2, .int x2_), (3, .int x3_), (4, .int u4_), (5, .int y5)] [] σ_)
    (n : Nat) : ∀ (v5_ : Int32) (σ_ : SS), X3_sortByDark_L15 u4_ k66 n v5_ σ_ = some r → WT σ_ → RR g mX3_sortByDark (FinR g mX3_sortByDark none NF r) zF 15 [(0, .ref (ad g 31)), (1, .int x1_), (2, .int x2_), (3, .int x3_), (4, .int u4_), (5, .int v5_)] [] σ_ := by
  unfold X3_sortByDark_L15
  refine lp_ind (P := fun (rec : Int32 → SS → Option SS) => ∀ (v5_ : Int32) (σ_ : SS), rec v5_ σ_ = some r → WT σ_ → RR g mX3_sortByDark (FinR g mX3_sortByDark none NF r) zF 15 [(0, .ref (ad g 31)), (1, .int x1_), (2, .int x2_), (3, .int x3_), (4, .int u4_), (5, .int v5_)] [] σ_) ?_ ?_ n
  · intro v5_ σ_ hr; cases hr
  intro rec ih v5_ σ_ hr hw_
  refine r_iload (pc := 15) (j := 5) dX3_sortByDark_15 rfl ?_
  refine r_if_le (pc := 17) (tgt := 66) dX3_sortByDark_17 rfl (fun hc => ?_) (fun hc => ?_)
  · replace hr := ite_t hc hr
    exact r_pick (ls1 := [(0, .ref (ad g 31)), (1, .int x1_), (2, .int x2_), (3, .int x3_), (4, .int u4_), (5, .int v5_)]) [0, 1, 2, 3, 4, 5] rfl (hk66 v5_ σ_ hr hw_)
  replace hr := ite_f hc hr
  refine r_aload_n (pc := 20) (j := 0) dX3_sortByDark_20 rfl rfl ?_
  refine gf3_4 (pc := 21) tw_2_28 hw_ dX3_sortByDark_21 ?_
  refine r_aload_n (pc := 24) (j := 0) dX3_sortByDark_24 rfl rfl ?_
  refine gf3_5 (pc := 25) tw_2_30 hw_ dX3_sortByDark_25 ?_
  refine r_iload (pc := 28) (j := 5) dX3_sortByDark_28 rfl ?_
  refine r_iconst (pc := 30) (v := (1 : Int32)) dX3_sortByDark_30 rfl ?_
  refine r_isub (pc := 31) dX3_sortByDark_31 ?_
  obtain ⟨h2, hr⟩ := grd_inv hr
  refine x_iald (pc := 32) (k := (Int32.toNatClampNeg (v5_ - (1 : Int32)))) rfl h2 rfl dX3_sortByDark_32 ?_
  obtain ⟨h3, hr⟩ := grd_inv hr
  refine x_iald (pc := 33) (k := (Int32.toNatClampNeg (gI σ_ 52 (Int32.toNatClampNeg (v5_ - (1 : Int32)))))) rfl h3 rfl dX3_sortByDark_33 ?_
  refine r_aload_n (pc := 34) (j := 0) dX3_sortByDark_34 rfl rfl ?_
  refine gf3_4 (pc := 35) tw_2_28 hw_ dX3_sortByDark_35 ?_
  refine r_iload (pc := 38) (j := 4) dX3_sortByDark_38 rfl ?_
  obtain ⟨h4, hr⟩ := grd_inv hr
  refine x_iald (pc := 40) (k := (Int32.toNatClampNeg u4_)) rfl h4 rfl dX3_sortByDark_40 ?_
  refine r_icmp_ge (pc := 41) (tgt := 66) dX3_sortByDark_41 rfl (fun hc => ?_) (fun hc => ?_)
  · replace hr := ite_t hc hr
    exact r_pick (ls1 := [(0, .ref (ad g 31)), (1, .int x1_), (2, .int x2_), (3, .int x3_), (4, .int u4_), (5, .int v5_)]) [0, 1, 2, 3, 4, 5] rfl (hk66 v5_ σ_ hr hw_)
  replace hr := ite_f hc hr
  refine r_aload_n (pc := 44) (j := 0) dX3_sortByDark_44 rfl rfl ?_
  refine gf3_5 (pc := 45) tw_2_30 hw_ dX3_sortByDark_45 ?_
  refine r_iload (pc := 48) (j := 5) dX3_sortByDark_48 rfl ?_
  refine r_aload_n (pc := 50) (j := 0) dX3_sortByDark_50 rfl rfl ?_
  refine gf3_5 (pc := 51) tw_2_30 hw_ dX3_sortByDark_51 ?_
  refine r_iload (pc := 54) (j := 5) dX3_sortByDark_54 rfl ?_
  refine r_iconst (pc := 56) (v := (1 : Int32)) dX3_sortByDark_56 rfl ?_
  refine r_isub (pc := 57) dX3_sortByDark_57 ?_
  refine x_iald (pc := 58) (k := (Int32.toNatClampNeg (v5_ - (1 : Int32)))) rfl h2 rfl dX3_sortByDark_58 ?_
  obtain ⟨h5, hr⟩ := grd_inv hr
  refine x_iast (pc := 59) (j := (Int32.toNatClampNeg v5_)) rfl h5 rfl dX3_sortByDark_59 fun σ6 eσ6 => ?_
  replace hr := vthen_inv hr σ6 eσ6
  have hσ6 := wtI eσ6 hw_
  refine r_iinc (pc := 60) (j := 5) (v := (v5_ + (-1 : Int32))) (ls1 := [(5, .int (v5_ + (-1 : Int32))), (0, .ref (ad g 31)), (1, .int x1_), (2, .int x2_), (3, .int x3_), (4, .int u4_)]) dX3_sortByDark_60 rfl rfl (nle rfl) rfl ?_
  refine r_goto (pc := 63) (tgt := 15) dX3_sortByDark_63 rfl ?_
  exact r_pick (ls1 := [(0, .ref (ad g 31)), (1, .int x1_), (2, .int x2_), (3, .int x3_), (4, .int u4_), (5, .int (v5_ + (-1 : Int32)))]) [1, 2, 3, 4, 5, 0] rfl (ih (v5_ + (-1 : Int32)) σ6 hr hσ6)

set_option maxRecDepth 20000 in
theorem sX3_sortByDark_L2 {g : GG} {r : SS} {u1_ : Int32} {u2_ : Int32}  
    (n : Nat) : ∀ (v3_ : Int32) (σ_ : SS), X3_sortByDark_L2 u1_ u2_ n v3_ σ_ = some r → WT σ_ → RR g mX3_sortByDark (FinR g mX3_sortByDark none NF r) zF 2 [(0, .ref (ad g 31)), (1, .int u1_), (2, .int u2_), (3, .int v3_)] [] σ_ := by
  unfold X3_sortByDark_L2
  refine lp_ind (P := fun (rec : Int32 → SS → Option SS) => ∀ (v3_ : Int32) (σ_ : SS), rec v3_ σ_ = some r → WT σ_ → RR g mX3_sortByDark (FinR g mX3_sortByDark none NF r) zF 2 [(0, .ref (ad g 31)), (1, .int u1_), (2, .int u2_), (3, .int v3_)] [] σ_) ?_ ?_ n
  · intro v3_ σ_ hr; cases hr
  intro rec ih v3_ σ_ hr hw_
  refine r_iload_n (pc := 2) (j := 3) dX3_sortByDark_2 rfl rfl ?_
  refine r_iload_n (pc := 3) (j := 2) dX3_sortByDark_3 rfl rfl ?_
  refine r_icmp_ge (pc := 4) (tgt := 81) dX3_sortByDark_4 rfl (fun hc => ?_) (fun hc => ?_)
  · replace hr := ite_t hc hr
    exact l_ov hr (r_vret (pc := 81) rfl rfl ⟨Nat.le_refl _, Nat.le_refl _⟩ dX3_sortByDark_81)
  replace hr := ite_f hc hr
  refine r_iload_n (pc := 7) (j := 1) dX3_sortByDark_7 rfl rfl ?_
  refine r_iload_n (pc := 8) (j := 3) dX3_sortByDark_8 rfl rfl ?_
  refine r_iadd (pc := 9) dX3_sortByDark_9 ?_
  refine r_topi fun v1 ev1 => ?_
  replace hr := vthen_inv hr v1 ev1
  refine r_istore (pc := 10) (ls1 := [(4, .int v1), (0, .ref (ad g 31)), (1, .int u1_), (2, .int u2_), (3, .int v3_)]) dX3_sortByDark_10 (nle rfl) rfl ?_
  refine r_iload_n (pc := 12) (j := 4) dX3_sortByDark_12 rfl rfl ?_
  refine r_istore (pc := 13) (ls1 := [(5, .int v3_), (4, .int v1), (0, .ref (ad g 31)), (1, .int u1_), (2, .int u2_), (3, .int v3_)]) dX3_sortByDark_13 (nle rfl) rfl ?_
  refine r_pick (ls1 := [(0, .ref (ad g 31)), (1, .int u1_), (2, .int u2_), (3, .int v3_), (4, .int v1), (5, .int v3_)]) [2, 3, 4, 5, 1, 0] rfl ?_
  refine sX3_sortByDark_L15    (fun v7 σ8 hr hσ8 => ?_) fuel v3_ σ_ hr hw_
  refine r_aload_n (pc := 66) (j := 0) dX3_sortByDark_66 rfl rfl ?_
  refine gf3_5 (pc := 67) tw_2_30 hσ8 dX3_sortByDark_67 ?_
  refine r_iload (pc := 70) (j := 5) dX3_sortByDark_70 rfl ?_
  refine r_iload (pc := 72) (j := 4) dX3_sortByDark_72 rfl ?_
  obtain ⟨h9, hr⟩ := grd_inv hr
  refine x_iast (pc := 74) (j := (Int32.toNatClampNeg v7)) rfl h9 rfl dX3_sortByDark_74 fun σ10 eσ10 => ?_
  replace hr := vthen_inv hr σ10 eσ10
  have hσ10 := wtI eσ10 hσ8
  refine r_iinc (pc := 75) (j := 3) (v := (v3_ + (1 : Int32))) (ls1 := [(3, .int (v3_ + (1 : Int32))), (0, .ref (ad g 31)), (1, .int u1_), (2, .int u2_), (4, .int v1), (5, .int v7)]) dX3_sortByDark_75 rfl rfl (nle rfl) rfl ?_
  refine r_goto (pc := 78) (tgt := 2) dX3_sortByDark_78 rfl ?_
  exact r_pick (ls1 := [(0, .ref (ad g 31)), (1, .int u1_), (2, .int u2_), (3, .int (v3_ + (1 : Int32)))]) [1, 2, 3, 0] rfl (ih (v3_ + (1 : Int32)) σ10 hr hσ10)

set_option maxRecDepth 20000 in
theorem sX3_sortByDark {g : GG} {σ : SS} {a1 : Int32} {a2 : Int32} {r : SS} (hr : fX3_sortByDark σ a1 a2 = some r)  : Ct g mX3_sortByDark [.ref (ad g 31), .int a1, .int a2] NF σ none NF r := by
  refine Ct.of (by decide +kernel) (nle rfl) fun hw0 => ?_
  have hw := hw0 rfl
  unfold fX3_sortByDark at hr
  change RR g mX3_sortByDark (FinR g mX3_sortByDark none NF r) zF 0 [(0, .ref (ad g 31)), (1, .int a1), (2, .int a2)] [] σ
  refine r_iconst (pc := 0) (v := (0 : Int32)) dX3_sortByDark_0 rfl ?_
  refine r_istore_n (pc := 1) (ls1 := [(3, .int (0 : Int32)), (0, .ref (ad g 31)), (1, .int a1), (2, .int a2)]) dX3_sortByDark_1 rfl (nle rfl) rfl ?_
  refine r_pick (ls1 := [(0, .ref (ad g 31)), (1, .int a1), (2, .int a2), (3, .int (0 : Int32))]) [1, 2, 3, 0] rfl ?_
  refine sX3_sortByDark_L2     fuel (0 : Int32) σ hr hw

theorem kX3_sortByDark {g : GG} {σ : SS} {a1 : Int32} {a2 : Int32} {σ2 : SS} {M : MM} {F : State → Array Value → List Frame → State → Prop} {pc index : Nat} {ls : List (Nat × Value)} {rest : List Value} (hf : fX3_sortByDark σ a1 a2 = some σ2)  (hl : Cond.methodLink M.1.cls index yX3_sortByDark ∈ lw_gt) (hR : mX3_sortByDark.2.2.2.2.frames + 1 ≤ M.2.2.2.2.frames ∧ 8 + (mX3_sortByDark.2.2.1 + 11) + mX3_sortByDark.2.2.2.2.locals ≤ M.2.2.2.2.locals) (hrest : (rest.map fun v => v.category).sum ≤ 8) (hd : decode M.2.1 pc = .ok (.invokevirtual index, 3)) (k : WT σ2 → RR g M F zF (pc + 3) ls rest σ2) : RR g M F zF pc ls (.int a2 :: .int a1 :: .ref (ad g 31) :: rest) σ :=
  r_callV (z := zF) (N := mX3_sortByDark) (nn := 2) (o1 := none) (sX3_sortByDark hf ) (rfl : shp 31 = (3, 0)) (by decide) (shp_le (rfl : shp 31 = (3, 0)) (nle rfl)) (ci := 3) rfl rfl tw_3_53 tw_1_5 hl tw_3_52 tp_9 ⟨by decide, by decide, rfl⟩ hR rfl hrest hd ⟨Nat.zero_le _, Nat.zero_le _⟩ rfl (fun h => k (h rfl))

theorem dX3_judgeQuestion_0 : decode cX3_judgeQuestion 0 = .ok (.aload_n 1, 1) := by decide +kernel
theorem dX3_judgeQuestion_1 : decode cX3_judgeQuestion 1 = .ok (.getfield 151, 3) := by decide +kernel
theorem dX3_judgeQuestion_4 : decode cX3_judgeQuestion 4 = .ok (.iload_n 2, 1) := by decide +kernel
theorem dX3_judgeQuestion_5 : decode cX3_judgeQuestion 5 = .ok (.iaload, 1) := by decide +kernel
theorem dX3_judgeQuestion_6 : decode cX3_judgeQuestion 6 = .ok (.istore_n 3, 1) := by decide +kernel
theorem dX3_judgeQuestion_7 : decode cX3_judgeQuestion 7 = .ok (.aload_n 1, 1) := by decide +kernel
theorem dX3_judgeQuestion_8 : decode cX3_judgeQuestion 8 = .ok (.getfield 154, 3) := by decide +kernel
theorem dX3_judgeQuestion_11 : decode cX3_judgeQuestion 11 = .ok (.iload_n 2, 1) := by decide +kernel
theorem dX3_judgeQuestion_12 : decode cX3_judgeQuestion 12 = .ok (.iaload, 1) := by decide +kernel
theorem dX3_judgeQuestion_13 : decode cX3_judgeQuestion 13 = .ok (.istore 4, 2) := by decide +kernel
theorem dX3_judgeQuestion_15 : decode cX3_judgeQuestion 15 = .ok (.aload_n 0, 1) := by decide +kernel
theorem dX3_judgeQuestion_16 : decode cX3_judgeQuestion 16 = .ok (.iload_n 3, 1) := by decide +kernel
theorem dX3_judgeQuestion_17 : decode cX3_judgeQuestion 17 = .ok (.iload 4, 2) := by decide +kernel
theorem dX3_judgeQuestion_19 : decode cX3_judgeQuestion 19 = .ok (.invokevirtual 157, 3) := by decide +kernel
theorem dX3_judgeQuestion_22 : decode cX3_judgeQuestion 22 = .ok (.iconst 0, 1) := by decide +kernel
theorem dX3_judgeQuestion_23 : decode cX3_judgeQuestion 23 = .ok (.istore 5, 2) := by decide +kernel
theorem dX3_judgeQuestion_25 : decode cX3_judgeQuestion 25 = .ok (.iconst (-1), 1) := by decide +kernel
theorem dX3_judgeQuestion_26 : decode cX3_judgeQuestion 26 = .ok (.istore 6, 2) := by decide +kernel
theorem dX3_judgeQuestion_28 : decode cX3_judgeQuestion 28 = .ok (.iconst 0, 1) := by decide +kernel
theorem dX3_judgeQuestion_29 : decode cX3_judgeQuestion 29 = .ok (.istore 7, 2) := by decide +kernel
theorem dX3_judgeQuestion_31 : decode cX3_judgeQuestion 31 = .ok (.iload 7, 2) := by decide +kernel
theorem dX3_judgeQuestion_33 : decode cX3_judgeQuestion 33 = .ok (.iload 4, 2) := by decide +kernel
theorem dX3_judgeQuestion_35 : decode cX3_judgeQuestion 35 = .ok (.if_icmp .ge 84, 3) := by decide +kernel
theorem dX3_judgeQuestion_38 : decode cX3_judgeQuestion 38 = .ok (.iload 7, 2) := by decide +kernel
theorem dX3_judgeQuestion_40 : decode cX3_judgeQuestion 40 = .ok (.iconst 1, 1) := by decide +kernel
theorem dX3_judgeQuestion_41 : decode cX3_judgeQuestion 41 = .ok (.iadd, 1) := by decide +kernel
theorem dX3_judgeQuestion_42 : decode cX3_judgeQuestion 42 = .ok (.iload 4, 2) := by decide +kernel
theorem dX3_judgeQuestion_44 : decode cX3_judgeQuestion 44 = .ok (.if_icmp .ge 20, 3) := by decide +kernel
theorem dX3_judgeQuestion_47 : decode cX3_judgeQuestion 47 = .ok (.aload_n 0, 1) := by decide +kernel
theorem dX3_judgeQuestion_48 : decode cX3_judgeQuestion 48 = .ok (.getfield 32, 3) := by decide +kernel
theorem dX3_judgeQuestion_51 : decode cX3_judgeQuestion 51 = .ok (.aload_n 0, 1) := by decide +kernel
theorem dX3_judgeQuestion_52 : decode cX3_judgeQuestion 52 = .ok (.getfield 35, 3) := by decide +kernel
theorem dX3_judgeQuestion_55 : decode cX3_judgeQuestion 55 = .ok (.iload 7, 2) := by decide +kernel
theorem dX3_judgeQuestion_57 : decode cX3_judgeQuestion 57 = .ok (.iconst 1, 1) := by decide +kernel
theorem dX3_judgeQuestion_58 : decode cX3_judgeQuestion 58 = .ok (.iadd, 1) := by decide +kernel
theorem dX3_judgeQuestion_59 : decode cX3_judgeQuestion 59 = .ok (.iaload, 1) := by decide +kernel
theorem dX3_judgeQuestion_60 : decode cX3_judgeQuestion 60 = .ok (.iaload, 1) := by decide +kernel
theorem dX3_judgeQuestion_61 : decode cX3_judgeQuestion 61 = .ok (.goto 7, 3) := by decide +kernel
theorem dX3_judgeQuestion_64 : decode cX3_judgeQuestion 64 = .ok (.aload_n 0, 1) := by decide +kernel
theorem dX3_judgeQuestion_65 : decode cX3_judgeQuestion 65 = .ok (.getfield 106, 3) := by decide +kernel
theorem dX3_judgeQuestion_68 : decode cX3_judgeQuestion 68 = .ok (.istore 8, 2) := by decide +kernel
theorem dX3_judgeQuestion_70 : decode cX3_judgeQuestion 70 = .ok (.aload_n 0, 1) := by decide +kernel
theorem dX3_judgeQuestion_71 : decode cX3_judgeQuestion 71 = .ok (.getfield 32, 3) := by decide +kernel
theorem dX3_judgeQuestion_74 : decode cX3_judgeQuestion 74 = .ok (.aload_n 0, 1) := by decide +kernel
theorem dX3_judgeQuestion_75 : decode cX3_judgeQuestion 75 = .ok (.getfield 35, 3) := by decide +kernel
theorem dX3_judgeQuestion_78 : decode cX3_judgeQuestion 78 = .ok (.iload 7, 2) := by decide +kernel
theorem dX3_judgeQuestion_80 : decode cX3_judgeQuestion 80 = .ok (.iaload, 1) := by decide +kernel
theorem dX3_judgeQuestion_81 : decode cX3_judgeQuestion 81 = .ok (.iaload, 1) := by decide +kernel
theorem dX3_judgeQuestion_82 : decode cX3_judgeQuestion 82 = .ok (.iload 8, 2) := by decide +kernel
theorem dX3_judgeQuestion_84 : decode cX3_judgeQuestion 84 = .ok (.isub, 1) := by decide +kernel
theorem dX3_judgeQuestion_85 : decode cX3_judgeQuestion 85 = .ok (.iload 6, 2) := by decide +kernel
theorem dX3_judgeQuestion_87 : decode cX3_judgeQuestion 87 = .ok (.if_icmp .le 26, 3) := by decide +kernel
theorem dX3_judgeQuestion_90 : decode cX3_judgeQuestion 90 = .ok (.aload_n 0, 1) := by decide +kernel
theorem dX3_judgeQuestion_91 : decode cX3_judgeQuestion 91 = .ok (.getfield 32, 3) := by decide +kernel
theorem dX3_judgeQuestion_94 : decode cX3_judgeQuestion 94 = .ok (.aload_n 0, 1) := by decide +kernel
theorem dX3_judgeQuestion_95 : decode cX3_judgeQuestion 95 = .ok (.getfield 35, 3) := by decide +kernel
theorem dX3_judgeQuestion_98 : decode cX3_judgeQuestion 98 = .ok (.iload 7, 2) := by decide +kernel
theorem dX3_judgeQuestion_100 : decode cX3_judgeQuestion 100 = .ok (.iaload, 1) := by decide +kernel
theorem dX3_judgeQuestion_101 : decode cX3_judgeQuestion 101 = .ok (.iaload, 1) := by decide +kernel
theorem dX3_judgeQuestion_102 : decode cX3_judgeQuestion 102 = .ok (.iload 8, 2) := by decide +kernel
theorem dX3_judgeQuestion_104 : decode cX3_judgeQuestion 104 = .ok (.isub, 1) := by decide +kernel
theorem dX3_judgeQuestion_105 : decode cX3_judgeQuestion 105 = .ok (.istore 6, 2) := by decide +kernel
theorem dX3_judgeQuestion_107 : decode cX3_judgeQuestion 107 = .ok (.iload 7, 2) := by decide +kernel
theorem dX3_judgeQuestion_109 : decode cX3_judgeQuestion 109 = .ok (.iconst 1, 1) := by decide +kernel
theorem dX3_judgeQuestion_110 : decode cX3_judgeQuestion 110 = .ok (.iadd, 1) := by decide +kernel
theorem dX3_judgeQuestion_111 : decode cX3_judgeQuestion 111 = .ok (.istore 5, 2) := by decide +kernel
theorem dX3_judgeQuestion_113 : decode cX3_judgeQuestion 113 = .ok (.iinc 7 1, 3) := by decide +kernel
theorem dX3_judgeQuestion_116 : decode cX3_judgeQuestion 116 = .ok (.goto (-85), 3) := by decide +kernel
theorem dX3_judgeQuestion_119 : decode cX3_judgeQuestion 119 = .ok (.aload_n 0, 1) := by decide +kernel
theorem dX3_judgeQuestion_120 : decode cX3_judgeQuestion 120 = .ok (.getfield 47, 3) := by decide +kernel
theorem dX3_judgeQuestion_123 : decode cX3_judgeQuestion 123 = .ok (.iload_n 2, 1) := by decide +kernel
theorem dX3_judgeQuestion_124 : decode cX3_judgeQuestion 124 = .ok (.iload 6, 2) := by decide +kernel
theorem dX3_judgeQuestion_126 : decode cX3_judgeQuestion 126 = .ok (.iastore, 1) := by decide +kernel
theorem dX3_judgeQuestion_127 : decode cX3_judgeQuestion 127 = .ok (.aload_n 0, 1) := by decide +kernel
theorem dX3_judgeQuestion_128 : decode cX3_judgeQuestion 128 = .ok (.getfield 41, 3) := by decide +kernel
theorem dX3_judgeQuestion_131 : decode cX3_judgeQuestion 131 = .ok (.iload_n 2, 1) := by decide +kernel
theorem dX3_judgeQuestion_132 : decode cX3_judgeQuestion 132 = .ok (.iconst 0, 1) := by decide +kernel
theorem dX3_judgeQuestion_133 : decode cX3_judgeQuestion 133 = .ok (.iastore, 1) := by decide +kernel
theorem dX3_judgeQuestion_134 : decode cX3_judgeQuestion 134 = .ok (.iload 6, 2) := by decide +kernel
theorem dX3_judgeQuestion_136 : decode cX3_judgeQuestion 136 = .ok (.aload_n 0, 1) := by decide +kernel
theorem dX3_judgeQuestion_137 : decode cX3_judgeQuestion 137 = .ok (.getfield 9, 3) := by decide +kernel
theorem dX3_judgeQuestion_140 : decode cX3_judgeQuestion 140 = .ok (.iconst 3, 1) := by decide +kernel
theorem dX3_judgeQuestion_141 : decode cX3_judgeQuestion 141 = .ok (.iaload, 1) := by decide +kernel
theorem dX3_judgeQuestion_142 : decode cX3_judgeQuestion 142 = .ok (.if_icmp .ge 30, 3) := by decide +kernel
theorem dX3_judgeQuestion_145 : decode cX3_judgeQuestion 145 = .ok (.iconst 0, 1) := by decide +kernel
theorem dX3_judgeQuestion_146 : decode cX3_judgeQuestion 146 = .ok (.istore 5, 2) := by decide +kernel
theorem dX3_judgeQuestion_148 : decode cX3_judgeQuestion 148 = .ok (.aload_n 0, 1) := by decide +kernel
theorem dX3_judgeQuestion_149 : decode cX3_judgeQuestion 149 = .ok (.getfield 41, 3) := by decide +kernel
theorem dX3_judgeQuestion_152 : decode cX3_judgeQuestion 152 = .ok (.iload_n 2, 1) := by decide +kernel
theorem dX3_judgeQuestion_153 : decode cX3_judgeQuestion 153 = .ok (.iconst 2, 1) := by decide +kernel
theorem dX3_judgeQuestion_154 : decode cX3_judgeQuestion 154 = .ok (.iload 6, 2) := by decide +kernel
theorem dX3_judgeQuestion_156 : decode cX3_judgeQuestion 156 = .ok (.imul, 1) := by decide +kernel
theorem dX3_judgeQuestion_157 : decode cX3_judgeQuestion 157 = .ok (.aload_n 0, 1) := by decide +kernel
theorem dX3_judgeQuestion_158 : decode cX3_judgeQuestion 158 = .ok (.getfield 9, 3) := by decide +kernel
theorem dX3_judgeQuestion_161 : decode cX3_judgeQuestion 161 = .ok (.iconst 3, 1) := by decide +kernel
theorem dX3_judgeQuestion_162 : decode cX3_judgeQuestion 162 = .ok (.iaload, 1) := by decide +kernel
theorem dX3_judgeQuestion_163 : decode cX3_judgeQuestion 163 = .ok (.if_icmp .lt 7, 3) := by decide +kernel
theorem dX3_judgeQuestion_166 : decode cX3_judgeQuestion 166 = .ok (.iconst 1, 1) := by decide +kernel
theorem dX3_judgeQuestion_167 : decode cX3_judgeQuestion 167 = .ok (.goto 4, 3) := by decide +kernel
theorem dX3_judgeQuestion_170 : decode cX3_judgeQuestion 170 = .ok (.iconst 0, 1) := by decide +kernel
theorem dX3_judgeQuestion_171 : decode cX3_judgeQuestion 171 = .ok (.iastore, 1) := by decide +kernel
theorem dX3_judgeQuestion_172 : decode cX3_judgeQuestion 172 = .ok (.iload 5, 2) := by decide +kernel
theorem dX3_judgeQuestion_174 : decode cX3_judgeQuestion 174 = .ok (.istore 7, 2) := by decide +kernel
theorem dX3_judgeQuestion_176 : decode cX3_judgeQuestion 176 = .ok (.aload_n 1, 1) := by decide +kernel
theorem dX3_judgeQuestion_177 : decode cX3_judgeQuestion 177 = .ok (.getfield 160, 3) := by decide +kernel
theorem dX3_judgeQuestion_180 : decode cX3_judgeQuestion 180 = .ok (.iload_n 2, 1) := by decide +kernel
theorem dX3_judgeQuestion_181 : decode cX3_judgeQuestion 181 = .ok (.baload, 1) := by decide +kernel
theorem dX3_judgeQuestion_182 : decode cX3_judgeQuestion 182 = .ok (.ifCond .ne 54, 3) := by decide +kernel
theorem dX3_judgeQuestion_185 : decode cX3_judgeQuestion 185 = .ok (.iload 5, 2) := by decide +kernel
theorem dX3_judgeQuestion_187 : decode cX3_judgeQuestion 187 = .ok (.iconst 1, 1) := by decide +kernel
theorem dX3_judgeQuestion_188 : decode cX3_judgeQuestion 188 = .ok (.if_icmp .le 48, 3) := by decide +kernel
theorem dX3_judgeQuestion_191 : decode cX3_judgeQuestion 191 = .ok (.aload_n 0, 1) := by decide +kernel
theorem dX3_judgeQuestion_192 : decode cX3_judgeQuestion 192 = .ok (.getfield 32, 3) := by decide +kernel
theorem dX3_judgeQuestion_195 : decode cX3_judgeQuestion 195 = .ok (.aload_n 0, 1) := by decide +kernel
theorem dX3_judgeQuestion_196 : decode cX3_judgeQuestion 196 = .ok (.getfield 35, 3) := by decide +kernel
theorem dX3_judgeQuestion_199 : decode cX3_judgeQuestion 199 = .ok (.iconst 0, 1) := by decide +kernel
theorem dX3_judgeQuestion_200 : decode cX3_judgeQuestion 200 = .ok (.iaload, 1) := by decide +kernel
theorem dX3_judgeQuestion_201 : decode cX3_judgeQuestion 201 = .ok (.iaload, 1) := by decide +kernel
theorem dX3_judgeQuestion_202 : decode cX3_judgeQuestion 202 = .ok (.aload_n 0, 1) := by decide +kernel
theorem dX3_judgeQuestion_203 : decode cX3_judgeQuestion 203 = .ok (.getfield 32, 3) := by decide +kernel
theorem dX3_judgeQuestion_206 : decode cX3_judgeQuestion 206 = .ok (.aload_n 0, 1) := by decide +kernel
theorem dX3_judgeQuestion_207 : decode cX3_judgeQuestion 207 = .ok (.getfield 35, 3) := by decide +kernel
theorem dX3_judgeQuestion_210 : decode cX3_judgeQuestion 210 = .ok (.iconst 1, 1) := by decide +kernel
theorem dX3_judgeQuestion_211 : decode cX3_judgeQuestion 211 = .ok (.iaload, 1) := by decide +kernel
theorem dX3_judgeQuestion_212 : decode cX3_judgeQuestion 212 = .ok (.iaload, 1) := by decide +kernel
theorem dX3_judgeQuestion_213 : decode cX3_judgeQuestion 213 = .ok (.isub, 1) := by decide +kernel
theorem dX3_judgeQuestion_214 : decode cX3_judgeQuestion 214 = .ok (.aload_n 0, 1) := by decide +kernel
theorem dX3_judgeQuestion_215 : decode cX3_judgeQuestion 215 = .ok (.getfield 9, 3) := by decide +kernel
theorem dX3_judgeQuestion_218 : decode cX3_judgeQuestion 218 = .ok (.iconst 4, 1) := by decide +kernel
theorem dX3_judgeQuestion_219 : decode cX3_judgeQuestion 219 = .ok (.iaload, 1) := by decide +kernel
theorem dX3_judgeQuestion_220 : decode cX3_judgeQuestion 220 = .ok (.if_icmp .lt 9, 3) := by decide +kernel
theorem dX3_judgeQuestion_223 : decode cX3_judgeQuestion 223 = .ok (.iconst 1, 1) := by decide +kernel
theorem dX3_judgeQuestion_224 : decode cX3_judgeQuestion 224 = .ok (.istore 7, 2) := by decide +kernel
theorem dX3_judgeQuestion_226 : decode cX3_judgeQuestion 226 = .ok (.goto 10, 3) := by decide +kernel
theorem dX3_judgeQuestion_229 : decode cX3_judgeQuestion 229 = .ok (.aload_n 0, 1) := by decide +kernel
theorem dX3_judgeQuestion_230 : decode cX3_judgeQuestion 230 = .ok (.getfield 41, 3) := by decide +kernel
theorem dX3_judgeQuestion_233 : decode cX3_judgeQuestion 233 = .ok (.iload_n 2, 1) := by decide +kernel
theorem dX3_judgeQuestion_234 : decode cX3_judgeQuestion 234 = .ok (.iconst 2, 1) := by decide +kernel
theorem dX3_judgeQuestion_235 : decode cX3_judgeQuestion 235 = .ok (.iastore, 1) := by decide +kernel
theorem dX3_judgeQuestion_236 : decode cX3_judgeQuestion 236 = .ok (.aload_n 0, 1) := by decide +kernel
theorem dX3_judgeQuestion_237 : decode cX3_judgeQuestion 237 = .ok (.getfield 38, 3) := by decide +kernel
theorem dX3_judgeQuestion_240 : decode cX3_judgeQuestion 240 = .ok (.iload_n 2, 1) := by decide +kernel
theorem dX3_judgeQuestion_241 : decode cX3_judgeQuestion 241 = .ok (.iconst 0, 1) := by decide +kernel
theorem dX3_judgeQuestion_242 : decode cX3_judgeQuestion 242 = .ok (.iastore, 1) := by decide +kernel
theorem dX3_judgeQuestion_243 : decode cX3_judgeQuestion 243 = .ok (.aload_n 0, 1) := by decide +kernel
theorem dX3_judgeQuestion_244 : decode cX3_judgeQuestion 244 = .ok (.getfield 44, 3) := by decide +kernel
theorem dX3_judgeQuestion_247 : decode cX3_judgeQuestion 247 = .ok (.iload_n 2, 1) := by decide +kernel
theorem dX3_judgeQuestion_248 : decode cX3_judgeQuestion 248 = .ok (.iconst 0, 1) := by decide +kernel
theorem dX3_judgeQuestion_249 : decode cX3_judgeQuestion 249 = .ok (.iastore, 1) := by decide +kernel
theorem dX3_judgeQuestion_250 : decode cX3_judgeQuestion 250 = .ok (.iconst 0, 1) := by decide +kernel
theorem dX3_judgeQuestion_251 : decode cX3_judgeQuestion 251 = .ok (.istore 8, 2) := by decide +kernel
theorem dX3_judgeQuestion_253 : decode cX3_judgeQuestion 253 = .ok (.iload 8, 2) := by decide +kernel
theorem dX3_judgeQuestion_255 : decode cX3_judgeQuestion 255 = .ok (.iload 4, 2) := by decide +kernel
theorem dX3_judgeQuestion_257 : decode cX3_judgeQuestion 257 = .ok (.if_icmp .ge 87, 3) := by decide +kernel
theorem dX3_judgeQuestion_260 : decode cX3_judgeQuestion 260 = .ok (.iconst 1, 1) := by decide +kernel
theorem dX3_judgeQuestion_261 : decode cX3_judgeQuestion 261 = .ok (.aload_n 0, 1) := by decide +kernel
theorem dX3_judgeQuestion_262 : decode cX3_judgeQuestion 262 = .ok (.getfield 35, 3) := by decide +kernel
theorem dX3_judgeQuestion_265 : decode cX3_judgeQuestion 265 = .ok (.iload 8, 2) := by decide +kernel
theorem dX3_judgeQuestion_267 : decode cX3_judgeQuestion 267 = .ok (.iaload, 1) := by decide +kernel
theorem dX3_judgeQuestion_268 : decode cX3_judgeQuestion 268 = .ok (.iload_n 3, 1) := by decide +kernel
theorem dX3_judgeQuestion_269 : decode cX3_judgeQuestion 269 = .ok (.isub, 1) := by decide +kernel
theorem dX3_judgeQuestion_270 : decode cX3_judgeQuestion 270 = .ok (.ishl, 1) := by decide +kernel
theorem dX3_judgeQuestion_271 : decode cX3_judgeQuestion 271 = .ok (.istore 9, 2) := by decide +kernel
theorem dX3_judgeQuestion_273 : decode cX3_judgeQuestion 273 = .ok (.iload 8, 2) := by decide +kernel
theorem dX3_judgeQuestion_275 : decode cX3_judgeQuestion 275 = .ok (.iload 7, 2) := by decide +kernel
theorem dX3_judgeQuestion_277 : decode cX3_judgeQuestion 277 = .ok (.if_icmp .ge 17, 3) := by decide +kernel
theorem dX3_judgeQuestion_280 : decode cX3_judgeQuestion 280 = .ok (.aload_n 0, 1) := by decide +kernel
theorem dX3_judgeQuestion_281 : decode cX3_judgeQuestion 281 = .ok (.getfield 38, 3) := by decide +kernel
theorem dX3_judgeQuestion_284 : decode cX3_judgeQuestion 284 = .ok (.iload_n 2, 1) := by decide +kernel
theorem dX3_judgeQuestion_285 : decode cX3_judgeQuestion 285 = .ok (.dup2, 1) := by decide +kernel
theorem dX3_judgeQuestion_286 : decode cX3_judgeQuestion 286 = .ok (.iaload, 1) := by decide +kernel
theorem dX3_judgeQuestion_287 : decode cX3_judgeQuestion 287 = .ok (.iload 9, 2) := by decide +kernel
theorem dX3_judgeQuestion_289 : decode cX3_judgeQuestion 289 = .ok (.ior, 1) := by decide +kernel
theorem dX3_judgeQuestion_290 : decode cX3_judgeQuestion 290 = .ok (.iastore, 1) := by decide +kernel
theorem dX3_judgeQuestion_291 : decode cX3_judgeQuestion 291 = .ok (.goto 47, 3) := by decide +kernel
theorem dX3_judgeQuestion_294 : decode cX3_judgeQuestion 294 = .ok (.iload 8, 2) := by decide +kernel
theorem dX3_judgeQuestion_296 : decode cX3_judgeQuestion 296 = .ok (.iload 5, 2) := by decide +kernel
theorem dX3_judgeQuestion_298 : decode cX3_judgeQuestion 298 = .ok (.if_icmp .lt 29, 3) := by decide +kernel
theorem dX3_judgeQuestion_301 : decode cX3_judgeQuestion 301 = .ok (.aload_n 0, 1) := by decide +kernel
theorem dX3_judgeQuestion_302 : decode cX3_judgeQuestion 302 = .ok (.getfield 32, 3) := by decide +kernel
theorem dX3_judgeQuestion_305 : decode cX3_judgeQuestion 305 = .ok (.aload_n 0, 1) := by decide +kernel
theorem dX3_judgeQuestion_306 : decode cX3_judgeQuestion 306 = .ok (.getfield 35, 3) := by decide +kernel
theorem dX3_judgeQuestion_309 : decode cX3_judgeQuestion 309 = .ok (.iload 8, 2) := by decide +kernel
theorem dX3_judgeQuestion_311 : decode cX3_judgeQuestion 311 = .ok (.iaload, 1) := by decide +kernel
theorem dX3_judgeQuestion_312 : decode cX3_judgeQuestion 312 = .ok (.iaload, 1) := by decide +kernel
theorem dX3_judgeQuestion_313 : decode cX3_judgeQuestion 313 = .ok (.aload_n 0, 1) := by decide +kernel
theorem dX3_judgeQuestion_314 : decode cX3_judgeQuestion 314 = .ok (.getfield 106, 3) := by decide +kernel
theorem dX3_judgeQuestion_317 : decode cX3_judgeQuestion 317 = .ok (.isub, 1) := by decide +kernel
theorem dX3_judgeQuestion_318 : decode cX3_judgeQuestion 318 = .ok (.aload_n 0, 1) := by decide +kernel
theorem dX3_judgeQuestion_319 : decode cX3_judgeQuestion 319 = .ok (.getfield 9, 3) := by decide +kernel
theorem dX3_judgeQuestion_322 : decode cX3_judgeQuestion 322 = .ok (.iconst 5, 1) := by decide +kernel
theorem dX3_judgeQuestion_323 : decode cX3_judgeQuestion 323 = .ok (.iaload, 1) := by decide +kernel
theorem dX3_judgeQuestion_324 : decode cX3_judgeQuestion 324 = .ok (.if_icmp .lt 14, 3) := by decide +kernel
theorem dX3_judgeQuestion_327 : decode cX3_judgeQuestion 327 = .ok (.aload_n 0, 1) := by decide +kernel
theorem dX3_judgeQuestion_328 : decode cX3_judgeQuestion 328 = .ok (.getfield 44, 3) := by decide +kernel
theorem dX3_judgeQuestion_331 : decode cX3_judgeQuestion 331 = .ok (.iload_n 2, 1) := by decide +kernel
theorem dX3_judgeQuestion_332 : decode cX3_judgeQuestion 332 = .ok (.dup2, 1) := by decide +kernel
theorem dX3_judgeQuestion_333 : decode cX3_judgeQuestion 333 = .ok (.iaload, 1) := by decide +kernel
theorem dX3_judgeQuestion_334 : decode cX3_judgeQuestion 334 = .ok (.iload 9, 2) := by decide +kernel
theorem dX3_judgeQuestion_336 : decode cX3_judgeQuestion 336 = .ok (.ior, 1) := by decide +kernel
theorem dX3_judgeQuestion_337 : decode cX3_judgeQuestion 337 = .ok (.iastore, 1) := by decide +kernel
theorem dX3_judgeQuestion_338 : decode cX3_judgeQuestion 338 = .ok (.iinc 8 1, 3) := by decide +kernel
theorem dX3_judgeQuestion_341 : decode cX3_judgeQuestion 341 = .ok (.goto (-88), 3) := by decide +kernel
theorem dX3_judgeQuestion_344 : decode cX3_judgeQuestion 344 = .ok (.return_, 1) := by decide +kernel
def mX3_judgeQuestion : MM := (yX3_judgeQuestion, cX3_judgeQuestion, 10, none, { frames := 1, cells := 0, slots := 0, locals := 25 })
def X3_judgeQuestion_L31 (σ_ : SS) (u4_ : Int32) (k119 : Int32 → Int32 → Option SS) : Nat → Int32 → Int32 → Int32 → Option SS :=
  lp (fun _ _ _ => none) fun rec v5_ v6_ v7_ =>
    if u4_ ≤ v7_ then (
      k119 v5_ v6_
      ) else (
      vthen (fun (s5 : Int32) =>
        grd (inb v7_ 72) <|
        grd (inb (gI σ_ 52 (Int32.toNatClampNeg v7_)) 72) <|
        if ((gI σ_ 51 (Int32.toNatClampNeg (gI σ_ 52 (Int32.toNatClampNeg v7_)))) - s5) ≤ v6_ then (
          rec v5_ v6_ (v7_ + (1 : Int32))
          ) else (
          vthen ((gI σ_ 51 (Int32.toNatClampNeg (gI σ_ 52 (Int32.toNatClampNeg v7_)))) - s5) fun v8 =>
          vthen (v7_ + (1 : Int32)) fun v9 =>
          rec v9 v8 (v7_ + (1 : Int32))
          )
        ) fun j68 =>
      if u4_ ≤ (v7_ + (1 : Int32)) then (
        j68 (gI σ_ 31 6)
        ) else (
        grd (inb (v7_ + (1 : Int32)) 72) <|
        grd (inb (gI σ_ 52 (Int32.toNatClampNeg (v7_ + (1 : Int32)))) 72) <|
        j68 (gI σ_ 51 (Int32.toNatClampNeg (gI σ_ 52 (Int32.toNatClampNeg (v7_ + (1 : Int32))))))
        )
      )

def X3_judgeQuestion_L253 (u2_ : Int32) (u3_ : Int32) (u4_ : Int32) (u5_ : Int32) (u7_ : Int32)  : Nat → Int32 → SS → Option SS :=
  lp (fun _ _ => none) fun rec v8_ σ_ =>
    if u4_ ≤ v8_ then (
      some σ_
      ) else (
      grd (inb v8_ 72) <|
      vthen ((1 : Int32) <<< (((gI σ_ 52 (Int32.toNatClampNeg v8_)) - u3_) &&& 31)) fun v23 =>
      if u7_ ≤ v8_ then (
        vthen (fun (_u : Unit) =>
          grd (inb u2_ 12) <|
          vthen (sI σ_ 55 (Int32.toNatClampNeg u2_) ((gI σ_ 55 (Int32.toNatClampNeg u2_)) ||| v23)) fun σ25 =>
          rec (v8_ + (1 : Int32)) σ25
          ) fun j327 =>
        if v8_ < u5_ then (
          j327 ()
          ) else (
          grd (inb (gI σ_ 52 (Int32.toNatClampNeg v8_)) 72) <|
          if ((gI σ_ 51 (Int32.toNatClampNeg (gI σ_ 52 (Int32.toNatClampNeg v8_)))) - (gI σ_ 31 6)) < (gI σ_ 32 5) then (
            rec (v8_ + (1 : Int32)) σ_
            ) else (
            j327 ()
            )
          )
        ) else (
        grd (inb u2_ 12) <|
        vthen (sI σ_ 53 (Int32.toNatClampNeg u2_) ((gI σ_ 53 (Int32.toNatClampNeg u2_)) ||| v23)) fun σ28 =>
        rec (v8_ + (1 : Int32)) σ28
        )
      )

def fX3_judgeQuestion (σ : SS) (a1 : Nat) (a2 : Int32) : Option SS :=
  grd (inb a2 12) <|
  vthen (gI σ (a1 + 2) (Int32.toNatClampNeg a2)) fun v2 =>
  vthen (gI σ (a1 + 3) (Int32.toNatClampNeg a2)) fun v3 =>
  bnd1 (fX3_sortByDark σ v2 v3) fun σ4 =>
  X3_judgeQuestion_L31 σ4 v3
  (fun v12 v13 =>
    vthen (sI σ4 56 (Int32.toNatClampNeg a2) v13) fun σ14 =>
    vthen (sI σ14 54 (Int32.toNatClampNeg a2) (0 : Int32)) fun σ15 =>
    vthen (fun (v16 : Int32) (σ17 : SS) =>
      vthen (fun (v18 : Int32) (σ19 : SS) =>
        vthen (sI σ19 53 (Int32.toNatClampNeg a2) (0 : Int32)) fun σ20 =>
        vthen (sI σ20 55 (Int32.toNatClampNeg a2) (0 : Int32)) fun σ21 =>
        X3_judgeQuestion_L253 a2 v2 v3 v16 v18
        fuel (0 : Int32) σ21
        ) fun j236 =>
      if (gI σ17 (a1 + 1) (Int32.toNatClampNeg a2)) = 0 then (
        if v16 ≤ (1 : Int32) then (
          j236 v16 σ17
          ) else (
          grd (inb (gI σ17 52 0) 72) <|
          grd (inb (gI σ17 52 1) 72) <|
          if ((gI σ17 51 (Int32.toNatClampNeg (gI σ17 52 0))) - (gI σ17 51 (Int32.toNatClampNeg (gI σ17 52 1)))) < (gI σ17 32 4) then (
            vthen (sI σ17 54 (Int32.toNatClampNeg a2) (2 : Int32)) fun σ31 =>
            j236 v16 σ31
            ) else (
            j236 (1 : Int32) σ17
            )
          )
        ) else (
        j236 v16 σ17
        )
      ) fun j172 =>
    if (gI σ15 32 3) ≤ v13 then (
      j172 v12 σ15
      ) else (
      vthen (fun (s32 : Int32) =>
        vthen (sI σ15 54 (Int32.toNatClampNeg a2) s32) fun σ33 =>
        j172 (0 : Int32) σ33
        ) fun j171 =>
      if ((2 : Int32) * v13) < (gI σ15 32 3) then (
        j171 (0 : Int32)
        ) else (
        j171 (1 : Int32)
        )
      )
    )
  fuel (0 : Int32) (-1 : Int32) (0 : Int32)

set_option maxRecDepth 20000 in
theorem sX3_judgeQuestion_L31 {g : GG} {r : SS} {σ_ : SS} {x1_ : Nat} {x2_ : Int32} {x3_ : Int32} {u4_ : Int32} {k119 : Int32 → Int32 → Option SS} 
    (hw_ : WT σ_)
    (hk119 : ∀ (y5 : Int32) (y6 : Int32), k119 y5 y6 = some r → RR g mX3_judgeQuestion (FinR g mX3_judgeQuestion none NF r) zF 119 [(0, .ref (ad g 31)), (1, .ref x1_), (2, .int x2_), (3, .int x3_), (4, .int u4_), (5, .int y5), (6, .int y6)] [] σ_)
    (n : Nat) : ∀ (v5_ : Int32) (v6_ : Int32) (v7_ : Int32), X3_judgeQuestion_L31 σ_ u4_ k119 n v5_ v6_ v7_ = some r → RR g mX3_judgeQuestion (FinR g mX3_judgeQuestion none NF r) zF 31 [(0, .ref (ad g 31)), (1, .ref x1_), (2, .int x2_), (3, .int x3_), (4, .int u4_), (5, .int v5_), (6, .int v6_), (7, .int v7_)] [] σ_ := by
  unfold X3_judgeQuestion_L31
  refine lp_ind (P := fun (rec : Int32 → Int32 → Int32 → Option SS) => ∀ (v5_ : Int32) (v6_ : Int32) (v7_ : Int32), rec v5_ v6_ v7_ = some r → RR g mX3_judgeQuestion (FinR g mX3_judgeQuestion none NF r) zF 31 [(0, .ref (ad g 31)), (1, .ref x1_), (2, .int x2_), (3, .int x3_), (4, .int u4_), (5, .int v5_), (6, .int v6_), (7, .int v7_)] [] σ_) ?_ ?_ n
  · intro v5_ v6_ v7_ hr; cases hr
  intro rec ih v5_ v6_ v7_ hr
  refine r_iload (pc := 31) (j := 7) dX3_judgeQuestion_31 rfl ?_
  refine r_iload (pc := 33) (j := 4) dX3_judgeQuestion_33 rfl ?_
  refine r_icmp_ge (pc := 35) (tgt := 119) dX3_judgeQuestion_35 rfl (fun hc => ?_) (fun hc => ?_)
  · replace hr := ite_t hc hr
    exact r_pick (ls1 := [(0, .ref (ad g 31)), (1, .ref x1_), (2, .int x2_), (3, .int x3_), (4, .int u4_), (5, .int v5_), (6, .int v6_)]) [0, 1, 2, 3, 4, 5, 6] rfl (hk119 v5_ v6_ hr)
  replace hr := ite_f hc hr
  refine r_iload (pc := 38) (j := 7) dX3_judgeQuestion_38 rfl ?_
  refine r_iconst (pc := 40) (v := (1 : Int32)) dX3_judgeQuestion_40 rfl ?_
  refine r_iadd (pc := 41) dX3_judgeQuestion_41 ?_
  refine r_iload (pc := 42) (j := 4) dX3_judgeQuestion_42 rfl ?_
  obtain ⟨j68, ej68, hr⟩ := vth_ex hr
  have hj68 : ∀ (s5 : Int32), j68 s5 = some r → RR g mX3_judgeQuestion (FinR g mX3_judgeQuestion none NF r) zF 68 [(0, .ref (ad g 31)), (1, .ref x1_), (2, .int x2_), (3, .int x3_), (4, .int u4_), (5, .int v5_), (6, .int v6_), (7, .int v7_)] [.int s5] σ_ := by
    intro s5 hr
    replace hr := (congrFun ej68 s5).symm.trans hr
    refine r_istore (pc := 68) (ls1 := [(8, .int s5), (0, .ref (ad g 31)), (1, .ref x1_), (2, .int x2_), (3, .int x3_), (4, .int u4_), (5, .int v5_), (6, .int v6_), (7, .int v7_)]) dX3_judgeQuestion_68 (nle rfl) rfl ?_
    refine r_aload_n (pc := 70) (j := 1) dX3_judgeQuestion_70 rfl rfl ?_
    refine gf3_4 (pc := 71) tw_2_28 hw_ dX3_judgeQuestion_71 ?_
    refine r_aload_n (pc := 74) (j := 1) dX3_judgeQuestion_74 rfl rfl ?_
    refine gf3_5 (pc := 75) tw_2_30 hw_ dX3_judgeQuestion_75 ?_
    refine r_iload (pc := 78) (j := 8) dX3_judgeQuestion_78 rfl ?_
    obtain ⟨h6, hr⟩ := grd_inv hr
    refine x_iald (pc := 80) (k := (Int32.toNatClampNeg v7_)) rfl h6 rfl dX3_judgeQuestion_80 ?_
    obtain ⟨h7, hr⟩ := grd_inv hr
    refine x_iald (pc := 81) (k := (Int32.toNatClampNeg (gI σ_ 52 (Int32.toNatClampNeg v7_)))) rfl h7 rfl dX3_judgeQuestion_81 ?_
    refine r_iload (pc := 82) (j := 0) dX3_judgeQuestion_82 rfl ?_
    refine r_isub (pc := 84) dX3_judgeQuestion_84 ?_
    refine r_iload (pc := 85) (j := 7) dX3_judgeQuestion_85 rfl ?_
    refine r_icmp_le (pc := 87) (tgt := 113) dX3_judgeQuestion_87 rfl (fun hc => ?_) (fun hc => ?_)
    · replace hr := ite_t hc hr
      refine r_iinc (pc := 113) (j := 8) (v := (v7_ + (1 : Int32))) (ls1 := [(7, .int (v7_ + (1 : Int32))), (8, .int s5), (0, .ref (ad g 31)), (1, .ref x1_), (2, .int x2_), (3, .int x3_), (4, .int u4_), (5, .int v5_), (6, .int v6_)]) dX3_judgeQuestion_113 rfl rfl (nle rfl) rfl ?_
      refine r_goto (pc := 116) (tgt := 31) dX3_judgeQuestion_116 rfl ?_
      exact r_pick (ls1 := [(0, .ref (ad g 31)), (1, .ref x1_), (2, .int x2_), (3, .int x3_), (4, .int u4_), (5, .int v5_), (6, .int v6_), (7, .int (v7_ + (1 : Int32)))]) [2, 3, 4, 5, 6, 7, 8, 0] rfl (ih v5_ v6_ (v7_ + (1 : Int32)) hr)
    replace hr := ite_f hc hr
    refine r_aload_n (pc := 90) (j := 1) dX3_judgeQuestion_90 rfl rfl ?_
    refine gf3_4 (pc := 91) tw_2_28 hw_ dX3_judgeQuestion_91 ?_
    refine r_aload_n (pc := 94) (j := 1) dX3_judgeQuestion_94 rfl rfl ?_
    refine gf3_5 (pc := 95) tw_2_30 hw_ dX3_judgeQuestion_95 ?_
    refine r_iload (pc := 98) (j := 8) dX3_judgeQuestion_98 rfl ?_
    refine x_iald (pc := 100) (k := (Int32.toNatClampNeg v7_)) rfl h6 rfl dX3_judgeQuestion_100 ?_
    refine x_iald (pc := 101) (k := (Int32.toNatClampNeg (gI σ_ 52 (Int32.toNatClampNeg v7_)))) rfl h7 rfl dX3_judgeQuestion_101 ?_
    refine r_iload (pc := 102) (j := 0) dX3_judgeQuestion_102 rfl ?_
    refine r_isub (pc := 104) dX3_judgeQuestion_104 ?_
    refine r_topi fun v8 ev8 => ?_
    replace hr := vthen_inv hr v8 ev8
    refine r_istore (pc := 105) (ls1 := [(6, .int v8), (8, .int s5), (0, .ref (ad g 31)), (1, .ref x1_), (2, .int x2_), (3, .int x3_), (4, .int u4_), (5, .int v5_), (7, .int v7_)]) dX3_judgeQuestion_105 (nle rfl) rfl ?_
    refine r_iload (pc := 107) (j := 8) dX3_judgeQuestion_107 rfl ?_
    refine r_iconst (pc := 109) (v := (1 : Int32)) dX3_judgeQuestion_109 rfl ?_
    refine r_iadd (pc := 110) dX3_judgeQuestion_110 ?_
    refine r_topi fun v9 ev9 => ?_
    replace hr := vthen_inv hr v9 ev9
    refine r_istore (pc := 111) (ls1 := [(5, .int v9), (6, .int v8), (8, .int s5), (0, .ref (ad g 31)), (1, .ref x1_), (2, .int x2_), (3, .int x3_), (4, .int u4_), (7, .int v7_)]) dX3_judgeQuestion_111 (nle rfl) rfl ?_
    refine r_iinc (pc := 113) (j := 8) (v := (v7_ + (1 : Int32))) (ls1 := [(7, .int (v7_ + (1 : Int32))), (5, .int v9), (6, .int v8), (8, .int s5), (0, .ref (ad g 31)), (1, .ref x1_), (2, .int x2_), (3, .int x3_), (4, .int u4_)]) dX3_judgeQuestion_113 rfl rfl (nle rfl) rfl ?_
    refine r_goto (pc := 116) (tgt := 31) dX3_judgeQuestion_116 rfl ?_
    exact r_pick (ls1 := [(0, .ref (ad g 31)), (1, .ref x1_), (2, .int x2_), (3, .int x3_), (4, .int u4_), (5, .int v9), (6, .int v8), (7, .int (v7_ + (1 : Int32)))]) [4, 5, 6, 7, 8, 1, 2, 0] rfl (ih v9 v8 (v7_ + (1 : Int32)) hr)
  refine r_icmp_ge (pc := 44) (tgt := 64) dX3_judgeQuestion_44 rfl (fun hc => ?_) (fun hc => ?_)
  · replace hr := ite_t hc hr
    refine r_aload_n (pc := 64) (j := 0) dX3_judgeQuestion_64 rfl rfl ?_
    refine gf3_6 (pc := 65) tw_2_31 rfl dX3_judgeQuestion_65 ?_
    exact r_pick (ls1 := [(0, .ref (ad g 31)), (1, .ref x1_), (2, .int x2_), (3, .int x3_), (4, .int u4_), (5, .int v5_), (6, .int v6_), (7, .int v7_)]) [0, 1, 2, 3, 4, 5, 6, 7] rfl (hj68 (gI σ_ 31 6) hr)
  replace hr := ite_f hc hr
  refine r_aload_n (pc := 47) (j := 0) dX3_judgeQuestion_47 rfl rfl ?_
  refine gf3_4 (pc := 48) tw_2_28 hw_ dX3_judgeQuestion_48 ?_
  refine r_aload_n (pc := 51) (j := 0) dX3_judgeQuestion_51 rfl rfl ?_
  refine gf3_5 (pc := 52) tw_2_30 hw_ dX3_judgeQuestion_52 ?_
  refine r_iload (pc := 55) (j := 7) dX3_judgeQuestion_55 rfl ?_
  refine r_iconst (pc := 57) (v := (1 : Int32)) dX3_judgeQuestion_57 rfl ?_
  refine r_iadd (pc := 58) dX3_judgeQuestion_58 ?_
  obtain ⟨h10, hr⟩ := grd_inv hr
  refine x_iald (pc := 59) (k := (Int32.toNatClampNeg (v7_ + (1 : Int32)))) rfl h10 rfl dX3_judgeQuestion_59 ?_
  obtain ⟨h11, hr⟩ := grd_inv hr
  refine x_iald (pc := 60) (k := (Int32.toNatClampNeg (gI σ_ 52 (Int32.toNatClampNeg (v7_ + (1 : Int32)))))) rfl h11 rfl dX3_judgeQuestion_60 ?_
  refine r_goto (pc := 61) (tgt := 68) dX3_judgeQuestion_61 rfl ?_
  exact r_pick (ls1 := [(0, .ref (ad g 31)), (1, .ref x1_), (2, .int x2_), (3, .int x3_), (4, .int u4_), (5, .int v5_), (6, .int v6_), (7, .int v7_)]) [0, 1, 2, 3, 4, 5, 6, 7] rfl (hj68 (gI σ_ 51 (Int32.toNatClampNeg (gI σ_ 52 (Int32.toNatClampNeg (v7_ + (1 : Int32)))))) hr)

set_option maxRecDepth 20000 in
theorem sX3_judgeQuestion_L253 {g : GG} {r : SS} {u2_ : Int32} {u3_ : Int32} {u4_ : Int32} {u5_ : Int32} {u7_ : Int32}  
    (n : Nat) : ∀ (v8_ : Int32) (σ_ : SS), X3_judgeQuestion_L253 u2_ u3_ u4_ u5_ u7_ n v8_ σ_ = some r → WT σ_ → RR g mX3_judgeQuestion (FinR g mX3_judgeQuestion none NF r) zF 253 [(0, .ref (ad g 31)), (2, .int u2_), (3, .int u3_), (4, .int u4_), (5, .int u5_), (7, .int u7_), (8, .int v8_)] [] σ_ := by
  unfold X3_judgeQuestion_L253
  refine lp_ind (P := fun (rec : Int32 → SS → Option SS) => ∀ (v8_ : Int32) (σ_ : SS), rec v8_ σ_ = some r → WT σ_ → RR g mX3_judgeQuestion (FinR g mX3_judgeQuestion none NF r) zF 253 [(0, .ref (ad g 31)), (2, .int u2_), (3, .int u3_), (4, .int u4_), (5, .int u5_), (7, .int u7_), (8, .int v8_)] [] σ_) ?_ ?_ n
  · intro v8_ σ_ hr; cases hr
  intro rec ih v8_ σ_ hr hw_
  refine r_iload (pc := 253) (j := 6) dX3_judgeQuestion_253 rfl ?_
  refine r_iload (pc := 255) (j := 3) dX3_judgeQuestion_255 rfl ?_
  refine r_icmp_ge (pc := 257) (tgt := 344) dX3_judgeQuestion_257 rfl (fun hc => ?_) (fun hc => ?_)
  · replace hr := ite_t hc hr
    exact l_ov hr (r_vret (pc := 344) rfl rfl ⟨Nat.le_refl _, Nat.le_refl _⟩ dX3_judgeQuestion_344)
  replace hr := ite_f hc hr
  refine r_iconst (pc := 260) (v := (1 : Int32)) dX3_judgeQuestion_260 rfl ?_
  refine r_aload_n (pc := 261) (j := 0) dX3_judgeQuestion_261 rfl rfl ?_
  refine gf3_5 (pc := 262) tw_2_30 hw_ dX3_judgeQuestion_262 ?_
  refine r_iload (pc := 265) (j := 6) dX3_judgeQuestion_265 rfl ?_
  obtain ⟨h22, hr⟩ := grd_inv hr
  refine x_iald (pc := 267) (k := (Int32.toNatClampNeg v8_)) rfl h22 rfl dX3_judgeQuestion_267 ?_
  refine r_iload_n (pc := 268) (j := 2) dX3_judgeQuestion_268 rfl rfl ?_
  refine r_isub (pc := 269) dX3_judgeQuestion_269 ?_
  refine r_ishl (pc := 270) dX3_judgeQuestion_270 ?_
  refine r_topi fun v23 ev23 => ?_
  replace hr := vthen_inv hr v23 ev23
  refine r_istore (pc := 271) (ls1 := [(9, .int v23), (0, .ref (ad g 31)), (2, .int u2_), (3, .int u3_), (4, .int u4_), (5, .int u5_), (7, .int u7_), (8, .int v8_)]) dX3_judgeQuestion_271 (nle rfl) rfl ?_
  refine r_iload (pc := 273) (j := 7) dX3_judgeQuestion_273 rfl ?_
  refine r_iload (pc := 275) (j := 6) dX3_judgeQuestion_275 rfl ?_
  refine r_icmp_ge (pc := 277) (tgt := 294) dX3_judgeQuestion_277 rfl (fun hc => ?_) (fun hc => ?_)
  · replace hr := ite_t hc hr
    refine r_iload (pc := 294) (j := 7) dX3_judgeQuestion_294 rfl ?_
    refine r_iload (pc := 296) (j := 5) dX3_judgeQuestion_296 rfl ?_
    obtain ⟨j327, ej327, hr⟩ := vth_ex hr
    have hj327 : j327 () = some r → RR g mX3_judgeQuestion (FinR g mX3_judgeQuestion none NF r) zF 327 [(0, .ref (ad g 31)), (2, .int u2_), (3, .int u3_), (4, .int u4_), (5, .int u5_), (7, .int u7_), (8, .int v8_), (9, .int v23)] [] σ_ := by
      intro  hr
      replace hr := (congrFun ej327 ()).symm.trans hr
      refine r_aload_n (pc := 327) (j := 0) dX3_judgeQuestion_327 rfl rfl ?_
      refine gf3_9 (pc := 328) tw_2_39 hw_ dX3_judgeQuestion_328 ?_
      refine r_iload_n (pc := 331) (j := 1) dX3_judgeQuestion_331 rfl rfl ?_
      refine r_dup2 (pc := 332) dX3_judgeQuestion_332 rfl rfl ?_
      obtain ⟨h24, hr⟩ := grd_inv hr
      refine x_iald (pc := 333) (k := (Int32.toNatClampNeg u2_)) rfl h24 rfl dX3_judgeQuestion_333 ?_
      refine r_iload (pc := 334) (j := 7) dX3_judgeQuestion_334 rfl ?_
      refine r_ior (pc := 336) dX3_judgeQuestion_336 ?_
      refine x_iast (pc := 337) (j := (Int32.toNatClampNeg u2_)) rfl h24 rfl dX3_judgeQuestion_337 fun σ25 eσ25 => ?_
      replace hr := vthen_inv hr σ25 eσ25
      have hσ25 := wtI eσ25 hw_
      refine r_iinc (pc := 338) (j := 6) (v := (v8_ + (1 : Int32))) (ls1 := [(8, .int (v8_ + (1 : Int32))), (0, .ref (ad g 31)), (2, .int u2_), (3, .int u3_), (4, .int u4_), (5, .int u5_), (7, .int u7_), (9, .int v23)]) dX3_judgeQuestion_338 rfl rfl (nle rfl) rfl ?_
      refine r_goto (pc := 341) (tgt := 253) dX3_judgeQuestion_341 rfl ?_
      exact r_pick (ls1 := [(0, .ref (ad g 31)), (2, .int u2_), (3, .int u3_), (4, .int u4_), (5, .int u5_), (7, .int u7_), (8, .int (v8_ + (1 : Int32)))]) [1, 2, 3, 4, 5, 6, 0] rfl (ih (v8_ + (1 : Int32)) σ25 hr hσ25)
    refine r_icmp_lt (pc := 298) (tgt := 327) dX3_judgeQuestion_298 rfl (fun hc => ?_) (fun hc => ?_)
    · replace hr := ite_t hc hr
      exact r_pick (ls1 := [(0, .ref (ad g 31)), (2, .int u2_), (3, .int u3_), (4, .int u4_), (5, .int u5_), (7, .int u7_), (8, .int v8_), (9, .int v23)]) [1, 2, 3, 4, 5, 6, 7, 0] rfl (hj327  hr)
    replace hr := ite_f hc hr
    refine r_aload_n (pc := 301) (j := 1) dX3_judgeQuestion_301 rfl rfl ?_
    refine gf3_4 (pc := 302) tw_2_28 hw_ dX3_judgeQuestion_302 ?_
    refine r_aload_n (pc := 305) (j := 1) dX3_judgeQuestion_305 rfl rfl ?_
    refine gf3_5 (pc := 306) tw_2_30 hw_ dX3_judgeQuestion_306 ?_
    refine r_iload (pc := 309) (j := 7) dX3_judgeQuestion_309 rfl ?_
    refine x_iald (pc := 311) (k := (Int32.toNatClampNeg v8_)) rfl h22 rfl dX3_judgeQuestion_311 ?_
    obtain ⟨h26, hr⟩ := grd_inv hr
    refine x_iald (pc := 312) (k := (Int32.toNatClampNeg (gI σ_ 52 (Int32.toNatClampNeg v8_)))) rfl h26 rfl dX3_judgeQuestion_312 ?_
    refine r_aload_n (pc := 313) (j := 1) dX3_judgeQuestion_313 rfl rfl ?_
    refine gf3_6 (pc := 314) tw_2_31 rfl dX3_judgeQuestion_314 ?_
    refine r_isub (pc := 317) dX3_judgeQuestion_317 ?_
    refine r_aload_n (pc := 318) (j := 1) dX3_judgeQuestion_318 rfl rfl ?_
    refine gf3_0 (pc := 319) tw_2_20 hw_ dX3_judgeQuestion_319 ?_
    refine r_iconst (pc := 322) (v := (5 : Int32)) dX3_judgeQuestion_322 rfl ?_
    refine x_iald (pc := 323) (k := 5) rfl (by decide) rfl dX3_judgeQuestion_323 ?_
    refine r_icmp_lt (pc := 324) (tgt := 338) dX3_judgeQuestion_324 rfl (fun hc => ?_) (fun hc => ?_)
    · replace hr := ite_t hc hr
      refine r_iinc (pc := 338) (j := 7) (v := (v8_ + (1 : Int32))) (ls1 := [(8, .int (v8_ + (1 : Int32))), (9, .int v23), (0, .ref (ad g 31)), (2, .int u2_), (3, .int u3_), (4, .int u4_), (5, .int u5_), (7, .int u7_)]) dX3_judgeQuestion_338 rfl rfl (nle rfl) rfl ?_
      refine r_goto (pc := 341) (tgt := 253) dX3_judgeQuestion_341 rfl ?_
      exact r_pick (ls1 := [(0, .ref (ad g 31)), (2, .int u2_), (3, .int u3_), (4, .int u4_), (5, .int u5_), (7, .int u7_), (8, .int (v8_ + (1 : Int32)))]) [2, 3, 4, 5, 6, 7, 0] rfl (ih (v8_ + (1 : Int32)) σ_ hr hw_)
    replace hr := ite_f hc hr
    exact r_pick (ls1 := [(0, .ref (ad g 31)), (2, .int u2_), (3, .int u3_), (4, .int u4_), (5, .int u5_), (7, .int u7_), (8, .int v8_), (9, .int v23)]) [1, 2, 3, 4, 5, 6, 7, 0] rfl (hj327  hr)
  replace hr := ite_f hc hr
  refine r_aload_n (pc := 280) (j := 1) dX3_judgeQuestion_280 rfl rfl ?_
  refine gf3_7 (pc := 281) tw_2_33 hw_ dX3_judgeQuestion_281 ?_
  refine r_iload_n (pc := 284) (j := 2) dX3_judgeQuestion_284 rfl rfl ?_
  refine r_dup2 (pc := 285) dX3_judgeQuestion_285 rfl rfl ?_
  obtain ⟨h27, hr⟩ := grd_inv hr
  refine x_iald (pc := 286) (k := (Int32.toNatClampNeg u2_)) rfl h27 rfl dX3_judgeQuestion_286 ?_
  refine r_iload (pc := 287) (j := 0) dX3_judgeQuestion_287 rfl ?_
  refine r_ior (pc := 289) dX3_judgeQuestion_289 ?_
  refine x_iast (pc := 290) (j := (Int32.toNatClampNeg u2_)) rfl h27 rfl dX3_judgeQuestion_290 fun σ28 eσ28 => ?_
  replace hr := vthen_inv hr σ28 eσ28
  have hσ28 := wtI eσ28 hw_
  refine r_goto (pc := 291) (tgt := 338) dX3_judgeQuestion_291 rfl ?_
  refine r_iinc (pc := 338) (j := 7) (v := (v8_ + (1 : Int32))) (ls1 := [(8, .int (v8_ + (1 : Int32))), (9, .int v23), (0, .ref (ad g 31)), (2, .int u2_), (3, .int u3_), (4, .int u4_), (5, .int u5_), (7, .int u7_)]) dX3_judgeQuestion_338 rfl rfl (nle rfl) rfl ?_
  refine r_goto (pc := 341) (tgt := 253) dX3_judgeQuestion_341 rfl ?_
  exact r_pick (ls1 := [(0, .ref (ad g 31)), (2, .int u2_), (3, .int u3_), (4, .int u4_), (5, .int u5_), (7, .int u7_), (8, .int (v8_ + (1 : Int32)))]) [2, 3, 4, 5, 6, 7, 0] rfl (ih (v8_ + (1 : Int32)) σ28 hr hσ28)

set_option maxRecDepth 20000 in
theorem sX3_judgeQuestion {g : GG} {σ : SS} {a1 : Nat} {a2 : Int32} {r : SS} (hr : fX3_judgeQuestion σ a1 a2 = some r) (hs1 : shp a1 = (1, 0)) : Ct g mX3_judgeQuestion [.ref (ad g 31), .ref (ad g a1), .int a2] NF σ none NF r := by
  refine Ct.of (by decide +kernel) (nle rfl) fun hw0 => ?_
  have hw := hw0 rfl
  unfold fX3_judgeQuestion at hr
  change RR g mX3_judgeQuestion (FinR g mX3_judgeQuestion none NF r) zF 0 [(0, .ref (ad g 31)), (1, .ref (ad g a1)), (2, .int a2)] [] σ
  refine r_aload_n (pc := 0) (j := 1) dX3_judgeQuestion_0 rfl rfl ?_
  refine gf1_8 (pc := 1) tw_1_89 hw hs1 dX3_judgeQuestion_1 ?_
  refine r_iload_n (pc := 4) (j := 2) dX3_judgeQuestion_4 rfl rfl ?_
  obtain ⟨h1, hr⟩ := grd_inv hr
  refine x_iald (pc := 5) (k := (Int32.toNatClampNeg a2)) (sh1_8 hs1) h1 rfl dX3_judgeQuestion_5 ?_
  refine r_topi fun v2 ev2 => ?_
  replace hr := vthen_inv hr v2 ev2
  refine r_istore_n (pc := 6) (ls1 := [(3, .int v2), (0, .ref (ad g 31)), (1, .ref (ad g a1)), (2, .int a2)]) dX3_judgeQuestion_6 rfl (nle rfl) rfl ?_
  refine r_aload_n (pc := 7) (j := 2) dX3_judgeQuestion_7 rfl rfl ?_
  refine gf1_9 (pc := 8) tw_1_92 hw hs1 dX3_judgeQuestion_8 ?_
  refine r_iload_n (pc := 11) (j := 3) dX3_judgeQuestion_11 rfl rfl ?_
  refine x_iald (pc := 12) (k := (Int32.toNatClampNeg a2)) (sh1_9 hs1) h1 rfl dX3_judgeQuestion_12 ?_
  refine r_topi fun v3 ev3 => ?_
  replace hr := vthen_inv hr v3 ev3
  refine r_istore (pc := 13) (ls1 := [(4, .int v3), (3, .int v2), (0, .ref (ad g 31)), (1, .ref (ad g a1)), (2, .int a2)]) dX3_judgeQuestion_13 (nle rfl) rfl ?_
  refine r_aload_n (pc := 15) (j := 2) dX3_judgeQuestion_15 rfl rfl ?_
  refine r_iload_n (pc := 16) (j := 1) dX3_judgeQuestion_16 rfl rfl ?_
  refine r_iload (pc := 17) (j := 0) dX3_judgeQuestion_17 rfl ?_
  obtain ⟨σ4, eσ4, hr⟩ := bnd1_inv hr
  refine kX3_sortByDark (pc := 19) eσ4 tw_3_50 ⟨nle rfl, nle rfl⟩ (nle rfl) dX3_judgeQuestion_19 fun hσ4 => ?_
  refine r_iconst (pc := 22) (v := (0 : Int32)) dX3_judgeQuestion_22 rfl ?_
  refine r_istore (pc := 23) (ls1 := [(5, .int (0 : Int32)), (4, .int v3), (3, .int v2), (0, .ref (ad g 31)), (1, .ref (ad g a1)), (2, .int a2)]) dX3_judgeQuestion_23 (nle rfl) rfl ?_
  refine r_iconst (pc := 25) (v := (-1 : Int32)) dX3_judgeQuestion_25 rfl ?_
  refine r_istore (pc := 26) (ls1 := [(6, .int (-1 : Int32)), (5, .int (0 : Int32)), (4, .int v3), (3, .int v2), (0, .ref (ad g 31)), (1, .ref (ad g a1)), (2, .int a2)]) dX3_judgeQuestion_26 (nle rfl) rfl ?_
  refine r_iconst (pc := 28) (v := (0 : Int32)) dX3_judgeQuestion_28 rfl ?_
  refine r_istore (pc := 29) (ls1 := [(7, .int (0 : Int32)), (6, .int (-1 : Int32)), (5, .int (0 : Int32)), (4, .int v3), (3, .int v2), (0, .ref (ad g 31)), (1, .ref (ad g a1)), (2, .int a2)]) dX3_judgeQuestion_29 (nle rfl) rfl ?_
  refine r_pick (ls1 := [(0, .ref (ad g 31)), (1, .ref (ad g a1)), (2, .int a2), (3, .int v2), (4, .int v3), (5, .int (0 : Int32)), (6, .int (-1 : Int32)), (7, .int (0 : Int32))]) [5, 6, 7, 4, 3, 2, 1, 0] rfl ?_
  refine sX3_judgeQuestion_L31  hσ4  (fun v12 v13 hr => ?_) fuel (0 : Int32) (-1 : Int32) (0 : Int32) hr
  refine r_aload_n (pc := 119) (j := 0) dX3_judgeQuestion_119 rfl rfl ?_
  refine gf3_10 (pc := 120) tw_2_41 hσ4 dX3_judgeQuestion_120 ?_
  refine r_iload_n (pc := 123) (j := 2) dX3_judgeQuestion_123 rfl rfl ?_
  refine r_iload (pc := 124) (j := 6) dX3_judgeQuestion_124 rfl ?_
  refine x_iast (pc := 126) (j := (Int32.toNatClampNeg a2)) rfl h1 rfl dX3_judgeQuestion_126 fun σ14 eσ14 => ?_
  replace hr := vthen_inv hr σ14 eσ14
  have hσ14 := wtI eσ14 hσ4
  refine r_aload_n (pc := 127) (j := 0) dX3_judgeQuestion_127 rfl rfl ?_
  refine gf3_8 (pc := 128) tw_2_36 hσ14 dX3_judgeQuestion_128 ?_
  refine r_iload_n (pc := 131) (j := 2) dX3_judgeQuestion_131 rfl rfl ?_
  refine r_iconst (pc := 132) (v := (0 : Int32)) dX3_judgeQuestion_132 rfl ?_
  refine x_iast (pc := 133) (j := (Int32.toNatClampNeg a2)) rfl h1 rfl dX3_judgeQuestion_133 fun σ15 eσ15 => ?_
  replace hr := vthen_inv hr σ15 eσ15
  have hσ15 := wtI eσ15 hσ14
  refine r_iload (pc := 134) (j := 6) dX3_judgeQuestion_134 rfl ?_
  refine r_aload_n (pc := 136) (j := 0) dX3_judgeQuestion_136 rfl rfl ?_
  refine gf3_0 (pc := 137) tw_2_20 hσ15 dX3_judgeQuestion_137 ?_
  refine r_iconst (pc := 140) (v := (3 : Int32)) dX3_judgeQuestion_140 rfl ?_
  refine x_iald (pc := 141) (k := 3) rfl (by decide) rfl dX3_judgeQuestion_141 ?_
  obtain ⟨j172, ej172, hr⟩ := vth_ex hr
  have hj172 : ∀ (v16 : Int32) (σ17 : SS), j172 v16 σ17 = some r → WT σ17 → RR g mX3_judgeQuestion (FinR g mX3_judgeQuestion none NF r) zF 172 [(0, .ref (ad g 31)), (1, .ref (ad g a1)), (2, .int a2), (3, .int v2), (4, .int v3), (5, .int v16)] [] σ17 := by
    intro v16 σ17 hr hσ17
    replace hr := (congrFun (congrFun ej172 v16) σ17).symm.trans hr
    refine r_iload (pc := 172) (j := 5) dX3_judgeQuestion_172 rfl ?_
    refine r_istore (pc := 174) (ls1 := [(7, .int v16), (0, .ref (ad g 31)), (1, .ref (ad g a1)), (2, .int a2), (3, .int v2), (4, .int v3), (5, .int v16)]) dX3_judgeQuestion_174 (nle rfl) rfl ?_
    refine r_aload_n (pc := 176) (j := 2) dX3_judgeQuestion_176 rfl rfl ?_
    refine gf1_7 (pc := 177) tw_1_86 hσ17 hs1 dX3_judgeQuestion_177 ?_
    refine r_iload_n (pc := 180) (j := 3) dX3_judgeQuestion_180 rfl rfl ?_
    refine x_zald (pc := 181) (k := (Int32.toNatClampNeg a2)) (sh1_7 hs1) h1 rfl dX3_judgeQuestion_181 ?_
    obtain ⟨j236, ej236, hr⟩ := vth_ex hr
    have hj236 : ∀ (v18 : Int32) (σ19 : SS), j236 v18 σ19 = some r → WT σ19 → RR g mX3_judgeQuestion (FinR g mX3_judgeQuestion none NF r) zF 236 [(0, .ref (ad g 31)), (2, .int a2), (3, .int v2), (4, .int v3), (5, .int v16), (7, .int v18)] [] σ19 := by
      intro v18 σ19 hr hσ19
      replace hr := (congrFun (congrFun ej236 v18) σ19).symm.trans hr
      refine r_aload_n (pc := 236) (j := 0) dX3_judgeQuestion_236 rfl rfl ?_
      refine gf3_7 (pc := 237) tw_2_33 hσ19 dX3_judgeQuestion_237 ?_
      refine r_iload_n (pc := 240) (j := 1) dX3_judgeQuestion_240 rfl rfl ?_
      refine r_iconst (pc := 241) (v := (0 : Int32)) dX3_judgeQuestion_241 rfl ?_
      refine x_iast (pc := 242) (j := (Int32.toNatClampNeg a2)) rfl h1 rfl dX3_judgeQuestion_242 fun σ20 eσ20 => ?_
      replace hr := vthen_inv hr σ20 eσ20
      have hσ20 := wtI eσ20 hσ19
      refine r_aload_n (pc := 243) (j := 0) dX3_judgeQuestion_243 rfl rfl ?_
      refine gf3_9 (pc := 244) tw_2_39 hσ20 dX3_judgeQuestion_244 ?_
      refine r_iload_n (pc := 247) (j := 1) dX3_judgeQuestion_247 rfl rfl ?_
      refine r_iconst (pc := 248) (v := (0 : Int32)) dX3_judgeQuestion_248 rfl ?_
      refine x_iast (pc := 249) (j := (Int32.toNatClampNeg a2)) rfl h1 rfl dX3_judgeQuestion_249 fun σ21 eσ21 => ?_
      replace hr := vthen_inv hr σ21 eσ21
      have hσ21 := wtI eσ21 hσ20
      refine r_iconst (pc := 250) (v := (0 : Int32)) dX3_judgeQuestion_250 rfl ?_
      refine r_istore (pc := 251) (ls1 := [(8, .int (0 : Int32)), (0, .ref (ad g 31)), (2, .int a2), (3, .int v2), (4, .int v3), (5, .int v16), (7, .int v18)]) dX3_judgeQuestion_251 (nle rfl) rfl ?_
      refine r_pick (ls1 := [(0, .ref (ad g 31)), (2, .int a2), (3, .int v2), (4, .int v3), (5, .int v16), (7, .int v18), (8, .int (0 : Int32))]) [1, 2, 3, 4, 5, 6, 0] rfl ?_
      refine sX3_judgeQuestion_L253     fuel (0 : Int32) σ21 hr hσ21
    refine r_if_ne (pc := 182) (tgt := 236) dX3_judgeQuestion_182 rfl (fun hc => ?_) (fun hc => ?_)
    · replace hr := ite_f hc hr
      exact r_pick (ls1 := [(0, .ref (ad g 31)), (2, .int a2), (3, .int v2), (4, .int v3), (5, .int v16), (7, .int v16)]) [1, 3, 4, 5, 6, 0] rfl (hj236 v16 σ17 hr hσ17)
    replace hr := ite_t hc hr
    refine r_iload (pc := 185) (j := 6) dX3_judgeQuestion_185 rfl ?_
    refine r_iconst (pc := 187) (v := (1 : Int32)) dX3_judgeQuestion_187 rfl ?_
    refine r_icmp_le (pc := 188) (tgt := 236) dX3_judgeQuestion_188 rfl (fun hc => ?_) (fun hc => ?_)
    · replace hr := ite_t hc hr
      exact r_pick (ls1 := [(0, .ref (ad g 31)), (2, .int a2), (3, .int v2), (4, .int v3), (5, .int v16), (7, .int v16)]) [1, 3, 4, 5, 6, 0] rfl (hj236 v16 σ17 hr hσ17)
    replace hr := ite_f hc hr
    refine r_aload_n (pc := 191) (j := 1) dX3_judgeQuestion_191 rfl rfl ?_
    refine gf3_4 (pc := 192) tw_2_28 hσ17 dX3_judgeQuestion_192 ?_
    refine r_aload_n (pc := 195) (j := 1) dX3_judgeQuestion_195 rfl rfl ?_
    refine gf3_5 (pc := 196) tw_2_30 hσ17 dX3_judgeQuestion_196 ?_
    refine r_iconst (pc := 199) (v := (0 : Int32)) dX3_judgeQuestion_199 rfl ?_
    refine x_iald (pc := 200) (k := 0) rfl (by decide) rfl dX3_judgeQuestion_200 ?_
    obtain ⟨h29, hr⟩ := grd_inv hr
    refine x_iald (pc := 201) (k := (Int32.toNatClampNeg (gI σ17 52 0))) rfl h29 rfl dX3_judgeQuestion_201 ?_
    refine r_aload_n (pc := 202) (j := 1) dX3_judgeQuestion_202 rfl rfl ?_
    refine gf3_4 (pc := 203) tw_2_28 hσ17 dX3_judgeQuestion_203 ?_
    refine r_aload_n (pc := 206) (j := 1) dX3_judgeQuestion_206 rfl rfl ?_
    refine gf3_5 (pc := 207) tw_2_30 hσ17 dX3_judgeQuestion_207 ?_
    refine r_iconst (pc := 210) (v := (1 : Int32)) dX3_judgeQuestion_210 rfl ?_
    refine x_iald (pc := 211) (k := 1) rfl (by decide) rfl dX3_judgeQuestion_211 ?_
    obtain ⟨h30, hr⟩ := grd_inv hr
    refine x_iald (pc := 212) (k := (Int32.toNatClampNeg (gI σ17 52 1))) rfl h30 rfl dX3_judgeQuestion_212 ?_
    refine r_isub (pc := 213) dX3_judgeQuestion_213 ?_
    refine r_aload_n (pc := 214) (j := 1) dX3_judgeQuestion_214 rfl rfl ?_
    refine gf3_0 (pc := 215) tw_2_20 hσ17 dX3_judgeQuestion_215 ?_
    refine r_iconst (pc := 218) (v := (4 : Int32)) dX3_judgeQuestion_218 rfl ?_
    refine x_iald (pc := 219) (k := 4) rfl (by decide) rfl dX3_judgeQuestion_219 ?_
    refine r_icmp_lt (pc := 220) (tgt := 229) dX3_judgeQuestion_220 rfl (fun hc => ?_) (fun hc => ?_)
    · replace hr := ite_t hc hr
      refine r_aload_n (pc := 229) (j := 1) dX3_judgeQuestion_229 rfl rfl ?_
      refine gf3_8 (pc := 230) tw_2_36 hσ17 dX3_judgeQuestion_230 ?_
      refine r_iload_n (pc := 233) (j := 3) dX3_judgeQuestion_233 rfl rfl ?_
      refine r_iconst (pc := 234) (v := (2 : Int32)) dX3_judgeQuestion_234 rfl ?_
      refine x_iast (pc := 235) (j := (Int32.toNatClampNeg a2)) rfl h1 rfl dX3_judgeQuestion_235 fun σ31 eσ31 => ?_
      replace hr := vthen_inv hr σ31 eσ31
      have hσ31 := wtI eσ31 hσ17
      exact r_pick (ls1 := [(0, .ref (ad g 31)), (2, .int a2), (3, .int v2), (4, .int v3), (5, .int v16), (7, .int v16)]) [1, 3, 4, 5, 6, 0] rfl (hj236 v16 σ31 hr hσ31)
    replace hr := ite_f hc hr
    refine r_iconst (pc := 223) (v := (1 : Int32)) dX3_judgeQuestion_223 rfl ?_
    refine r_istore (pc := 224) (ls1 := [(7, .int (1 : Int32)), (0, .ref (ad g 31)), (1, .ref (ad g a1)), (2, .int a2), (3, .int v2), (4, .int v3), (5, .int v16)]) dX3_judgeQuestion_224 (nle rfl) rfl ?_
    refine r_goto (pc := 226) (tgt := 236) dX3_judgeQuestion_226 rfl ?_
    exact r_pick (ls1 := [(0, .ref (ad g 31)), (2, .int a2), (3, .int v2), (4, .int v3), (5, .int v16), (7, .int (1 : Int32))]) [1, 3, 4, 5, 6, 0] rfl (hj236 (1 : Int32) σ17 hr hσ17)
  refine r_icmp_ge (pc := 142) (tgt := 172) dX3_judgeQuestion_142 rfl (fun hc => ?_) (fun hc => ?_)
  · replace hr := ite_t hc hr
    exact r_pick (ls1 := [(0, .ref (ad g 31)), (1, .ref (ad g a1)), (2, .int a2), (3, .int v2), (4, .int v3), (5, .int v12)]) [0, 1, 2, 3, 4, 5] rfl (hj172 v12 σ15 hr hσ15)
  replace hr := ite_f hc hr
  refine r_iconst (pc := 145) (v := (0 : Int32)) dX3_judgeQuestion_145 rfl ?_
  refine r_istore (pc := 146) (ls1 := [(5, .int (0 : Int32)), (0, .ref (ad g 31)), (1, .ref (ad g a1)), (2, .int a2), (3, .int v2), (4, .int v3), (6, .int v13)]) dX3_judgeQuestion_146 (nle rfl) rfl ?_
  refine r_aload_n (pc := 148) (j := 1) dX3_judgeQuestion_148 rfl rfl ?_
  refine gf3_8 (pc := 149) tw_2_36 hσ15 dX3_judgeQuestion_149 ?_
  refine r_iload_n (pc := 152) (j := 3) dX3_judgeQuestion_152 rfl rfl ?_
  refine r_iconst (pc := 153) (v := (2 : Int32)) dX3_judgeQuestion_153 rfl ?_
  refine r_iload (pc := 154) (j := 6) dX3_judgeQuestion_154 rfl ?_
  refine r_imul (pc := 156) dX3_judgeQuestion_156 ?_
  refine r_aload_n (pc := 157) (j := 1) dX3_judgeQuestion_157 rfl rfl ?_
  refine gf3_0 (pc := 158) tw_2_20 hσ15 dX3_judgeQuestion_158 ?_
  refine r_iconst (pc := 161) (v := (3 : Int32)) dX3_judgeQuestion_161 rfl ?_
  refine x_iald (pc := 162) (k := 3) rfl (by decide) rfl dX3_judgeQuestion_162 ?_
  obtain ⟨j171, ej171, hr⟩ := vth_ex hr
  have hj171 : ∀ (s32 : Int32), j171 s32 = some r → RR g mX3_judgeQuestion (FinR g mX3_judgeQuestion none NF r) zF 171 [(0, .ref (ad g 31)), (1, .ref (ad g a1)), (2, .int a2), (3, .int v2), (4, .int v3), (5, .int (0 : Int32))] [.int s32, .int a2, .ref (ad g 54)] σ15 := by
    intro s32 hr
    replace hr := (congrFun ej171 s32).symm.trans hr
    refine x_iast (pc := 171) (j := (Int32.toNatClampNeg a2)) rfl h1 rfl dX3_judgeQuestion_171 fun σ33 eσ33 => ?_
    replace hr := vthen_inv hr σ33 eσ33
    have hσ33 := wtI eσ33 hσ15
    exact r_pick (ls1 := [(0, .ref (ad g 31)), (1, .ref (ad g a1)), (2, .int a2), (3, .int v2), (4, .int v3), (5, .int (0 : Int32))]) [0, 1, 2, 3, 4, 5] rfl (hj172 (0 : Int32) σ33 hr hσ33)
  refine r_icmp_lt (pc := 163) (tgt := 170) dX3_judgeQuestion_163 rfl (fun hc => ?_) (fun hc => ?_)
  · replace hr := ite_t hc hr
    refine r_iconst (pc := 170) (v := (0 : Int32)) dX3_judgeQuestion_170 rfl ?_
    exact r_pick (ls1 := [(0, .ref (ad g 31)), (1, .ref (ad g a1)), (2, .int a2), (3, .int v2), (4, .int v3), (5, .int (0 : Int32))]) [1, 2, 3, 4, 5, 0] rfl (hj171 (0 : Int32) hr)
  replace hr := ite_f hc hr
  refine r_iconst (pc := 166) (v := (1 : Int32)) dX3_judgeQuestion_166 rfl ?_
  refine r_goto (pc := 167) (tgt := 171) dX3_judgeQuestion_167 rfl ?_
  exact r_pick (ls1 := [(0, .ref (ad g 31)), (1, .ref (ad g a1)), (2, .int a2), (3, .int v2), (4, .int v3), (5, .int (0 : Int32))]) [1, 2, 3, 4, 5, 0] rfl (hj171 (1 : Int32) hr)

theorem kX3_judgeQuestion {g : GG} {σ : SS} {a1 : Nat} {a2 : Int32} {σ2 : SS} {M : MM} {F : State → Array Value → List Frame → State → Prop} {pc index : Nat} {ls : List (Nat × Value)} {rest : List Value} (hf : fX3_judgeQuestion σ a1 a2 = some σ2) (hs1 : shp a1 = (1, 0)) (hl : Cond.methodLink M.1.cls index yX3_judgeQuestion ∈ lw_gt) (hR : mX3_judgeQuestion.2.2.2.2.frames + 1 ≤ M.2.2.2.2.frames ∧ 8 + (mX3_judgeQuestion.2.2.1 + 11) + mX3_judgeQuestion.2.2.2.2.locals ≤ M.2.2.2.2.locals) (hrest : (rest.map fun v => v.category).sum ≤ 8) (hd : decode M.2.1 pc = .ok (.invokevirtual index, 3)) (k : WT σ2 → RR g M F zF (pc + 3) ls rest σ2) : RR g M F zF pc ls (.int a2 :: .ref (ad g a1) :: .ref (ad g 31) :: rest) σ :=
  r_callV (z := zF) (N := mX3_judgeQuestion) (nn := 2) (o1 := none) (sX3_judgeQuestion hf hs1) (rfl : shp 31 = (3, 0)) (by decide) (shp_le (rfl : shp 31 = (3, 0)) (nle rfl)) (ci := 3) rfl rfl tw_3_49 tw_1_5 hl tw_3_48 tp_8 ⟨by decide, by decide, rfl⟩ hR rfl hrest hd ⟨Nat.zero_le _, Nat.zero_le _⟩ rfl (fun h => k (h rfl))

