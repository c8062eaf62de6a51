/-! Walks written by a program out of the bytecode: each method as a function over the store, and its contract. -/
theorem dX3_marksAreFour_0 : decode cX3_marksAreFour 0 = .ok (.iconst 0, 1) := by decide +kernel
theorem dX3_marksAreFour_1 : decode cX3_marksAreFour 1 = .ok (.istore_n 1, 1) := by decide +kernel
theorem dX3_marksAreFour_2 : decode cX3_marksAreFour 2 = .ok (.iload_n 1, 1) := by decide +kernel
theorem dX3_marksAreFour_3 : decode cX3_marksAreFour 3 = .ok (.iconst 4, 1) := by decide +kernel
theorem dX3_marksAreFour_4 : decode cX3_marksAreFour 4 = .ok (.if_icmp .ge 50, 3) := by decide +kernel
theorem dX3_marksAreFour_7 : decode cX3_marksAreFour 7 = .ok (.aload_n 0, 1) := by decide +kernel
theorem dX3_marksAreFour_8 : decode cX3_marksAreFour 8 = .ok (.getfield 22, 3) := by decide +kernel
theorem dX3_marksAreFour_11 : decode cX3_marksAreFour 11 = .ok (.iload_n 1, 1) := by decide +kernel
theorem dX3_marksAreFour_12 : decode cX3_marksAreFour 12 = .ok (.iaload, 1) := by decide +kernel
theorem dX3_marksAreFour_13 : decode cX3_marksAreFour 13 = .ok (.ifCond .ge 5, 3) := by decide +kernel
theorem dX3_marksAreFour_16 : decode cX3_marksAreFour 16 = .ok (.iconst 0, 1) := by decide +kernel
theorem dX3_marksAreFour_17 : decode cX3_marksAreFour 17 = .ok (.ireturn, 1) := by decide +kernel
theorem dX3_marksAreFour_18 : decode cX3_marksAreFour 18 = .ok (.iconst 0, 1) := by decide +kernel
theorem dX3_marksAreFour_19 : decode cX3_marksAreFour 19 = .ok (.istore_n 2, 1) := by decide +kernel
theorem dX3_marksAreFour_20 : decode cX3_marksAreFour 20 = .ok (.iload_n 2, 1) := by decide +kernel
theorem dX3_marksAreFour_21 : decode cX3_marksAreFour 21 = .ok (.iload_n 1, 1) := by decide +kernel
theorem dX3_marksAreFour_22 : decode cX3_marksAreFour 22 = .ok (.if_icmp .ge 26, 3) := by decide +kernel
theorem dX3_marksAreFour_25 : decode cX3_marksAreFour 25 = .ok (.aload_n 0, 1) := by decide +kernel
theorem dX3_marksAreFour_26 : decode cX3_marksAreFour 26 = .ok (.getfield 22, 3) := by decide +kernel
theorem dX3_marksAreFour_29 : decode cX3_marksAreFour 29 = .ok (.iload_n 2, 1) := by decide +kernel
theorem dX3_marksAreFour_30 : decode cX3_marksAreFour 30 = .ok (.iaload, 1) := by decide +kernel
theorem dX3_marksAreFour_31 : decode cX3_marksAreFour 31 = .ok (.aload_n 0, 1) := by decide +kernel
theorem dX3_marksAreFour_32 : decode cX3_marksAreFour 32 = .ok (.getfield 22, 3) := by decide +kernel
theorem dX3_marksAreFour_35 : decode cX3_marksAreFour 35 = .ok (.iload_n 1, 1) := by decide +kernel
theorem dX3_marksAreFour_36 : decode cX3_marksAreFour 36 = .ok (.iaload, 1) := by decide +kernel
theorem dX3_marksAreFour_37 : decode cX3_marksAreFour 37 = .ok (.if_icmp .ne 5, 3) := by decide +kernel
theorem dX3_marksAreFour_40 : decode cX3_marksAreFour 40 = .ok (.iconst 0, 1) := by decide +kernel
theorem dX3_marksAreFour_41 : decode cX3_marksAreFour 41 = .ok (.ireturn, 1) := by decide +kernel
theorem dX3_marksAreFour_42 : decode cX3_marksAreFour 42 = .ok (.iinc 2 1, 3) := by decide +kernel
theorem dX3_marksAreFour_45 : decode cX3_marksAreFour 45 = .ok (.goto (-25), 3) := by decide +kernel
theorem dX3_marksAreFour_48 : decode cX3_marksAreFour 48 = .ok (.iinc 1 1, 3) := by decide +kernel
theorem dX3_marksAreFour_51 : decode cX3_marksAreFour 51 = .ok (.goto (-49), 3) := by decide +kernel
theorem dX3_marksAreFour_54 : decode cX3_marksAreFour 54 = .ok (.iconst 1, 1) := by decide +kernel
theorem dX3_marksAreFour_55 : decode cX3_marksAreFour 55 = .ok (.ireturn, 1) := by decide +kernel
def mX3_marksAreFour : MM := (yX3_marksAreFour, cX3_marksAreFour, 3, Option.some Jvm.ClassFile.FieldType.boolean, { frames := 0, cells := 0, slots := 0, locals := 0 })
def X3_marksAreFour_L20 (σ_ : SS) (u1_ : Int32) (k48 : Unit → Option Bool) : Nat → Int32 → Option Bool :=
  lp (fun _ => none) fun rec v2_ =>
    if u1_ ≤ v2_ then (
      k48 ()
      ) else (
      grd (inb v2_ 4) <|
      grd (inb u1_ 4) <|
      if (gI σ_ 44 (Int32.toNatClampNeg v2_)) = (gI σ_ 44 (Int32.toNatClampNeg u1_)) then (
        some false
        ) else (
        rec (v2_ + (1 : Int32))
        )
      )

def X3_marksAreFour_L2 (σ_ : SS)   : Nat → Int32 → Option Bool :=
  lp (fun _ => none) fun rec v1_ =>
    if (4 : Int32) ≤ v1_ then (
      some true
      ) else (
      grd (inb v1_ 4) <|
      if 0 ≤ (gI σ_ 44 (Int32.toNatClampNeg v1_)) then (
        X3_marksAreFour_L20 σ_ v1_
        (fun _ =>
          rec (v1_ + (1 : Int32))
          )
        fuel (0 : Int32)
        ) else (
        some false
        )
      )

def fX3_marksAreFour (σ0 : SS)  : Option Bool :=
  X3_marksAreFour_L2 σ0
  fuel (0 : Int32)

set_option maxRecDepth 20000 in
theorem sX3_marksAreFour_L20 {g : GG} {r : Bool} {σ_ : SS} {σ0 : SS} {u1_ : Int32} {k48 : Unit → Option Bool} 
    (hw_ : WT σ_)
    (h0_ : σ_ = σ0)
    (hk48 : k48 () = some r → RR g mX3_marksAreFour (FinR g mX3_marksAreFour (some (.int (b2i r))) NF σ0) zF 48 [(0, .ref (ad g 31)), (1, .int u1_)] [] σ_)
    (n : Nat) : ∀ (v2_ : Int32), X3_marksAreFour_L20 σ_ u1_ k48 n v2_ = some r → RR g mX3_marksAreFour (FinR g mX3_marksAreFour (some (.int (b2i r))) NF σ0) zF 20 [(0, .ref (ad g 31)), (1, .int u1_), (2, .int v2_)] [] σ_ := by
  unfold X3_marksAreFour_L20
  refine lp_ind (P := fun (rec : Int32 → Option Bool) => ∀ (v2_ : Int32), rec v2_ = some r → RR g mX3_marksAreFour (FinR g mX3_marksAreFour (some (.int (b2i r))) NF σ0) zF 20 [(0, .ref (ad g 31)), (1, .int u1_), (2, .int v2_)] [] σ_) ?_ ?_ n
  · intro v2_ hr; cases hr
  intro rec ih v2_ hr
  subst h0_
  refine r_iload_n (pc := 20) (j := 2) dX3_marksAreFour_20 rfl rfl ?_
  refine r_iload_n (pc := 21) (j := 1) dX3_marksAreFour_21 rfl rfl ?_
  refine r_icmp_ge (pc := 22) (tgt := 48) dX3_marksAreFour_22 rfl (fun hc => ?_) (fun hc => ?_)
  · replace hr := ite_t hc hr
    exact r_pick (ls1 := [(0, .ref (ad g 31)), (1, .int u1_)]) [0, 1] rfl (hk48  hr)
  replace hr := ite_f hc hr
  refine r_aload_n (pc := 25) (j := 0) dX3_marksAreFour_25 rfl rfl ?_
  refine gf3_2 (pc := 26) tw_2_26 hw_ dX3_marksAreFour_26 ?_
  refine r_iload_n (pc := 29) (j := 2) dX3_marksAreFour_29 rfl rfl ?_
  obtain ⟨h2, hr⟩ := grd_inv hr
  refine x_iald (pc := 30) (k := (Int32.toNatClampNeg v2_)) rfl h2 rfl dX3_marksAreFour_30 ?_
  refine r_aload_n (pc := 31) (j := 0) dX3_marksAreFour_31 rfl rfl ?_
  refine gf3_2 (pc := 32) tw_2_26 hw_ dX3_marksAreFour_32 ?_
  refine r_iload_n (pc := 35) (j := 1) dX3_marksAreFour_35 rfl rfl ?_
  obtain ⟨h3, hr⟩ := grd_inv hr
  refine x_iald (pc := 36) (k := (Int32.toNatClampNeg u1_)) rfl h3 rfl dX3_marksAreFour_36 ?_
  refine r_icmp_ne (pc := 37) (tgt := 42) dX3_marksAreFour_37 rfl (fun hc => ?_) (fun hc => ?_)
  · replace hr := ite_f hc hr
    refine r_iinc (pc := 42) (j := 2) (v := (v2_ + (1 : Int32))) (ls1 := [(2, .int (v2_ + (1 : Int32))), (0, .ref (ad g 31)), (1, .int u1_)]) dX3_marksAreFour_42 rfl rfl (nle rfl) rfl ?_
    refine r_goto (pc := 45) (tgt := 20) dX3_marksAreFour_45 rfl ?_
    exact r_pick (ls1 := [(0, .ref (ad g 31)), (1, .int u1_), (2, .int (v2_ + (1 : Int32)))]) [1, 2, 0] rfl (ih (v2_ + (1 : Int32)) hr)
  replace hr := ite_t hc hr
  refine r_iconst (pc := 40) (v := (0 : Int32)) dX3_marksAreFour_40 rfl ?_
  exact l_opz hr (r_zret (pc := 41) (v := b2i false) (ty := .boolean) rfl (b2i_nar _) rfl ⟨Nat.le_refl _, Nat.le_refl _⟩ dX3_marksAreFour_41)

set_option maxRecDepth 20000 in
theorem sX3_marksAreFour_L2 {g : GG} {r : Bool} {σ_ : SS} {σ0 : SS}   
    (hw_ : WT σ_)
    (h0_ : σ_ = σ0)
    (n : Nat) : ∀ (v1_ : Int32), X3_marksAreFour_L2 σ_ n v1_ = some r → RR g mX3_marksAreFour (FinR g mX3_marksAreFour (some (.int (b2i r))) NF σ0) zF 2 [(0, .ref (ad g 31)), (1, .int v1_)] [] σ_ := by
  unfold X3_marksAreFour_L2
  refine lp_ind (P := fun (rec : Int32 → Option Bool) => ∀ (v1_ : Int32), rec v1_ = some r → RR g mX3_marksAreFour (FinR g mX3_marksAreFour (some (.int (b2i r))) NF σ0) zF 2 [(0, .ref (ad g 31)), (1, .int v1_)] [] σ_) ?_ ?_ n
  · intro v1_ hr; cases hr
  intro rec ih v1_ hr
  subst h0_
  refine r_iload_n (pc := 2) (j := 1) dX3_marksAreFour_2 rfl rfl ?_
  refine r_iconst (pc := 3) (v := (4 : Int32)) dX3_marksAreFour_3 rfl ?_
  refine r_icmp_ge (pc := 4) (tgt := 54) dX3_marksAreFour_4 rfl (fun hc => ?_) (fun hc => ?_)
  · replace hr := ite_t hc hr
    refine r_iconst (pc := 54) (v := (1 : Int32)) dX3_marksAreFour_54 rfl ?_
    exact l_opz hr (r_zret (pc := 55) (v := b2i true) (ty := .boolean) rfl (b2i_nar _) rfl ⟨Nat.le_refl _, Nat.le_refl _⟩ dX3_marksAreFour_55)
  replace hr := ite_f hc hr
  refine r_aload_n (pc := 7) (j := 0) dX3_marksAreFour_7 rfl rfl ?_
  refine gf3_2 (pc := 8) tw_2_26 hw_ dX3_marksAreFour_8 ?_
  refine r_iload_n (pc := 11) (j := 1) dX3_marksAreFour_11 rfl rfl ?_
  obtain ⟨h1, hr⟩ := grd_inv hr
  refine x_iald (pc := 12) (k := (Int32.toNatClampNeg v1_)) rfl h1 rfl dX3_marksAreFour_12 ?_
  refine r_if_ge (pc := 13) (tgt := 18) dX3_marksAreFour_13 rfl (fun hc => ?_) (fun hc => ?_)
  · replace hr := ite_t hc hr
    refine r_iconst (pc := 18) (v := (0 : Int32)) dX3_marksAreFour_18 rfl ?_
    refine r_istore_n (pc := 19) (ls1 := [(2, .int (0 : Int32)), (0, .ref (ad g 31)), (1, .int v1_)]) dX3_marksAreFour_19 rfl (nle rfl) rfl ?_
    refine r_pick (ls1 := [(0, .ref (ad g 31)), (1, .int v1_), (2, .int (0 : Int32))]) [1, 2, 0] rfl ?_
    refine sX3_marksAreFour_L20  hw_ rfl (fun hr => ?_) fuel (0 : Int32) hr
    refine r_iinc (pc := 48) (j := 1) (v := (v1_ + (1 : Int32))) (ls1 := [(1, .int (v1_ + (1 : Int32))), (0, .ref (ad g 31))]) dX3_marksAreFour_48 rfl rfl (nle rfl) rfl ?_
    refine r_goto (pc := 51) (tgt := 2) dX3_marksAreFour_51 rfl ?_
    exact r_pick (ls1 := [(0, .ref (ad g 31)), (1, .int (v1_ + (1 : Int32)))]) [1, 0] rfl (ih (v1_ + (1 : Int32)) hr)
  replace hr := ite_f hc hr
  refine r_iconst (pc := 16) (v := (0 : Int32)) dX3_marksAreFour_16 rfl ?_
  exact l_opz hr (r_zret (pc := 17) (v := b2i false) (ty := .boolean) rfl (b2i_nar _) rfl ⟨Nat.le_refl _, Nat.le_refl _⟩ dX3_marksAreFour_17)

set_option maxRecDepth 20000 in
theorem sX3_marksAreFour {g : GG} {σ0 : SS}  {r : Bool} (hr : fX3_marksAreFour σ0 = some r)  : Ct g mX3_marksAreFour [.ref (ad g 31)] NF σ0 (some (.int (b2i r))) NF σ0 := by
  refine Ct.of (by decide +kernel) (nle rfl) fun hw0 => ?_
  have hw := hw0 rfl
  unfold fX3_marksAreFour at hr
  change RR g mX3_marksAreFour (FinR g mX3_marksAreFour (some (.int (b2i r))) NF σ0) zF 0 [(0, .ref (ad g 31))] [] σ0
  refine r_iconst (pc := 0) (v := (0 : Int32)) dX3_marksAreFour_0 rfl ?_
  refine r_istore_n (pc := 1) (ls1 := [(1, .int (0 : Int32)), (0, .ref (ad g 31))]) dX3_marksAreFour_1 rfl (nle rfl) rfl ?_
  refine r_pick (ls1 := [(0, .ref (ad g 31)), (1, .int (0 : Int32))]) [1, 0] rfl ?_
  refine sX3_marksAreFour_L2  hw rfl  fuel (0 : Int32) hr

theorem kX3_marksAreFour {g : GG} {σ0 : SS}  {v : Bool} {M : MM} {F : State → Array Value → List Frame → State → Prop} {pc index : Nat} {ls : List (Nat × Value)} {rest : List Value} (hf : fX3_marksAreFour σ0 = some v)  (hl : Cond.methodLink M.1.cls index yX3_marksAreFour ∈ lw_gt) (hR : mX3_marksAreFour.2.2.2.2.frames + 1 ≤ M.2.2.2.2.frames ∧ 8 + (mX3_marksAreFour.2.2.1 + 11) + mX3_marksAreFour.2.2.2.2.locals ≤ M.2.2.2.2.locals) (hrest : (rest.map fun v => v.category).sum ≤ 8) (hd : decode M.2.1 pc = .ok (.invokevirtual index, 3)) (k : RR g M F zF (pc + 3) ls (.int (b2i v) :: rest) σ0) : RR g M F zF pc ls (.ref (ad g 31) :: rest) σ0 :=
  r_callV (z := zF) (N := mX3_marksAreFour) (nn := 0) (o1 := some (.int (b2i v))) (sX3_marksAreFour hf ) (rfl : shp 31 = (3, 0)) (by decide) (shp_le (rfl : shp 31 = (3, 0)) (nle rfl)) (ci := 3) rfl rfl tw_4_40 tw_1_5 hl tw_4_39 tp_22 ⟨by decide, by decide, rfl⟩ hR rfl hrest hd ⟨Nat.zero_le _, Nat.zero_le _⟩ rfl (fun h => k)

theorem dX5_put_0 : decode cX5_put 0 = .ok (.aload_n 0, 1) := by decide +kernel
theorem dX5_put_1 : decode cX5_put 1 = .ok (.getfield 9, 3) := by decide +kernel
theorem dX5_put_4 : decode cX5_put 4 = .ok (.iload_n 1, 1) := by decide +kernel
theorem dX5_put_5 : decode cX5_put 5 = .ok (.lload_n 2, 1) := by decide +kernel
theorem dX5_put_6 : decode cX5_put 6 = .ok (.lastore, 1) := by decide +kernel
theorem dX5_put_7 : decode cX5_put 7 = .ok (.aload_n 0, 1) := by decide +kernel
theorem dX5_put_8 : decode cX5_put 8 = .ok (.getfield 15, 3) := by decide +kernel
theorem dX5_put_11 : decode cX5_put 11 = .ok (.iload_n 1, 1) := by decide +kernel
theorem dX5_put_12 : decode cX5_put 12 = .ok (.lload 4, 2) := by decide +kernel
theorem dX5_put_14 : decode cX5_put 14 = .ok (.lastore, 1) := by decide +kernel
theorem dX5_put_15 : decode cX5_put 15 = .ok (.aload_n 0, 1) := by decide +kernel
theorem dX5_put_16 : decode cX5_put 16 = .ok (.getfield 18, 3) := by decide +kernel
theorem dX5_put_19 : decode cX5_put 19 = .ok (.iload_n 1, 1) := by decide +kernel
theorem dX5_put_20 : decode cX5_put 20 = .ok (.lload 6, 2) := by decide +kernel
theorem dX5_put_22 : decode cX5_put 22 = .ok (.lastore, 1) := by decide +kernel
theorem dX5_put_23 : decode cX5_put 23 = .ok (.return_, 1) := by decide +kernel
def mX5_put : MM := (yX5_put, cX5_put, 8, none, { frames := 0, cells := 0, slots := 0, locals := 0 })
def fX5_put (σ : SS) (a1 : Int32) (a2 : Int64) (a4 : Int64) (a6 : Int64) : Option SS :=
  grd (inb a1 4) <|
  vthen (sL σ 46 (Int32.toNatClampNeg a1) a2) fun σ2 =>
  vthen (sL σ2 47 (Int32.toNatClampNeg a1) a4) fun σ3 =>
  vthen (sL σ3 48 (Int32.toNatClampNeg a1) a6) fun σ4 =>
  some σ4

set_option maxRecDepth 20000 in
theorem sX5_put {g : GG} {σ : SS} {a1 : Int32} {a2 : Int64} {a4 : Int64} {a6 : Int64} {r : SS} (hr : fX5_put σ a1 a2 a4 a6 = some r)  : Ct g mX5_put [.ref (ad g 45), .int a1, .long a2, .long a4, .long a6] NF σ none NF r := by
  refine Ct.of (by decide +kernel) (nle rfl) fun hw0 => ?_
  have hw := hw0 rfl
  unfold fX5_put at hr
  change RR g mX5_put (FinR g mX5_put none NF r) zF 0 [(0, .ref (ad g 45)), (1, .int a1), (2, .long a2), (4, .long a4), (6, .long a6)] [] σ
  refine r_aload_n (pc := 0) (j := 0) dX5_put_0 rfl rfl ?_
  refine gf5_0 (pc := 1) tw_1_236 hw dX5_put_1 ?_
  refine r_iload_n (pc := 4) (j := 1) dX5_put_4 rfl rfl ?_
  refine r_lload_n (pc := 5) (j := 2) dX5_put_5 rfl rfl ?_
  obtain ⟨h1, hr⟩ := grd_inv hr
  refine x_last (pc := 6) (j := (Int32.toNatClampNeg a1)) rfl h1 rfl dX5_put_6 fun σ2 eσ2 => ?_
  replace hr := vthen_inv hr σ2 eσ2
  have hσ2 := wtL eσ2 hw
  refine r_aload_n (pc := 7) (j := 0) dX5_put_7 rfl rfl ?_
  refine gf5_1 (pc := 8) tw_1_237 hσ2 dX5_put_8 ?_
  refine r_iload_n (pc := 11) (j := 1) dX5_put_11 rfl rfl ?_
  refine r_lload (pc := 12) (j := 3) dX5_put_12 rfl ?_
  refine x_last (pc := 14) (j := (Int32.toNatClampNeg a1)) rfl h1 rfl dX5_put_14 fun σ3 eσ3 => ?_
  replace hr := vthen_inv hr σ3 eσ3
  have hσ3 := wtL eσ3 hσ2
  refine r_aload_n (pc := 15) (j := 0) dX5_put_15 rfl rfl ?_
  refine gf5_2 (pc := 16) tw_1_238 hσ3 dX5_put_16 ?_
  refine r_iload_n (pc := 19) (j := 1) dX5_put_19 rfl rfl ?_
  refine r_lload (pc := 20) (j := 4) dX5_put_20 rfl ?_
  refine x_last (pc := 22) (j := (Int32.toNatClampNeg a1)) rfl h1 rfl dX5_put_22 fun σ4 eσ4 => ?_
  replace hr := vthen_inv hr σ4 eσ4
  have hσ4 := wtL eσ4 hσ3
  exact l_ov hr (r_vret (pc := 23) rfl rfl ⟨Nat.le_refl _, Nat.le_refl _⟩ dX5_put_23)

theorem kX5_put {g : GG} {σ : SS} {a1 : Int32} {a2 : Int64} {a4 : Int64} {a6 : Int64} {σ2 : SS} {M : MM} {F : State → Array Value → List Frame → State → Prop} {pc index : Nat} {ls : List (Nat × Value)} {rest : List Value} (hf : fX5_put σ a1 a2 a4 a6 = some σ2)  (hl : Cond.methodLink M.1.cls index yX5_put ∈ lw_gt) (hR : mX5_put.2.2.2.2.frames + 1 ≤ M.2.2.2.2.frames ∧ 8 + (mX5_put.2.2.1 + 11) + mX5_put.2.2.2.2.locals ≤ M.2.2.2.2.locals) (hrest : (rest.map fun v => v.category).sum ≤ 8) (hd : decode M.2.1 pc = .ok (.invokevirtual index, 3)) (k : WT σ2 → RR g M F zF (pc + 3) ls rest σ2) : RR g M F zF pc ls (.long a6 :: .long a4 :: .long a2 :: .int a1 :: .ref (ad g 45) :: rest) σ :=
  r_callV (z := zF) (N := mX5_put) (nn := 4) (o1 := none) (sX5_put hf ) (rfl : shp 45 = (5, 0)) (by decide) (shp_le (rfl : shp 45 = (5, 0)) (nle rfl)) (ci := 5) rfl rfl tw_4_44 tw_1_7 hl tw_4_42 tw_4_43 ⟨by decide, by decide, rfl⟩ hR rfl hrest hd ⟨Nat.zero_le _, Nat.zero_le _⟩ rfl (fun h => k (h rfl))

theorem dX3_locate_0 : decode cX3_locate 0 = .ok (.aload_n 0, 1) := by decide +kernel
theorem dX3_locate_1 : decode cX3_locate 1 = .ok (.getfield 18, 3) := by decide +kernel
theorem dX3_locate_4 : decode cX3_locate 4 = .ok (.aload_n 1, 1) := by decide +kernel
theorem dX3_locate_5 : decode cX3_locate 5 = .ok (.aload_n 0, 1) := by decide +kernel
theorem dX3_locate_6 : decode cX3_locate 6 = .ok (.getfield 9, 3) := by decide +kernel
theorem dX3_locate_9 : decode cX3_locate 9 = .ok (.iconst 0, 1) := by decide +kernel
theorem dX3_locate_10 : decode cX3_locate 10 = .ok (.iaload, 1) := by decide +kernel
theorem dX3_locate_11 : decode cX3_locate 11 = .ok (.aload_n 0, 1) := by decide +kernel
theorem dX3_locate_12 : decode cX3_locate 12 = .ok (.getfield 9, 3) := by decide +kernel
theorem dX3_locate_15 : decode cX3_locate 15 = .ok (.iconst 1, 1) := by decide +kernel
theorem dX3_locate_16 : decode cX3_locate 16 = .ok (.iaload, 1) := by decide +kernel
theorem dX3_locate_17 : decode cX3_locate 17 = .ok (.invokevirtual 53, 3) := by decide +kernel
theorem dX3_locate_20 : decode cX3_locate 20 = .ok (.iconst 0, 1) := by decide +kernel
theorem dX3_locate_21 : decode cX3_locate 21 = .ok (.istore_n 2, 1) := by decide +kernel
theorem dX3_locate_22 : decode cX3_locate 22 = .ok (.iload_n 2, 1) := by decide +kernel
theorem dX3_locate_23 : decode cX3_locate 23 = .ok (.iconst 4, 1) := by decide +kernel
theorem dX3_locate_24 : decode cX3_locate 24 = .ok (.if_icmp .ge 66, 3) := by decide +kernel
theorem dX3_locate_27 : decode cX3_locate 27 = .ok (.iload_n 2, 1) := by decide +kernel
theorem dX3_locate_28 : decode cX3_locate 28 = .ok (.iconst 2, 1) := by decide +kernel
theorem dX3_locate_29 : decode cX3_locate 29 = .ok (.irem, 1) := by decide +kernel
theorem dX3_locate_30 : decode cX3_locate 30 = .ok (.ifCond .ne 7, 3) := by decide +kernel
theorem dX3_locate_33 : decode cX3_locate 33 = .ok (.iconst 0, 1) := by decide +kernel
theorem dX3_locate_34 : decode cX3_locate 34 = .ok (.goto 9, 3) := by decide +kernel
theorem dX3_locate_37 : decode cX3_locate 37 = .ok (.aload_n 1, 1) := by decide +kernel
theorem dX3_locate_38 : decode cX3_locate 38 = .ok (.getfield 57, 3) := by decide +kernel
theorem dX3_locate_41 : decode cX3_locate 41 = .ok (.iconst 1, 1) := by decide +kernel
theorem dX3_locate_42 : decode cX3_locate 42 = .ok (.isub, 1) := by decide +kernel
theorem dX3_locate_43 : decode cX3_locate 43 = .ok (.istore_n 3, 1) := by decide +kernel
theorem dX3_locate_44 : decode cX3_locate 44 = .ok (.iload_n 2, 1) := by decide +kernel
theorem dX3_locate_45 : decode cX3_locate 45 = .ok (.iconst 2, 1) := by decide +kernel
theorem dX3_locate_46 : decode cX3_locate 46 = .ok (.idiv, 1) := by decide +kernel
theorem dX3_locate_47 : decode cX3_locate 47 = .ok (.ifCond .ne 7, 3) := by decide +kernel
theorem dX3_locate_50 : decode cX3_locate 50 = .ok (.iconst 0, 1) := by decide +kernel
theorem dX3_locate_51 : decode cX3_locate 51 = .ok (.goto 9, 3) := by decide +kernel
theorem dX3_locate_54 : decode cX3_locate 54 = .ok (.aload_n 1, 1) := by decide +kernel
theorem dX3_locate_55 : decode cX3_locate 55 = .ok (.getfield 63, 3) := by decide +kernel
theorem dX3_locate_58 : decode cX3_locate 58 = .ok (.iconst 1, 1) := by decide +kernel
theorem dX3_locate_59 : decode cX3_locate 59 = .ok (.isub, 1) := by decide +kernel
theorem dX3_locate_60 : decode cX3_locate 60 = .ok (.istore 4, 2) := by decide +kernel
theorem dX3_locate_62 : decode cX3_locate 62 = .ok (.aload_n 0, 1) := by decide +kernel
theorem dX3_locate_63 : decode cX3_locate 63 = .ok (.getfield 22, 3) := by decide +kernel
theorem dX3_locate_66 : decode cX3_locate 66 = .ok (.iload_n 2, 1) := by decide +kernel
theorem dX3_locate_67 : decode cX3_locate 67 = .ok (.aload_n 0, 1) := by decide +kernel
theorem dX3_locate_68 : decode cX3_locate 68 = .ok (.getfield 18, 3) := by decide +kernel
theorem dX3_locate_71 : decode cX3_locate 71 = .ok (.iload_n 3, 1) := by decide +kernel
theorem dX3_locate_72 : decode cX3_locate 72 = .ok (.iload 4, 2) := by decide +kernel
theorem dX3_locate_74 : decode cX3_locate 74 = .ok (.aload_n 0, 1) := by decide +kernel
theorem dX3_locate_75 : decode cX3_locate 75 = .ok (.getfield 9, 3) := by decide +kernel
theorem dX3_locate_78 : decode cX3_locate 78 = .ok (.iconst 2, 1) := by decide +kernel
theorem dX3_locate_79 : decode cX3_locate 79 = .ok (.iaload, 1) := by decide +kernel
theorem dX3_locate_80 : decode cX3_locate 80 = .ok (.invokevirtual 66, 3) := by decide +kernel
theorem dX3_locate_83 : decode cX3_locate 83 = .ok (.iastore, 1) := by decide +kernel
theorem dX3_locate_84 : decode cX3_locate 84 = .ok (.iinc 2 1, 3) := by decide +kernel
theorem dX3_locate_87 : decode cX3_locate 87 = .ok (.goto (-65), 3) := by decide +kernel
theorem dX3_locate_90 : decode cX3_locate 90 = .ok (.aload_n 0, 1) := by decide +kernel
theorem dX3_locate_91 : decode cX3_locate 91 = .ok (.invokevirtual 70, 3) := by decide +kernel
theorem dX3_locate_94 : decode cX3_locate 94 = .ok (.ifCond .ne 5, 3) := by decide +kernel
theorem dX3_locate_97 : decode cX3_locate 97 = .ok (.iconst 0, 1) := by decide +kernel
theorem dX3_locate_98 : decode cX3_locate 98 = .ok (.ireturn, 1) := by decide +kernel
theorem dX3_locate_99 : decode cX3_locate 99 = .ok (.iconst 0, 1) := by decide +kernel
theorem dX3_locate_100 : decode cX3_locate 100 = .ok (.istore_n 2, 1) := by decide +kernel
theorem dX3_locate_101 : decode cX3_locate 101 = .ok (.iload_n 2, 1) := by decide +kernel
theorem dX3_locate_102 : decode cX3_locate 102 = .ok (.iconst 4, 1) := by decide +kernel
theorem dX3_locate_103 : decode cX3_locate 103 = .ok (.if_icmp .ge 54, 3) := by decide +kernel
theorem dX3_locate_106 : decode cX3_locate 106 = .ok (.aload_n 0, 1) := by decide +kernel
theorem dX3_locate_107 : decode cX3_locate 107 = .ok (.getfield 22, 3) := by decide +kernel
theorem dX3_locate_110 : decode cX3_locate 110 = .ok (.iload_n 2, 1) := by decide +kernel
theorem dX3_locate_111 : decode cX3_locate 111 = .ok (.iaload, 1) := by decide +kernel
theorem dX3_locate_112 : decode cX3_locate 112 = .ok (.istore_n 3, 1) := by decide +kernel
theorem dX3_locate_113 : decode cX3_locate 113 = .ok (.aload_n 0, 1) := by decide +kernel
theorem dX3_locate_114 : decode cX3_locate 114 = .ok (.getfield 28, 3) := by decide +kernel
theorem dX3_locate_117 : decode cX3_locate 117 = .ok (.iload_n 2, 1) := by decide +kernel
theorem dX3_locate_118 : decode cX3_locate 118 = .ok (.aload_n 0, 1) := by decide +kernel
theorem dX3_locate_119 : decode cX3_locate 119 = .ok (.getfield 18, 3) := by decide +kernel
theorem dX3_locate_122 : decode cX3_locate 122 = .ok (.getfield 74, 3) := by decide +kernel
theorem dX3_locate_125 : decode cX3_locate 125 = .ok (.iload_n 3, 1) := by decide +kernel
theorem dX3_locate_126 : decode cX3_locate 126 = .ok (.iaload, 1) := by decide +kernel
theorem dX3_locate_127 : decode cX3_locate 127 = .ok (.i2l, 1) := by decide +kernel
theorem dX3_locate_128 : decode cX3_locate 128 = .ok (.aload_n 0, 1) := by decide +kernel
theorem dX3_locate_129 : decode cX3_locate 129 = .ok (.getfield 18, 3) := by decide +kernel
theorem dX3_locate_132 : decode cX3_locate 132 = .ok (.getfield 77, 3) := by decide +kernel
theorem dX3_locate_135 : decode cX3_locate 135 = .ok (.iload_n 3, 1) := by decide +kernel
theorem dX3_locate_136 : decode cX3_locate 136 = .ok (.iaload, 1) := by decide +kernel
theorem dX3_locate_137 : decode cX3_locate 137 = .ok (.i2l, 1) := by decide +kernel
theorem dX3_locate_138 : decode cX3_locate 138 = .ok (.aload_n 0, 1) := by decide +kernel
theorem dX3_locate_139 : decode cX3_locate 139 = .ok (.getfield 18, 3) := by decide +kernel
theorem dX3_locate_142 : decode cX3_locate 142 = .ok (.getfield 80, 3) := by decide +kernel
theorem dX3_locate_145 : decode cX3_locate 145 = .ok (.iload_n 3, 1) := by decide +kernel
theorem dX3_locate_146 : decode cX3_locate 146 = .ok (.iaload, 1) := by decide +kernel
theorem dX3_locate_147 : decode cX3_locate 147 = .ok (.i2l, 1) := by decide +kernel
theorem dX3_locate_148 : decode cX3_locate 148 = .ok (.invokevirtual 83, 3) := by decide +kernel
theorem dX3_locate_151 : decode cX3_locate 151 = .ok (.iinc 2 1, 3) := by decide +kernel
theorem dX3_locate_154 : decode cX3_locate 154 = .ok (.goto (-53), 3) := by decide +kernel
theorem dX3_locate_157 : decode cX3_locate 157 = .ok (.iconst 1, 1) := by decide +kernel
theorem dX3_locate_158 : decode cX3_locate 158 = .ok (.ireturn, 1) := by decide +kernel
def mX3_locate : MM := (yX3_locate, cX3_locate, 5, Option.some Jvm.ClassFile.FieldType.boolean, { frames := 3, cells := 0, slots := 0, locals := 78 })
def X3_locate_L22 (o1_ : Nat) (k90 : SS → Option (Bool × SS)) : Nat → Int32 → SS → Option (Bool × SS) :=
  lp (fun _ _ => none) fun rec v2_ σ_ =>
    if (4 : Int32) ≤ v2_ then (
      k90 σ_
      ) else (
      vthen (fun (s2 : Int32) =>
        vthen (fun (s3 : Int32) =>
          bnd1 (fX0_nearest σ_ s2 s3 (gI σ_ 32 2)) fun v4 =>
          grd (inb v2_ 4) <|
          vthen (sI σ_ 44 (Int32.toNatClampNeg v2_) v4) fun σ8 =>
          rec (v2_ + (1 : Int32)) σ8
          ) fun j60 =>
        if (v2_ / (2 : Int32)) = 0 then (
          j60 (0 : Int32)
          ) else (
          j60 ((gI σ_ o1_ 1) - (1 : Int32))
          )
        ) fun j43 =>
      if (irm v2_ (2 : Int32)) = 0 then (
        j43 (0 : Int32)
        ) else (
        j43 ((gI σ_ o1_ 0) - (1 : Int32))
        )
      )

def X3_locate_L101   : Nat → Int32 → SS → Option (Bool × SS) :=
  lp (fun _ _ => none) fun rec v2_ σ_ =>
    if (4 : Int32) ≤ v2_ then (
      some (true, σ_)
      ) else (
      grd (inb v2_ 4) <|
      vthen (gI σ_ 44 (Int32.toNatClampNeg v2_)) fun v14 =>
      grd (inb v14 800) <|
      bnd1 (fX5_put σ_ v2_ (Int32.toInt64 (gI σ_ 35 (Int32.toNatClampNeg v14))) (Int32.toInt64 (gI σ_ 36 (Int32.toNatClampNeg v14))) (Int32.toInt64 (gI σ_ 34 (Int32.toNatClampNeg v14)))) fun σ16 =>
      rec (v2_ + (1 : Int32)) σ16
      )

def fX3_locate (σ : SS) (a1 : Nat) : Option (Bool × SS) :=
  bnd1 (fX0_find σ a1 (gI σ 32 0) (gI σ 32 1)) fun σ1 =>
  X3_locate_L22 a1
  (fun σ9 =>
    bnd1 (fX3_marksAreFour σ9) fun b11 =>
    if b11 = true then (
      X3_locate_L101
      fuel (0 : Int32) σ9
      ) else (
      some (false, σ9)
      )
    )
  fuel (0 : Int32) σ1

set_option maxRecDepth 20000 in
theorem sX3_locate_L22 {g : GG} {r : Bool × SS} {o1_ : Nat} {k90 : SS → Option (Bool × SS)} (hs1_ : shp o1_ = (6, 0))
    (hk90 : ∀ (σ_ : SS), k90 σ_ = some r → WT σ_ → RR g mX3_locate (FinR g mX3_locate (some (.int (b2i r.1))) NF r.2) zF 90 [(0, .ref (ad g 31))] [] σ_)
    (n : Nat) : ∀ (v2_ : Int32) (σ_ : SS), X3_locate_L22 o1_ k90 n v2_ σ_ = some r → WT σ_ → RR g mX3_locate (FinR g mX3_locate (some (.int (b2i r.1))) NF r.2) zF 22 [(0, .ref (ad g 31)), (1, .ref (ad g o1_)), (2, .int v2_)] [] σ_ := by
  unfold X3_locate_L22
  refine lp_ind (P := fun (rec : Int32 → SS → Option (Bool × SS)) => ∀ (v2_ : Int32) (σ_ : SS), rec v2_ σ_ = some r → WT σ_ → RR g mX3_locate (FinR g mX3_locate (some (.int (b2i r.1))) NF r.2) zF 22 [(0, .ref (ad g 31)), (1, .ref (ad g o1_)), (2, .int v2_)] [] σ_) ?_ ?_ n
  · intro v2_ σ_ hr; cases hr
  intro rec ih v2_ σ_ hr hw_
  refine r_iload_n (pc := 22) (j := 2) dX3_locate_22 rfl rfl ?_
  refine r_iconst (pc := 23) (v := (4 : Int32)) dX3_locate_23 rfl ?_
  refine r_icmp_ge (pc := 24) (tgt := 90) dX3_locate_24 rfl (fun hc => ?_) (fun hc => ?_)
  · replace hr := ite_t hc hr
    exact r_pick (ls1 := [(0, .ref (ad g 31))]) [0] rfl (hk90 σ_ hr hw_)
  replace hr := ite_f hc hr
  refine r_iload_n (pc := 27) (j := 2) dX3_locate_27 rfl rfl ?_
  refine r_iconst (pc := 28) (v := (2 : Int32)) dX3_locate_28 rfl ?_
  refine r_irem (pc := 29) dX3_locate_29 (by decide) ?_
  obtain ⟨j43, ej43, hr⟩ := vth_ex hr
  have hj43 : ∀ (s2 : Int32), j43 s2 = some r → RR g mX3_locate (FinR g mX3_locate (some (.int (b2i r.1))) NF r.2) zF 43 [(0, .ref (ad g 31)), (1, .ref (ad g o1_)), (2, .int v2_)] [.int s2] σ_ := by
    intro s2 hr
    replace hr := (congrFun ej43 s2).symm.trans hr
    refine r_istore_n (pc := 43) (ls1 := [(3, .int s2), (0, .ref (ad g 31)), (1, .ref (ad g o1_)), (2, .int v2_)]) dX3_locate_43 rfl (nle rfl) rfl ?_
    refine r_iload_n (pc := 44) (j := 3) dX3_locate_44 rfl rfl ?_
    refine r_iconst (pc := 45) (v := (2 : Int32)) dX3_locate_45 rfl ?_
    refine r_idiv (pc := 46) dX3_locate_46 (by decide) ?_
    obtain ⟨j60, ej60, hr⟩ := vth_ex hr
    have hj60 : ∀ (s3 : Int32), j60 s3 = some r → RR g mX3_locate (FinR g mX3_locate (some (.int (b2i r.1))) NF r.2) zF 60 [(0, .ref (ad g 31)), (1, .ref (ad g o1_)), (2, .int v2_), (3, .int s2)] [.int s3] σ_ := by
      intro s3 hr
      replace hr := (congrFun ej60 s3).symm.trans hr
      refine r_istore (pc := 60) (ls1 := [(4, .int s3), (0, .ref (ad g 31)), (1, .ref (ad g o1_)), (2, .int v2_), (3, .int s2)]) dX3_locate_60 (nle rfl) rfl ?_
      refine r_aload_n (pc := 62) (j := 1) dX3_locate_62 rfl rfl ?_
      refine gf3_2 (pc := 63) tw_2_26 hw_ dX3_locate_63 ?_
      refine r_iload_n (pc := 66) (j := 3) dX3_locate_66 rfl rfl ?_
      refine r_aload_n (pc := 67) (j := 1) dX3_locate_67 rfl rfl ?_
      refine gf3_1 (pc := 68) tw_2_24 hw_ dX3_locate_68 ?_
      refine r_iload_n (pc := 71) (j := 4) dX3_locate_71 rfl rfl ?_
      refine r_iload (pc := 72) (j := 0) dX3_locate_72 rfl ?_
      refine r_aload_n (pc := 74) (j := 1) dX3_locate_74 rfl rfl ?_
      refine gf3_0 (pc := 75) tw_2_22 hw_ dX3_locate_75 ?_
      refine r_iconst (pc := 78) (v := (2 : Int32)) dX3_locate_78 rfl ?_
      refine x_iald (pc := 79) (k := 2) rfl (by decide) rfl dX3_locate_79 ?_
      obtain ⟨v4, hv4, hr⟩ := bnd1_inv hr
      refine kX0_nearest (pc := 80) hv4 tw_4_33 ⟨nle rfl, nle rfl⟩ (nle rfl) dX3_locate_80 ?_
      obtain ⟨h7, hr⟩ := grd_inv hr
      refine x_iast (pc := 83) (j := (Int32.toNatClampNeg v2_)) rfl h7 rfl dX3_locate_83 fun σ8 eσ8 => ?_
      replace hr := vthen_inv hr σ8 eσ8
      have hσ8 := wtI eσ8 hw_
      refine r_iinc (pc := 84) (j := 3) (v := (v2_ + (1 : Int32))) (ls1 := [(2, .int (v2_ + (1 : Int32))), (4, .int s3), (0, .ref (ad g 31)), (1, .ref (ad g o1_)), (3, .int s2)]) dX3_locate_84 rfl rfl (nle rfl) rfl ?_
      refine r_goto (pc := 87) (tgt := 22) dX3_locate_87 rfl ?_
      exact r_pick (ls1 := [(0, .ref (ad g 31)), (1, .ref (ad g o1_)), (2, .int (v2_ + (1 : Int32)))]) [2, 3, 0] rfl (ih (v2_ + (1 : Int32)) σ8 hr hσ8)
    refine r_if_ne (pc := 47) (tgt := 54) dX3_locate_47 rfl (fun hc => ?_) (fun hc => ?_)
    · replace hr := ite_f hc hr
      refine r_aload_n (pc := 54) (j := 2) dX3_locate_54 rfl rfl ?_
      refine gf6_1 (pc := 55) tw_1_36 hs1_ dX3_locate_55 ?_
      refine r_iconst (pc := 58) (v := (1 : Int32)) dX3_locate_58 rfl ?_
      refine r_isub (pc := 59) dX3_locate_59 ?_
      exact r_pick (ls1 := [(0, .ref (ad g 31)), (1, .ref (ad g o1_)), (2, .int v2_), (3, .int s2)]) [1, 2, 3, 0] rfl (hj60 ((gI σ_ o1_ 1) - (1 : Int32)) hr)
    replace hr := ite_t hc hr
    refine r_iconst (pc := 50) (v := (0 : Int32)) dX3_locate_50 rfl ?_
    refine r_goto (pc := 51) (tgt := 60) dX3_locate_51 rfl ?_
    exact r_pick (ls1 := [(0, .ref (ad g 31)), (1, .ref (ad g o1_)), (2, .int v2_), (3, .int s2)]) [1, 2, 3, 0] rfl (hj60 (0 : Int32) hr)
  refine r_if_ne (pc := 30) (tgt := 37) dX3_locate_30 rfl (fun hc => ?_) (fun hc => ?_)
  · replace hr := ite_f hc hr
    refine r_aload_n (pc := 37) (j := 1) dX3_locate_37 rfl rfl ?_
    refine gf6_0 (pc := 38) tw_1_33 hs1_ dX3_locate_38 ?_
    refine r_iconst (pc := 41) (v := (1 : Int32)) dX3_locate_41 rfl ?_
    refine r_isub (pc := 42) dX3_locate_42 ?_
    exact r_pick (ls1 := [(0, .ref (ad g 31)), (1, .ref (ad g o1_)), (2, .int v2_)]) [0, 1, 2] rfl (hj43 ((gI σ_ o1_ 0) - (1 : Int32)) hr)
  replace hr := ite_t hc hr
  refine r_iconst (pc := 33) (v := (0 : Int32)) dX3_locate_33 rfl ?_
  refine r_goto (pc := 34) (tgt := 43) dX3_locate_34 rfl ?_
  exact r_pick (ls1 := [(0, .ref (ad g 31)), (1, .ref (ad g o1_)), (2, .int v2_)]) [0, 1, 2] rfl (hj43 (0 : Int32) hr)

set_option maxRecDepth 20000 in
theorem sX3_locate_L101 {g : GG} {r : Bool × SS}   
    (n : Nat) : ∀ (v2_ : Int32) (σ_ : SS), X3_locate_L101 n v2_ σ_ = some r → WT σ_ → RR g mX3_locate (FinR g mX3_locate (some (.int (b2i r.1))) NF r.2) zF 101 [(0, .ref (ad g 31)), (2, .int v2_)] [] σ_ := by
  unfold X3_locate_L101
  refine lp_ind (P := fun (rec : Int32 → SS → Option (Bool × SS)) => ∀ (v2_ : Int32) (σ_ : SS), rec v2_ σ_ = some r → WT σ_ → RR g mX3_locate (FinR g mX3_locate (some (.int (b2i r.1))) NF r.2) zF 101 [(0, .ref (ad g 31)), (2, .int v2_)] [] σ_) ?_ ?_ n
  · intro v2_ σ_ hr; cases hr
  intro rec ih v2_ σ_ hr hw_
  refine r_iload_n (pc := 101) (j := 1) dX3_locate_101 rfl rfl ?_
  refine r_iconst (pc := 102) (v := (4 : Int32)) dX3_locate_102 rfl ?_
  refine r_icmp_ge (pc := 103) (tgt := 157) dX3_locate_103 rfl (fun hc => ?_) (fun hc => ?_)
  · replace hr := ite_t hc hr
    refine r_iconst (pc := 157) (v := (1 : Int32)) dX3_locate_157 rfl ?_
    exact l_osz hr (r_zret (pc := 158) (v := b2i true) (ty := .boolean) rfl (b2i_nar _) rfl ⟨Nat.le_refl _, Nat.le_refl _⟩ dX3_locate_158)
  replace hr := ite_f hc hr
  refine r_aload_n (pc := 106) (j := 0) dX3_locate_106 rfl rfl ?_
  refine gf3_2 (pc := 107) tw_2_26 hw_ dX3_locate_107 ?_
  refine r_iload_n (pc := 110) (j := 1) dX3_locate_110 rfl rfl ?_
  obtain ⟨h13, hr⟩ := grd_inv hr
  refine x_iald (pc := 111) (k := (Int32.toNatClampNeg v2_)) rfl h13 rfl dX3_locate_111 ?_
  refine r_topi fun v14 ev14 => ?_
  replace hr := vthen_inv hr v14 ev14
  refine r_istore_n (pc := 112) (ls1 := [(3, .int v14), (0, .ref (ad g 31)), (2, .int v2_)]) dX3_locate_112 rfl (nle rfl) rfl ?_
  refine r_aload_n (pc := 113) (j := 1) dX3_locate_113 rfl rfl ?_
  refine gf3_3 (pc := 114) tw_2_28 hw_ dX3_locate_114 ?_
  refine r_iload_n (pc := 117) (j := 2) dX3_locate_117 rfl rfl ?_
  refine r_aload_n (pc := 118) (j := 1) dX3_locate_118 rfl rfl ?_
  refine gf3_1 (pc := 119) tw_2_24 hw_ dX3_locate_119 ?_
  refine gf0_2 (pc := 122) tw_1_189 hw_ dX3_locate_122 ?_
  refine r_iload_n (pc := 125) (j := 0) dX3_locate_125 rfl rfl ?_
  obtain ⟨h15, hr⟩ := grd_inv hr
  refine x_iald (pc := 126) (k := (Int32.toNatClampNeg v14)) rfl h15 rfl dX3_locate_126 ?_
  refine r_i2l (pc := 127) dX3_locate_127 ?_
  refine r_aload_n (pc := 128) (j := 1) dX3_locate_128 rfl rfl ?_
  refine gf3_1 (pc := 129) tw_2_24 hw_ dX3_locate_129 ?_
  refine gf0_3 (pc := 132) tw_1_192 hw_ dX3_locate_132 ?_
  refine r_iload_n (pc := 135) (j := 0) dX3_locate_135 rfl rfl ?_
  refine x_iald (pc := 136) (k := (Int32.toNatClampNeg v14)) rfl h15 rfl dX3_locate_136 ?_
  refine r_i2l (pc := 137) dX3_locate_137 ?_
  refine r_aload_n (pc := 138) (j := 1) dX3_locate_138 rfl rfl ?_
  refine gf3_1 (pc := 139) tw_2_24 hw_ dX3_locate_139 ?_
  refine gf0_1 (pc := 142) tw_1_186 hw_ dX3_locate_142 ?_
  refine r_iload_n (pc := 145) (j := 0) dX3_locate_145 rfl rfl ?_
  refine x_iald (pc := 146) (k := (Int32.toNatClampNeg v14)) rfl h15 rfl dX3_locate_146 ?_
  refine r_i2l (pc := 147) dX3_locate_147 ?_
  obtain ⟨σ16, eσ16, hr⟩ := bnd1_inv hr
  refine kX5_put (pc := 148) eσ16 tw_4_41 ⟨nle rfl, nle rfl⟩ (nle rfl) dX3_locate_148 fun hσ16 => ?_
  refine r_iinc (pc := 151) (j := 2) (v := (v2_ + (1 : Int32))) (ls1 := [(2, .int (v2_ + (1 : Int32))), (3, .int v14), (0, .ref (ad g 31))]) dX3_locate_151 rfl rfl (nle rfl) rfl ?_
  refine r_goto (pc := 154) (tgt := 101) dX3_locate_154 rfl ?_
  exact r_pick (ls1 := [(0, .ref (ad g 31)), (2, .int (v2_ + (1 : Int32)))]) [2, 0] rfl (ih (v2_ + (1 : Int32)) σ16 hr hσ16)

set_option maxRecDepth 20000 in
theorem sX3_locate {g : GG} {σ : SS} {a1 : Nat} {r : Bool × SS} (hr : fX3_locate σ a1 = some r) (hs1 : shp a1 = (6, 0)) : Ct g mX3_locate [.ref (ad g 31), .ref (ad g a1)] NF σ (some (.int (b2i r.1))) NF r.2 := by
  refine Ct.of (by decide +kernel) (nle rfl) fun hw0 => ?_
  have hw := hw0 rfl
  unfold fX3_locate at hr
  change RR g mX3_locate (FinR g mX3_locate (some (.int (b2i r.1))) NF r.2) zF 0 [(0, .ref (ad g 31)), (1, .ref (ad g a1))] [] σ
  refine r_aload_n (pc := 0) (j := 0) dX3_locate_0 rfl rfl ?_
  refine gf3_1 (pc := 1) tw_2_24 hw dX3_locate_1 ?_
  refine r_aload_n (pc := 4) (j := 1) dX3_locate_4 rfl rfl ?_
  refine r_aload_n (pc := 5) (j := 0) dX3_locate_5 rfl rfl ?_
  refine gf3_0 (pc := 6) tw_2_22 hw dX3_locate_6 ?_
  refine r_iconst (pc := 9) (v := (0 : Int32)) dX3_locate_9 rfl ?_
  refine x_iald (pc := 10) (k := 0) rfl (by decide) rfl dX3_locate_10 ?_
  refine r_aload_n (pc := 11) (j := 0) dX3_locate_11 rfl rfl ?_
  refine gf3_0 (pc := 12) tw_2_22 hw dX3_locate_12 ?_
  refine r_iconst (pc := 15) (v := (1 : Int32)) dX3_locate_15 rfl ?_
  refine x_iald (pc := 16) (k := 1) rfl (by decide) rfl dX3_locate_16 ?_
  obtain ⟨σ1, eσ1, hr⟩ := bnd1_inv hr
  refine kX0_find (pc := 17) eσ1 hs1 tw_4_32 ⟨nle rfl, nle rfl⟩ (nle rfl) dX3_locate_17 fun hσ1 => ?_
  refine r_iconst (pc := 20) (v := (0 : Int32)) dX3_locate_20 rfl ?_
  refine r_istore_n (pc := 21) (ls1 := [(2, .int (0 : Int32)), (0, .ref (ad g 31)), (1, .ref (ad g a1))]) dX3_locate_21 rfl (nle rfl) rfl ?_
  refine r_pick (ls1 := [(0, .ref (ad g 31)), (1, .ref (ad g a1)), (2, .int (0 : Int32))]) [1, 2, 0] rfl ?_
  refine sX3_locate_L22 hs1   (fun σ9 hr hσ9 => ?_) fuel (0 : Int32) σ1 hr hσ1
  refine r_aload_n (pc := 90) (j := 0) dX3_locate_90 rfl rfl ?_
  obtain ⟨b11, hb11, hr⟩ := bnd1_inv hr
  refine kX3_marksAreFour (pc := 91) hb11 tw_4_37 ⟨nle rfl, nle rfl⟩ (nle rfl) dX3_locate_91 ?_
  refine r_ifB_ne (pc := 94) (tgt := 99) dX3_locate_94 rfl (fun hc => ?_) (fun hc => ?_)
  · replace hr := ite_t hc hr
    refine r_iconst (pc := 99) (v := (0 : Int32)) dX3_locate_99 rfl ?_
    refine r_istore_n (pc := 100) (ls1 := [(2, .int (0 : Int32)), (0, .ref (ad g 31))]) dX3_locate_100 rfl (nle rfl) rfl ?_
    refine r_pick (ls1 := [(0, .ref (ad g 31)), (2, .int (0 : Int32))]) [1, 0] rfl ?_
    refine sX3_locate_L101     fuel (0 : Int32) σ9 hr hσ9
  replace hr := ite_f hc hr
  refine r_iconst (pc := 97) (v := (0 : Int32)) dX3_locate_97 rfl ?_
  exact l_osz hr (r_zret (pc := 98) (v := b2i false) (ty := .boolean) rfl (b2i_nar _) rfl ⟨Nat.le_refl _, Nat.le_refl _⟩ dX3_locate_98)

theorem kX3_locate {g : GG} {σ : SS} {a1 : Nat} {v : Bool} {σ2 : SS} {M : MM} {F : State → Array Value → List Frame → State → Prop} {pc index : Nat} {ls : List (Nat × Value)} {rest : List Value} (hf : fX3_locate σ a1 = some (v, σ2)) (hs1 : shp a1 = (6, 0)) (hl : Cond.methodLink M.1.cls index yX3_locate ∈ lw_gt) (hR : mX3_locate.2.2.2.2.frames + 1 ≤ M.2.2.2.2.frames ∧ 8 + (mX3_locate.2.2.1 + 11) + mX3_locate.2.2.2.2.locals ≤ M.2.2.2.2.locals) (hrest : (rest.map fun v => v.category).sum ≤ 8) (hd : decode M.2.1 pc = .ok (.invokevirtual index, 3)) (k : WT σ2 → RR g M F zF (pc + 3) ls (.int (b2i v) :: rest) σ2) : RR g M F zF pc ls (.ref (ad g a1) :: .ref (ad g 31) :: rest) σ :=
  r_callV (z := zF) (N := mX3_locate) (nn := 1) (o1 := some (.int (b2i v))) (sX3_locate hf hs1) (rfl : shp 31 = (3, 0)) (by decide) (shp_le (rfl : shp 31 = (3, 0)) (nle rfl)) (ci := 3) rfl rfl tw_4_31 tw_1_5 hl tw_4_29 tw_4_30 ⟨by decide, by decide, rfl⟩ hR rfl hrest hd ⟨Nat.zero_le _, Nat.zero_le _⟩ rfl (fun h => k (h rfl))

theorem dX7_mark_0 : decode cX7_mark 0 = .ok (.iload_n 1, 1) := by decide +kernel
theorem dX7_mark_1 : decode cX7_mark 1 = .ok (.ifCond .lt 8, 3) := by decide +kernel
theorem dX7_mark_4 : decode cX7_mark 4 = .ok (.iload_n 1, 1) := by decide +kernel
theorem dX7_mark_5 : decode cX7_mark 5 = .ok (.iconst 4, 1) := by decide +kernel
theorem dX7_mark_6 : decode cX7_mark 6 = .ok (.if_icmp .lt 5, 3) := by decide +kernel
theorem dX7_mark_9 : decode cX7_mark 9 = .ok (.iconst (-1), 1) := by decide +kernel
theorem dX7_mark_10 : decode cX7_mark 10 = .ok (.ireturn, 1) := by decide +kernel
theorem dX7_mark_11 : decode cX7_mark 11 = .ok (.aload_n 0, 1) := by decide +kernel
theorem dX7_mark_12 : decode cX7_mark 12 = .ok (.getfield 62, 3) := by decide +kernel
theorem dX7_mark_15 : decode cX7_mark 15 = .ok (.aload_n 0, 1) := by decide +kernel
theorem dX7_mark_16 : decode cX7_mark 16 = .ok (.getfield 18, 3) := by decide +kernel
theorem dX7_mark_19 : decode cX7_mark 19 = .ok (.invokevirtual 252, 3) := by decide +kernel
theorem dX7_mark_22 : decode cX7_mark 22 = .ok (.pop, 1) := by decide +kernel
theorem dX7_mark_23 : decode cX7_mark 23 = .ok (.aload_n 0, 1) := by decide +kernel
theorem dX7_mark_24 : decode cX7_mark 24 = .ok (.getfield 62, 3) := by decide +kernel
theorem dX7_mark_27 : decode cX7_mark 27 = .ok (.getfield 256, 3) := by decide +kernel
theorem dX7_mark_30 : decode cX7_mark 30 = .ok (.iload_n 1, 1) := by decide +kernel
theorem dX7_mark_31 : decode cX7_mark 31 = .ok (.iaload, 1) := by decide +kernel
theorem dX7_mark_32 : decode cX7_mark 32 = .ok (.ifCond .ge 8, 3) := by decide +kernel
theorem dX7_mark_35 : decode cX7_mark 35 = .ok (.bipush (-2), 2) := by decide +kernel
theorem dX7_mark_37 : decode cX7_mark 37 = .ok (.goto 12, 3) := by decide +kernel
theorem dX7_mark_40 : decode cX7_mark 40 = .ok (.aload_n 0, 1) := by decide +kernel
theorem dX7_mark_41 : decode cX7_mark 41 = .ok (.getfield 62, 3) := by decide +kernel
theorem dX7_mark_44 : decode cX7_mark 44 = .ok (.getfield 256, 3) := by decide +kernel
theorem dX7_mark_47 : decode cX7_mark 47 = .ok (.iload_n 1, 1) := by decide +kernel
theorem dX7_mark_48 : decode cX7_mark 48 = .ok (.iaload, 1) := by decide +kernel
theorem dX7_mark_49 : decode cX7_mark 49 = .ok (.ireturn, 1) := by decide +kernel
def mX7_mark : MM := (yX7_mark, cX7_mark, 2, Option.some Jvm.ClassFile.FieldType.int, { frames := 4, cells := 0, slots := 0, locals := 102 })
def fX7_mark (σ : SS) (a1 : Int32) : Option (Int32 × SS) :=
  if a1 < 0 then (
    some ((-1 : Int32), σ)
    ) else (
    if a1 < (4 : Int32) then (
      bnd (fX3_locate σ (gR σ 1 2)) fun b2 σ4 =>
      grd (inb a1 4) <|
      if 0 ≤ (gI σ4 44 (Int32.toNatClampNeg a1)) then (
        some ((gI σ4 44 (Int32.toNatClampNeg a1)), σ4)
        ) else (
        some ((-2 : Int32), σ4)
        )
      ) else (
      some ((-1 : Int32), σ)
      )
    )

set_option maxRecDepth 20000 in
theorem sX7_mark {g : GG} {σ : SS} {a1 : Int32} {r : Int32 × SS} (hr : fX7_mark σ a1 = some r)  : Ct g mX7_mark [.ref (ad g 1), .int a1] NF σ (some (.int r.1)) NF r.2 := by
  refine Ct.of (by decide +kernel) (nle rfl) fun hw0 => ?_
  have hw := hw0 rfl
  unfold fX7_mark at hr
  change RR g mX7_mark (FinR g mX7_mark (some (.int r.1)) NF r.2) zF 0 [(0, .ref (ad g 1)), (1, .int a1)] [] σ
  refine r_iload_n (pc := 0) (j := 1) dX7_mark_0 rfl rfl ?_
  refine r_if_lt (pc := 1) (tgt := 9) dX7_mark_1 rfl (fun hc => ?_) (fun hc => ?_)
  · replace hr := ite_t hc hr
    refine r_iconst (pc := 9) (v := (-1 : Int32)) dX7_mark_9 rfl ?_
    exact l_osi hr (r_iret (pc := 10) (v := (-1 : Int32)) rfl rfl ⟨Nat.le_refl _, Nat.le_refl _⟩ dX7_mark_10)
  replace hr := ite_f hc hr
  refine r_iload_n (pc := 4) (j := 1) dX7_mark_4 rfl rfl ?_
  refine r_iconst (pc := 5) (v := (4 : Int32)) dX7_mark_5 rfl ?_
  refine r_icmp_lt (pc := 6) (tgt := 11) dX7_mark_6 rfl (fun hc => ?_) (fun hc => ?_)
  · replace hr := ite_t hc hr
    refine r_aload_n (pc := 11) (j := 0) dX7_mark_11 rfl rfl ?_
    refine gf7_12 (pc := 12) tw_2_121 hw dX7_mark_12 ?_
    refine r_aload_n (pc := 15) (j := 0) dX7_mark_15 rfl rfl ?_
    refine gf7_2 (pc := 16) tw_2_111 hw dX7_mark_16 ?_
    obtain ⟨b2, σ4, eσ4, hr⟩ := bnd_inv hr
    refine kX3_locate (pc := 19) eσ4 (wt_sc hw).1 tw_4_28 ⟨nle rfl, nle rfl⟩ (nle rfl) dX7_mark_19 fun hσ4 => ?_
    refine r_pop (pc := 22) dX7_mark_22 rfl ?_
    refine r_aload_n (pc := 23) (j := 0) dX7_mark_23 rfl rfl ?_
    refine gf7_12 (pc := 24) tw_2_121 hσ4 dX7_mark_24 ?_
    refine gf3_2 (pc := 27) tw_2_27 hσ4 dX7_mark_27 ?_
    refine r_iload_n (pc := 30) (j := 1) dX7_mark_30 rfl rfl ?_
    obtain ⟨h5, hr⟩ := grd_inv hr
    refine x_iald (pc := 31) (k := (Int32.toNatClampNeg a1)) rfl h5 rfl dX7_mark_31 ?_
    refine r_if_ge (pc := 32) (tgt := 40) dX7_mark_32 rfl (fun hc => ?_) (fun hc => ?_)
    · replace hr := ite_t hc hr
      refine r_aload_n (pc := 40) (j := 0) dX7_mark_40 rfl rfl ?_
      refine gf7_12 (pc := 41) tw_2_121 hσ4 dX7_mark_41 ?_
      refine gf3_2 (pc := 44) tw_2_27 hσ4 dX7_mark_44 ?_
      refine r_iload_n (pc := 47) (j := 1) dX7_mark_47 rfl rfl ?_
      refine x_iald (pc := 48) (k := (Int32.toNatClampNeg a1)) rfl h5 rfl dX7_mark_48 ?_
      exact l_osi hr (r_iret (pc := 49) (v := (gI σ4 44 (Int32.toNatClampNeg a1))) rfl rfl ⟨Nat.le_refl _, Nat.le_refl _⟩ dX7_mark_49)
    replace hr := ite_f hc hr
    refine r_bipush (pc := 35) (v := (-2 : Int32)) dX7_mark_35 rfl ?_
    refine r_goto (pc := 37) (tgt := 49) dX7_mark_37 rfl ?_
    exact l_osi hr (r_iret (pc := 49) (v := (-2 : Int32)) rfl rfl ⟨Nat.le_refl _, Nat.le_refl _⟩ dX7_mark_49)
  replace hr := ite_f hc hr
  refine r_iconst (pc := 9) (v := (-1 : Int32)) dX7_mark_9 rfl ?_
  exact l_osi hr (r_iret (pc := 10) (v := (-1 : Int32)) rfl rfl ⟨Nat.le_refl _, Nat.le_refl _⟩ dX7_mark_10)

theorem kX7_mark {g : GG} {σ : SS} {a1 : Int32} {v : Int32} {σ2 : SS} {M : MM} {F : State → Array Value → List Frame → State → Prop} {pc index : Nat} {ls : List (Nat × Value)} {rest : List Value} (hf : fX7_mark σ a1 = some (v, σ2))  (hl : Cond.methodLink M.1.cls index yX7_mark ∈ lw_gt) (hR : mX7_mark.2.2.2.2.frames + 1 ≤ M.2.2.2.2.frames ∧ 8 + (mX7_mark.2.2.1 + 11) + mX7_mark.2.2.2.2.locals ≤ M.2.2.2.2.locals) (hrest : (rest.map fun v => v.category).sum ≤ 8) (hd : decode M.2.1 pc = .ok (.invokevirtual index, 3)) (k : WT σ2 → RR g M F zF (pc + 3) ls (.int v :: rest) σ2) : RR g M F zF pc ls (.int a1 :: .ref (ad g 1) :: rest) σ :=
  r_callV (z := zF) (N := mX7_mark) (nn := 1) (o1 := some (.int v)) (sX7_mark hf ) (rfl : shp 1 = (7, 0)) (by decide) (shp_le (rfl : shp 1 = (7, 0)) (nle rfl)) (ci := 7) rfl rfl tw_4_27 tw_1_1 hl tw_4_25 tw_4_26 ⟨by decide, by decide, rfl⟩ hR rfl hrest hd ⟨Nat.zero_le _, Nat.zero_le _⟩ rfl (fun h => k (h rfl))

theorem dX8_laysMark_0 : decode cX8_laysMark 0 = .ok (.iload_n 1, 1) := by decide +kernel
theorem dX8_laysMark_1 : decode cX8_laysMark 1 = .ok (.iconst 2, 1) := by decide +kernel
theorem dX8_laysMark_2 : decode cX8_laysMark 2 = .ok (.irem, 1) := by decide +kernel
theorem dX8_laysMark_3 : decode cX8_laysMark 3 = .ok (.ifCond .ne 7, 3) := by decide +kernel
theorem dX8_laysMark_6 : decode cX8_laysMark 6 = .ok (.lconst 0, 1) := by decide +kernel
theorem dX8_laysMark_7 : decode cX8_laysMark 7 = .ok (.goto 10, 3) := by decide +kernel
theorem dX8_laysMark_10 : decode cX8_laysMark 10 = .ok (.aload_n 0, 1) := by decide +kernel
theorem dX8_laysMark_11 : decode cX8_laysMark 11 = .ok (.getfield 132, 3) := by decide +kernel
theorem dX8_laysMark_14 : decode cX8_laysMark 14 = .ok (.iconst 1, 1) := by decide +kernel
theorem dX8_laysMark_15 : decode cX8_laysMark 15 = .ok (.isub, 1) := by decide +kernel
theorem dX8_laysMark_16 : decode cX8_laysMark 16 = .ok (.i2l, 1) := by decide +kernel
theorem dX8_laysMark_17 : decode cX8_laysMark 17 = .ok (.lstore_n 2, 1) := by decide +kernel
theorem dX8_laysMark_18 : decode cX8_laysMark 18 = .ok (.iload_n 1, 1) := by decide +kernel
theorem dX8_laysMark_19 : decode cX8_laysMark 19 = .ok (.iconst 2, 1) := by decide +kernel
theorem dX8_laysMark_20 : decode cX8_laysMark 20 = .ok (.if_icmp .ge 7, 3) := by decide +kernel
theorem dX8_laysMark_23 : decode cX8_laysMark 23 = .ok (.lconst 0, 1) := by decide +kernel
theorem dX8_laysMark_24 : decode cX8_laysMark 24 = .ok (.goto 10, 3) := by decide +kernel
theorem dX8_laysMark_27 : decode cX8_laysMark 27 = .ok (.aload_n 0, 1) := by decide +kernel
theorem dX8_laysMark_28 : decode cX8_laysMark 28 = .ok (.getfield 136, 3) := by decide +kernel
theorem dX8_laysMark_31 : decode cX8_laysMark 31 = .ok (.iconst 1, 1) := by decide +kernel
theorem dX8_laysMark_32 : decode cX8_laysMark 32 = .ok (.isub, 1) := by decide +kernel
theorem dX8_laysMark_33 : decode cX8_laysMark 33 = .ok (.i2l, 1) := by decide +kernel
theorem dX8_laysMark_34 : decode cX8_laysMark 34 = .ok (.lstore 4, 2) := by decide +kernel
theorem dX8_laysMark_36 : decode cX8_laysMark 36 = .ok (.bipush (-2), 2) := by decide +kernel
theorem dX8_laysMark_38 : decode cX8_laysMark 38 = .ok (.istore 6, 2) := by decide +kernel
theorem dX8_laysMark_40 : decode cX8_laysMark 40 = .ok (.lconst 0, 1) := by decide +kernel
theorem dX8_laysMark_41 : decode cX8_laysMark 41 = .ok (.lstore 7, 2) := by decide +kernel
theorem dX8_laysMark_43 : decode cX8_laysMark 43 = .ok (.iconst 0, 1) := by decide +kernel
theorem dX8_laysMark_44 : decode cX8_laysMark 44 = .ok (.istore 9, 2) := by decide +kernel
theorem dX8_laysMark_46 : decode cX8_laysMark 46 = .ok (.iload 9, 2) := by decide +kernel
theorem dX8_laysMark_48 : decode cX8_laysMark 48 = .ok (.aload_n 0, 1) := by decide +kernel
theorem dX8_laysMark_49 : decode cX8_laysMark 49 = .ok (.getfield 313, 3) := by decide +kernel
theorem dX8_laysMark_52 : decode cX8_laysMark 52 = .ok (.if_icmp .ge 134, 3) := by decide +kernel
theorem dX8_laysMark_55 : decode cX8_laysMark 55 = .ok (.aload_n 0, 1) := by decide +kernel
theorem dX8_laysMark_56 : decode cX8_laysMark 56 = .ok (.getfield 71, 3) := by decide +kernel
theorem dX8_laysMark_59 : decode cX8_laysMark 59 = .ok (.iload 9, 2) := by decide +kernel
theorem dX8_laysMark_61 : decode cX8_laysMark 61 = .ok (.iaload, 1) := by decide +kernel
theorem dX8_laysMark_62 : decode cX8_laysMark 62 = .ok (.aload_n 0, 1) := by decide +kernel
theorem dX8_laysMark_63 : decode cX8_laysMark 63 = .ok (.getfield 53, 3) := by decide +kernel
theorem dX8_laysMark_66 : decode cX8_laysMark 66 = .ok (.iconst 2, 1) := by decide +kernel
theorem dX8_laysMark_67 : decode cX8_laysMark 67 = .ok (.iaload, 1) := by decide +kernel
theorem dX8_laysMark_68 : decode cX8_laysMark 68 = .ok (.if_icmp .ge 6, 3) := by decide +kernel
theorem dX8_laysMark_71 : decode cX8_laysMark 71 = .ok (.goto 109, 3) := by decide +kernel
theorem dX8_laysMark_74 : decode cX8_laysMark 74 = .ok (.aload_n 0, 1) := by decide +kernel
theorem dX8_laysMark_75 : decode cX8_laysMark 75 = .ok (.getfield 71, 3) := by decide +kernel
theorem dX8_laysMark_78 : decode cX8_laysMark 78 = .ok (.iload 9, 2) := by decide +kernel
theorem dX8_laysMark_80 : decode cX8_laysMark 80 = .ok (.iaload, 1) := by decide +kernel
theorem dX8_laysMark_81 : decode cX8_laysMark 81 = .ok (.i2l, 1) := by decide +kernel
theorem dX8_laysMark_82 : decode cX8_laysMark 82 = .ok (.lstore 10, 2) := by decide +kernel
theorem dX8_laysMark_84 : decode cX8_laysMark 84 = .ok (.aload_n 0, 1) := by decide +kernel
theorem dX8_laysMark_85 : decode cX8_laysMark 85 = .ok (.getfield 74, 3) := by decide +kernel
theorem dX8_laysMark_88 : decode cX8_laysMark 88 = .ok (.iload 9, 2) := by decide +kernel
theorem dX8_laysMark_90 : decode cX8_laysMark 90 = .ok (.iaload, 1) := by decide +kernel
theorem dX8_laysMark_91 : decode cX8_laysMark 91 = .ok (.i2l, 1) := by decide +kernel
theorem dX8_laysMark_92 : decode cX8_laysMark 92 = .ok (.lload_n 2, 1) := by decide +kernel
theorem dX8_laysMark_93 : decode cX8_laysMark 93 = .ok (.lload 10, 2) := by decide +kernel
theorem dX8_laysMark_95 : decode cX8_laysMark 95 = .ok (.lmul, 1) := by decide +kernel
theorem dX8_laysMark_96 : decode cX8_laysMark 96 = .ok (.lsub, 1) := by decide +kernel
theorem dX8_laysMark_97 : decode cX8_laysMark 97 = .ok (.lstore 12, 2) := by decide +kernel
theorem dX8_laysMark_99 : decode cX8_laysMark 99 = .ok (.aload_n 0, 1) := by decide +kernel
theorem dX8_laysMark_100 : decode cX8_laysMark 100 = .ok (.getfield 77, 3) := by decide +kernel
theorem dX8_laysMark_103 : decode cX8_laysMark 103 = .ok (.iload 9, 2) := by decide +kernel
theorem dX8_laysMark_105 : decode cX8_laysMark 105 = .ok (.iaload, 1) := by decide +kernel
theorem dX8_laysMark_106 : decode cX8_laysMark 106 = .ok (.i2l, 1) := by decide +kernel
theorem dX8_laysMark_107 : decode cX8_laysMark 107 = .ok (.lload 4, 2) := by decide +kernel
theorem dX8_laysMark_109 : decode cX8_laysMark 109 = .ok (.lload 10, 2) := by decide +kernel
theorem dX8_laysMark_111 : decode cX8_laysMark 111 = .ok (.lmul, 1) := by decide +kernel
theorem dX8_laysMark_112 : decode cX8_laysMark 112 = .ok (.lsub, 1) := by decide +kernel
theorem dX8_laysMark_113 : decode cX8_laysMark 113 = .ok (.lstore 14, 2) := by decide +kernel
theorem dX8_laysMark_115 : decode cX8_laysMark 115 = .ok (.lload 12, 2) := by decide +kernel
theorem dX8_laysMark_117 : decode cX8_laysMark 117 = .ok (.lload 12, 2) := by decide +kernel
theorem dX8_laysMark_119 : decode cX8_laysMark 119 = .ok (.lmul, 1) := by decide +kernel
theorem dX8_laysMark_120 : decode cX8_laysMark 120 = .ok (.lload 14, 2) := by decide +kernel
theorem dX8_laysMark_122 : decode cX8_laysMark 122 = .ok (.lload 14, 2) := by decide +kernel
theorem dX8_laysMark_124 : decode cX8_laysMark 124 = .ok (.lmul, 1) := by decide +kernel
theorem dX8_laysMark_125 : decode cX8_laysMark 125 = .ok (.ladd, 1) := by decide +kernel
theorem dX8_laysMark_126 : decode cX8_laysMark 126 = .ok (.lstore 16, 2) := by decide +kernel
theorem dX8_laysMark_128 : decode cX8_laysMark 128 = .ok (.iload 6, 2) := by decide +kernel
theorem dX8_laysMark_130 : decode cX8_laysMark 130 = .ok (.ifCond .lt 34, 3) := by decide +kernel
theorem dX8_laysMark_133 : decode cX8_laysMark 133 = .ok (.lload 16, 2) := by decide +kernel
theorem dX8_laysMark_135 : decode cX8_laysMark 135 = .ok (.aload_n 0, 1) := by decide +kernel
theorem dX8_laysMark_136 : decode cX8_laysMark 136 = .ok (.getfield 105, 3) := by decide +kernel
theorem dX8_laysMark_139 : decode cX8_laysMark 139 = .ok (.iload_n 1, 1) := by decide +kernel
theorem dX8_laysMark_140 : decode cX8_laysMark 140 = .ok (.laload, 1) := by decide +kernel
theorem dX8_laysMark_141 : decode cX8_laysMark 141 = .ok (.lmul, 1) := by decide +kernel
theorem dX8_laysMark_142 : decode cX8_laysMark 142 = .ok (.aload_n 0, 1) := by decide +kernel
theorem dX8_laysMark_143 : decode cX8_laysMark 143 = .ok (.getfield 105, 3) := by decide +kernel
theorem dX8_laysMark_146 : decode cX8_laysMark 146 = .ok (.iload_n 1, 1) := by decide +kernel
theorem dX8_laysMark_147 : decode cX8_laysMark 147 = .ok (.laload, 1) := by decide +kernel
theorem dX8_laysMark_148 : decode cX8_laysMark 148 = .ok (.lmul, 1) := by decide +kernel
theorem dX8_laysMark_149 : decode cX8_laysMark 149 = .ok (.lload 7, 2) := by decide +kernel
theorem dX8_laysMark_151 : decode cX8_laysMark 151 = .ok (.lload 10, 2) := by decide +kernel
theorem dX8_laysMark_153 : decode cX8_laysMark 153 = .ok (.lmul, 1) := by decide +kernel
theorem dX8_laysMark_154 : decode cX8_laysMark 154 = .ok (.lload 10, 2) := by decide +kernel
theorem dX8_laysMark_156 : decode cX8_laysMark 156 = .ok (.lmul, 1) := by decide +kernel
theorem dX8_laysMark_157 : decode cX8_laysMark 157 = .ok (.lcmp, 1) := by decide +kernel
theorem dX8_laysMark_158 : decode cX8_laysMark 158 = .ok (.ifCond .lt 6, 3) := by decide +kernel
theorem dX8_laysMark_161 : decode cX8_laysMark 161 = .ok (.goto 19, 3) := by decide +kernel
theorem dX8_laysMark_164 : decode cX8_laysMark 164 = .ok (.iload 9, 2) := by decide +kernel
theorem dX8_laysMark_166 : decode cX8_laysMark 166 = .ok (.istore 6, 2) := by decide +kernel
theorem dX8_laysMark_168 : decode cX8_laysMark 168 = .ok (.lload 16, 2) := by decide +kernel
theorem dX8_laysMark_170 : decode cX8_laysMark 170 = .ok (.lstore 7, 2) := by decide +kernel
theorem dX8_laysMark_172 : decode cX8_laysMark 172 = .ok (.aload_n 0, 1) := by decide +kernel
theorem dX8_laysMark_173 : decode cX8_laysMark 173 = .ok (.getfield 105, 3) := by decide +kernel
theorem dX8_laysMark_176 : decode cX8_laysMark 176 = .ok (.iload_n 1, 1) := by decide +kernel
theorem dX8_laysMark_177 : decode cX8_laysMark 177 = .ok (.lload 10, 2) := by decide +kernel
theorem dX8_laysMark_179 : decode cX8_laysMark 179 = .ok (.lastore, 1) := by decide +kernel
theorem dX8_laysMark_180 : decode cX8_laysMark 180 = .ok (.iinc 9 1, 3) := by decide +kernel
theorem dX8_laysMark_183 : decode cX8_laysMark 183 = .ok (.goto (-137), 3) := by decide +kernel
theorem dX8_laysMark_186 : decode cX8_laysMark 186 = .ok (.aload_n 0, 1) := by decide +kernel
theorem dX8_laysMark_187 : decode cX8_laysMark 187 = .ok (.getfield 95, 3) := by decide +kernel
theorem dX8_laysMark_190 : decode cX8_laysMark 190 = .ok (.iload_n 1, 1) := by decide +kernel
theorem dX8_laysMark_191 : decode cX8_laysMark 191 = .ok (.iload 6, 2) := by decide +kernel
theorem dX8_laysMark_193 : decode cX8_laysMark 193 = .ok (.iastore, 1) := by decide +kernel
theorem dX8_laysMark_194 : decode cX8_laysMark 194 = .ok (.iload 6, 2) := by decide +kernel
theorem dX8_laysMark_196 : decode cX8_laysMark 196 = .ok (.ifCond .ge 4, 3) := by decide +kernel
theorem dX8_laysMark_199 : decode cX8_laysMark 199 = .ok (.return_, 1) := by decide +kernel
theorem dX8_laysMark_200 : decode cX8_laysMark 200 = .ok (.aload_n 0, 1) := by decide +kernel
theorem dX8_laysMark_201 : decode cX8_laysMark 201 = .ok (.getfield 98, 3) := by decide +kernel
theorem dX8_laysMark_204 : decode cX8_laysMark 204 = .ok (.iload_n 1, 1) := by decide +kernel
theorem dX8_laysMark_205 : decode cX8_laysMark 205 = .ok (.aload_n 0, 1) := by decide +kernel
theorem dX8_laysMark_206 : decode cX8_laysMark 206 = .ok (.getfield 74, 3) := by decide +kernel
theorem dX8_laysMark_209 : decode cX8_laysMark 209 = .ok (.iload 6, 2) := by decide +kernel
theorem dX8_laysMark_211 : decode cX8_laysMark 211 = .ok (.iaload, 1) := by decide +kernel
theorem dX8_laysMark_212 : decode cX8_laysMark 212 = .ok (.i2l, 1) := by decide +kernel
theorem dX8_laysMark_213 : decode cX8_laysMark 213 = .ok (.lastore, 1) := by decide +kernel
theorem dX8_laysMark_214 : decode cX8_laysMark 214 = .ok (.aload_n 0, 1) := by decide +kernel
theorem dX8_laysMark_215 : decode cX8_laysMark 215 = .ok (.getfield 102, 3) := by decide +kernel
theorem dX8_laysMark_218 : decode cX8_laysMark 218 = .ok (.iload_n 1, 1) := by decide +kernel
theorem dX8_laysMark_219 : decode cX8_laysMark 219 = .ok (.aload_n 0, 1) := by decide +kernel
theorem dX8_laysMark_220 : decode cX8_laysMark 220 = .ok (.getfield 77, 3) := by decide +kernel
theorem dX8_laysMark_223 : decode cX8_laysMark 223 = .ok (.iload 6, 2) := by decide +kernel
theorem dX8_laysMark_225 : decode cX8_laysMark 225 = .ok (.iaload, 1) := by decide +kernel
theorem dX8_laysMark_226 : decode cX8_laysMark 226 = .ok (.i2l, 1) := by decide +kernel
theorem dX8_laysMark_227 : decode cX8_laysMark 227 = .ok (.lastore, 1) := by decide +kernel
theorem dX8_laysMark_228 : decode cX8_laysMark 228 = .ok (.return_, 1) := by decide +kernel
def mX8_laysMark : MM := (yX8_laysMark, cX8_laysMark, 18, none, { frames := 0, cells := 0, slots := 0, locals := 0 })
def X8_laysMark_L46 (u1_ : Int32) (u2_ : Int64) (u4_ : Int64) (k186 : Int32 → SS → Option SS) : Nat → Int32 → Int64 → Int32 → SS → Option SS :=
  lp (fun _ _ _ _ => none) fun rec v6_ w7_ v9_ σ_ =>
    if (gI σ_ 73 43) ≤ v9_ then (
      k186 v6_ σ_
      ) else (
      grd (inb v9_ 801) <|
      if (gI σ_ 88 2) ≤ (gI σ_ 94 (Int32.toNatClampNeg v9_)) then (
        vthen (Int32.toInt64 (gI σ_ 94 (Int32.toNatClampNeg v9_))) fun w4 =>
        vthen ((Int32.toInt64 (gI σ_ 95 (Int32.toNatClampNeg v9_))) - (u2_ * w4)) fun w5 =>
        vthen ((Int32.toInt64 (gI σ_ 96 (Int32.toNatClampNeg v9_))) - (u4_ * w4)) fun w6 =>
        vthen ((w5 * w5) + (w6 * w6)) fun w7 =>
        vthen (fun (_u : Unit) =>
          grd (inb u1_ 4) <|
          vthen (sL σ_ 105 (Int32.toNatClampNeg u1_) w4) fun σ9 =>
          rec v9_ w7 (v9_ + (1 : Int32)) σ9
          ) fun j164 =>
        if v6_ < 0 then (
          j164 ()
          ) else (
          grd (inb u1_ 4) <|
          if (lg_cmp ((w7 * (gL σ_ 105 (Int32.toNatClampNeg u1_))) * (gL σ_ 105 (Int32.toNatClampNeg u1_))) ((w7_ * w4) * w4)) < 0 then (
            j164 ()
            ) else (
            rec v6_ w7_ (v9_ + (1 : Int32)) σ_
            )
          )
        ) else (
        rec v6_ w7_ (v9_ + (1 : Int32)) σ_
        )
      )

def fX8_laysMark (σ : SS) (a1 : Int32) : Option SS :=
  vthen (fun (s1 : Int64) =>
    vthen (fun (s2 : Int64) =>
      X8_laysMark_L46 a1 s1 s2
      (fun v11 σ12 =>
        grd (inb a1 4) <|
        vthen (sI σ12 102 (Int32.toNatClampNeg a1) v11) fun σ14 =>
        if 0 ≤ v11 then (
          grd (inb v11 801) <|
          vthen (sL σ14 103 (Int32.toNatClampNeg a1) (Int32.toInt64 (gI σ14 95 (Int32.toNatClampNeg v11)))) fun σ16 =>
          vthen (sL σ16 104 (Int32.toNatClampNeg a1) (Int32.toInt64 (gI σ16 96 (Int32.toNatClampNeg v11)))) fun σ17 =>
          some σ17
          ) else (
          some σ14
          )
        )
      fuel (-2 : Int32) (0 : Int64) (0 : Int32) σ
      ) fun j34 =>
    if (2 : Int32) ≤ a1 then (
      j34 (Int32.toInt64 ((gI σ 73 30) - (1 : Int32)))
      ) else (
      j34 (0 : Int64)
      )
    ) fun j17 =>
  if (irm a1 (2 : Int32)) = 0 then (
    j17 (0 : Int64)
    ) else (
    j17 (Int32.toInt64 ((gI σ 73 29) - (1 : Int32)))
    )

set_option maxRecDepth 20000 in
theorem sX8_laysMark_L46 {g : GG} {r : SS} {u1_ : Int32} {u2_ : Int64} {u4_ : Int64} {k186 : Int32 → SS → Option SS} 
    (hk186 : ∀ (y6 : Int32) (σ_ : SS), k186 y6 σ_ = some r → WT σ_ → RR g mX8_laysMark (FinR g mX8_laysMark none NF r) zF 186 [(0, .ref (ad g 73)), (1, .int u1_), (6, .int y6)] [] σ_)
    (n : Nat) : ∀ (v6_ : Int32) (w7_ : Int64) (v9_ : Int32) (σ_ : SS), X8_laysMark_L46 u1_ u2_ u4_ k186 n v6_ w7_ v9_ σ_ = some r → WT σ_ → RR g mX8_laysMark (FinR g mX8_laysMark none NF r) zF 46 [(0, .ref (ad g 73)), (1, .int u1_), (2, .long u2_), (4, .long u4_), (6, .int v6_), (7, .long w7_), (9, .int v9_)] [] σ_ := by
  unfold X8_laysMark_L46
  refine lp_ind (P := fun (rec : Int32 → Int64 → Int32 → SS → Option SS) => ∀ (v6_ : Int32) (w7_ : Int64) (v9_ : Int32) (σ_ : SS), rec v6_ w7_ v9_ σ_ = some r → WT σ_ → RR g mX8_laysMark (FinR g mX8_laysMark none NF r) zF 46 [(0, .ref (ad g 73)), (1, .int u1_), (2, .long u2_), (4, .long u4_), (6, .int v6_), (7, .long w7_), (9, .int v9_)] [] σ_) ?_ ?_ n
  · intro v6_ w7_ v9_ σ_ hr; cases hr
  intro rec ih v6_ w7_ v9_ σ_ hr hw_
  refine r_iload (pc := 46) (j := 6) dX8_laysMark_46 rfl ?_
  refine r_aload_n (pc := 48) (j := 0) dX8_laysMark_48 rfl rfl ?_
  refine gf8_43 (pc := 49) tw_5_137 rfl dX8_laysMark_49 ?_
  refine r_icmp_ge (pc := 52) (tgt := 186) dX8_laysMark_52 rfl (fun hc => ?_) (fun hc => ?_)
  · replace hr := ite_t hc hr
    exact r_pick (ls1 := [(0, .ref (ad g 73)), (1, .int u1_), (6, .int v6_)]) [0, 1, 4] rfl (hk186 v6_ σ_ hr hw_)
  replace hr := ite_f hc hr
  refine r_aload_n (pc := 55) (j := 0) dX8_laysMark_55 rfl rfl ?_
  refine gf8_35 (pc := 56) tw_5_129 hw_ dX8_laysMark_56 ?_
  refine r_iload (pc := 59) (j := 6) dX8_laysMark_59 rfl ?_
  obtain ⟨h3, hr⟩ := grd_inv hr
  refine x_iald (pc := 61) (k := (Int32.toNatClampNeg v9_)) rfl h3 rfl dX8_laysMark_61 ?_
  refine r_aload_n (pc := 62) (j := 0) dX8_laysMark_62 rfl rfl ?_
  refine gf8_26 (pc := 63) tw_5_120 hw_ dX8_laysMark_63 ?_
  refine r_iconst (pc := 66) (v := (2 : Int32)) dX8_laysMark_66 rfl ?_
  refine x_iald (pc := 67) (k := 2) rfl (by decide) rfl dX8_laysMark_67 ?_
  refine r_icmp_ge (pc := 68) (tgt := 74) dX8_laysMark_68 rfl (fun hc => ?_) (fun hc => ?_)
  · replace hr := ite_t hc hr
    refine r_aload_n (pc := 74) (j := 0) dX8_laysMark_74 rfl rfl ?_
    refine gf8_35 (pc := 75) tw_5_129 hw_ dX8_laysMark_75 ?_
    refine r_iload (pc := 78) (j := 6) dX8_laysMark_78 rfl ?_
    refine x_iald (pc := 80) (k := (Int32.toNatClampNeg v9_)) rfl h3 rfl dX8_laysMark_80 ?_
    refine r_i2l (pc := 81) dX8_laysMark_81 ?_
    refine r_topl fun w4 ew4 => ?_
    replace hr := vthen_inv hr w4 ew4
    refine r_lstore (pc := 82) (ls1 := [(10, .long w4), (0, .ref (ad g 73)), (1, .int u1_), (2, .long u2_), (4, .long u4_), (6, .int v6_), (7, .long w7_), (9, .int v9_)]) dX8_laysMark_82 (nle rfl) rfl ?_
    refine r_aload_n (pc := 84) (j := 1) dX8_laysMark_84 rfl rfl ?_
    refine gf8_36 (pc := 85) tw_5_130 hw_ dX8_laysMark_85 ?_
    refine r_iload (pc := 88) (j := 7) dX8_laysMark_88 rfl ?_
    refine x_iald (pc := 90) (k := (Int32.toNatClampNeg v9_)) rfl h3 rfl dX8_laysMark_90 ?_
    refine r_i2l (pc := 91) dX8_laysMark_91 ?_
    refine r_lload_n (pc := 92) (j := 3) dX8_laysMark_92 rfl rfl ?_
    refine r_lload (pc := 93) (j := 0) dX8_laysMark_93 rfl ?_
    refine r_lmul (pc := 95) dX8_laysMark_95 ?_
    refine r_lsub (pc := 96) dX8_laysMark_96 ?_
    refine r_topl fun w5 ew5 => ?_
    replace hr := vthen_inv hr w5 ew5
    refine r_lstore (pc := 97) (ls1 := [(12, .long w5), (10, .long w4), (0, .ref (ad g 73)), (1, .int u1_), (2, .long u2_), (4, .long u4_), (6, .int v6_), (7, .long w7_), (9, .int v9_)]) dX8_laysMark_97 (nle rfl) rfl ?_
    refine r_aload_n (pc := 99) (j := 2) dX8_laysMark_99 rfl rfl ?_
    refine gf8_37 (pc := 100) tw_5_131 hw_ dX8_laysMark_100 ?_
    refine r_iload (pc := 103) (j := 8) dX8_laysMark_103 rfl ?_
    refine x_iald (pc := 105) (k := (Int32.toNatClampNeg v9_)) rfl h3 rfl dX8_laysMark_105 ?_
    refine r_i2l (pc := 106) dX8_laysMark_106 ?_
    refine r_lload (pc := 107) (j := 5) dX8_laysMark_107 rfl ?_
    refine r_lload (pc := 109) (j := 1) dX8_laysMark_109 rfl ?_
    refine r_lmul (pc := 111) dX8_laysMark_111 ?_
    refine r_lsub (pc := 112) dX8_laysMark_112 ?_
    refine r_topl fun w6 ew6 => ?_
    replace hr := vthen_inv hr w6 ew6
    refine r_lstore (pc := 113) (ls1 := [(14, .long w6), (12, .long w5), (10, .long w4), (0, .ref (ad g 73)), (1, .int u1_), (2, .long u2_), (4, .long u4_), (6, .int v6_), (7, .long w7_), (9, .int v9_)]) dX8_laysMark_113 (nle rfl) rfl ?_
    refine r_lload (pc := 115) (j := 1) dX8_laysMark_115 rfl ?_
    refine r_lload (pc := 117) (j := 1) dX8_laysMark_117 rfl ?_
    refine r_lmul (pc := 119) dX8_laysMark_119 ?_
    refine r_lload (pc := 120) (j := 0) dX8_laysMark_120 rfl ?_
    refine r_lload (pc := 122) (j := 0) dX8_laysMark_122 rfl ?_
    refine r_lmul (pc := 124) dX8_laysMark_124 ?_
    refine r_ladd (pc := 125) dX8_laysMark_125 ?_
    refine r_topl fun w7 ew7 => ?_
    replace hr := vthen_inv hr w7 ew7
    refine r_lstore (pc := 126) (ls1 := [(16, .long w7), (14, .long w6), (12, .long w5), (10, .long w4), (0, .ref (ad g 73)), (1, .int u1_), (2, .long u2_), (4, .long u4_), (6, .int v6_), (7, .long w7_), (9, .int v9_)]) dX8_laysMark_126 (nle rfl) rfl ?_
    refine r_iload (pc := 128) (j := 8) dX8_laysMark_128 rfl ?_
    obtain ⟨j164, ej164, hr⟩ := vth_ex hr
    have hj164 : j164 () = some r → RR g mX8_laysMark (FinR g mX8_laysMark none NF r) zF 164 [(0, .ref (ad g 73)), (1, .int u1_), (2, .long u2_), (4, .long u4_), (9, .int v9_), (10, .long w4), (16, .long w7)] [] σ_ := by
      intro  hr
      replace hr := (congrFun ej164 ()).symm.trans hr
      refine r_iload (pc := 164) (j := 4) dX8_laysMark_164 rfl ?_
      refine r_istore (pc := 166) (ls1 := [(6, .int v9_), (0, .ref (ad g 73)), (1, .int u1_), (2, .long u2_), (4, .long u4_), (9, .int v9_), (10, .long w4), (16, .long w7)]) dX8_laysMark_166 (nle rfl) rfl ?_
      refine r_lload (pc := 168) (j := 7) dX8_laysMark_168 rfl ?_
      refine r_lstore (pc := 170) (ls1 := [(7, .long w7), (6, .int v9_), (0, .ref (ad g 73)), (1, .int u1_), (2, .long u2_), (4, .long u4_), (9, .int v9_), (10, .long w4), (16, .long w7)]) dX8_laysMark_170 (nle rfl) rfl ?_
      refine r_aload_n (pc := 172) (j := 2) dX8_laysMark_172 rfl rfl ?_
      refine gf8_48 (pc := 173) tw_5_142 hw_ dX8_laysMark_173 ?_
      refine r_iload_n (pc := 176) (j := 3) dX8_laysMark_176 rfl rfl ?_
      refine r_lload (pc := 177) (j := 7) dX8_laysMark_177 rfl ?_
      obtain ⟨h8, hr⟩ := grd_inv hr
      refine x_last (pc := 179) (j := (Int32.toNatClampNeg u1_)) rfl h8 rfl dX8_laysMark_179 fun σ9 eσ9 => ?_
      replace hr := vthen_inv hr σ9 eσ9
      have hσ9 := wtL eσ9 hw_
      refine r_iinc (pc := 180) (j := 6) (v := (v9_ + (1 : Int32))) (ls1 := [(9, .int (v9_ + (1 : Int32))), (7, .long w7), (6, .int v9_), (0, .ref (ad g 73)), (1, .int u1_), (2, .long u2_), (4, .long u4_), (10, .long w4), (16, .long w7)]) dX8_laysMark_180 rfl rfl (nle rfl) rfl ?_
      refine r_goto (pc := 183) (tgt := 46) dX8_laysMark_183 rfl ?_
      exact r_pick (ls1 := [(0, .ref (ad g 73)), (1, .int u1_), (2, .long u2_), (4, .long u4_), (6, .int v9_), (7, .long w7), (9, .int (v9_ + (1 : Int32)))]) [3, 4, 5, 6, 2, 1, 0] rfl (ih v9_ w7 (v9_ + (1 : Int32)) σ9 hr hσ9)
    refine r_if_lt (pc := 130) (tgt := 164) dX8_laysMark_130 rfl (fun hc => ?_) (fun hc => ?_)
    · replace hr := ite_t hc hr
      exact r_pick (ls1 := [(0, .ref (ad g 73)), (1, .int u1_), (2, .long u2_), (4, .long u4_), (9, .int v9_), (10, .long w4), (16, .long w7)]) [4, 5, 6, 7, 10, 3, 0] rfl (hj164  hr)
    replace hr := ite_f hc hr
    refine r_lload (pc := 133) (j := 0) dX8_laysMark_133 rfl ?_
    refine r_aload_n (pc := 135) (j := 4) dX8_laysMark_135 rfl rfl ?_
    refine gf8_48 (pc := 136) tw_5_142 hw_ dX8_laysMark_136 ?_
    refine r_iload_n (pc := 139) (j := 5) dX8_laysMark_139 rfl rfl ?_
    obtain ⟨h10, hr⟩ := grd_inv hr
    refine x_lald (pc := 140) (k := (Int32.toNatClampNeg u1_)) rfl h10 rfl dX8_laysMark_140 ?_
    refine r_lmul (pc := 141) dX8_laysMark_141 ?_
    refine r_aload_n (pc := 142) (j := 4) dX8_laysMark_142 rfl rfl ?_
    refine gf8_48 (pc := 143) tw_5_142 hw_ dX8_laysMark_143 ?_
    refine r_iload_n (pc := 146) (j := 5) dX8_laysMark_146 rfl rfl ?_
    refine x_lald (pc := 147) (k := (Int32.toNatClampNeg u1_)) rfl h10 rfl dX8_laysMark_147 ?_
    refine r_lmul (pc := 148) dX8_laysMark_148 ?_
    refine r_lload (pc := 149) (j := 9) dX8_laysMark_149 rfl ?_
    refine r_lload (pc := 151) (j := 3) dX8_laysMark_151 rfl ?_
    refine r_lmul (pc := 153) dX8_laysMark_153 ?_
    refine r_lload (pc := 154) (j := 3) dX8_laysMark_154 rfl ?_
    refine r_lmul (pc := 156) dX8_laysMark_156 ?_
    refine r_lcmp (pc := 157) dX8_laysMark_157 ?_
    refine r_if_lt (pc := 158) (tgt := 164) dX8_laysMark_158 rfl (fun hc => ?_) (fun hc => ?_)
    · replace hr := ite_t hc hr
      exact r_pick (ls1 := [(0, .ref (ad g 73)), (1, .int u1_), (2, .long u2_), (4, .long u4_), (9, .int v9_), (10, .long w4), (16, .long w7)]) [4, 5, 6, 7, 10, 3, 0] rfl (hj164  hr)
    replace hr := ite_f hc hr
    refine r_goto (pc := 161) (tgt := 180) dX8_laysMark_161 rfl ?_
    refine r_iinc (pc := 180) (j := 10) (v := (v9_ + (1 : Int32))) (ls1 := [(9, .int (v9_ + (1 : Int32))), (16, .long w7), (14, .long w6), (12, .long w5), (10, .long w4), (0, .ref (ad g 73)), (1, .int u1_), (2, .long u2_), (4, .long u4_), (6, .int v6_), (7, .long w7_)]) dX8_laysMark_180 rfl rfl (nle rfl) rfl ?_
    refine r_goto (pc := 183) (tgt := 46) dX8_laysMark_183 rfl ?_
    exact r_pick (ls1 := [(0, .ref (ad g 73)), (1, .int u1_), (2, .long u2_), (4, .long u4_), (6, .int v6_), (7, .long w7_), (9, .int (v9_ + (1 : Int32)))]) [5, 6, 7, 8, 9, 10, 0] rfl (ih v6_ w7_ (v9_ + (1 : Int32)) σ_ hr hw_)
  replace hr := ite_f hc hr
  refine r_goto (pc := 71) (tgt := 180) dX8_laysMark_71 rfl ?_
  refine r_iinc (pc := 180) (j := 6) (v := (v9_ + (1 : Int32))) (ls1 := [(9, .int (v9_ + (1 : Int32))), (0, .ref (ad g 73)), (1, .int u1_), (2, .long u2_), (4, .long u4_), (6, .int v6_), (7, .long w7_)]) dX8_laysMark_180 rfl rfl (nle rfl) rfl ?_
  refine r_goto (pc := 183) (tgt := 46) dX8_laysMark_183 rfl ?_
  exact r_pick (ls1 := [(0, .ref (ad g 73)), (1, .int u1_), (2, .long u2_), (4, .long u4_), (6, .int v6_), (7, .long w7_), (9, .int (v9_ + (1 : Int32)))]) [1, 2, 3, 4, 5, 6, 0] rfl (ih v6_ w7_ (v9_ + (1 : Int32)) σ_ hr hw_)

set_option maxRecDepth 20000 in
theorem sX8_laysMark {g : GG} {σ : SS} {a1 : Int32} {r : SS} (hr : fX8_laysMark σ a1 = some r)  : Ct g mX8_laysMark [.ref (ad g 73), .int a1] NF σ none NF r := by
  refine Ct.of (by decide +kernel) (nle rfl) fun hw0 => ?_
  have hw := hw0 rfl
  unfold fX8_laysMark at hr
  change RR g mX8_laysMark (FinR g mX8_laysMark none NF r) zF 0 [(0, .ref (ad g 73)), (1, .int a1)] [] σ
  refine r_iload_n (pc := 0) (j := 1) dX8_laysMark_0 rfl rfl ?_
  refine r_iconst (pc := 1) (v := (2 : Int32)) dX8_laysMark_1 rfl ?_
  refine r_irem (pc := 2) dX8_laysMark_2 (by decide) ?_
  obtain ⟨j17, ej17, hr⟩ := vth_ex hr
  have hj17 : ∀ (s1 : Int64), j17 s1 = some r → RR g mX8_laysMark (FinR g mX8_laysMark none NF r) zF 17 [(0, .ref (ad g 73)), (1, .int a1)] [.long s1] σ := by
    intro s1 hr
    replace hr := (congrFun ej17 s1).symm.trans hr
    refine r_lstore_n (pc := 17) (ls1 := [(2, .long s1), (0, .ref (ad g 73)), (1, .int a1)]) dX8_laysMark_17 rfl (nle rfl) rfl ?_
    refine r_iload_n (pc := 18) (j := 2) dX8_laysMark_18 rfl rfl ?_
    refine r_iconst (pc := 19) (v := (2 : Int32)) dX8_laysMark_19 rfl ?_
    obtain ⟨j34, ej34, hr⟩ := vth_ex hr
    have hj34 : ∀ (s2 : Int64), j34 s2 = some r → RR g mX8_laysMark (FinR g mX8_laysMark none NF r) zF 34 [(0, .ref (ad g 73)), (1, .int a1), (2, .long s1)] [.long s2] σ := by
      intro s2 hr
      replace hr := (congrFun ej34 s2).symm.trans hr
      refine r_lstore (pc := 34) (ls1 := [(4, .long s2), (0, .ref (ad g 73)), (1, .int a1), (2, .long s1)]) dX8_laysMark_34 (nle rfl) rfl ?_
      refine r_bipush (pc := 36) (v := (-2 : Int32)) dX8_laysMark_36 rfl ?_
      refine r_istore (pc := 38) (ls1 := [(6, .int (-2 : Int32)), (4, .long s2), (0, .ref (ad g 73)), (1, .int a1), (2, .long s1)]) dX8_laysMark_38 (nle rfl) rfl ?_
      refine r_lconst (pc := 40) (v := (0 : Int64)) dX8_laysMark_40 rfl ?_
      refine r_lstore (pc := 41) (ls1 := [(7, .long (0 : Int64)), (6, .int (-2 : Int32)), (4, .long s2), (0, .ref (ad g 73)), (1, .int a1), (2, .long s1)]) dX8_laysMark_41 (nle rfl) rfl ?_
      refine r_iconst (pc := 43) (v := (0 : Int32)) dX8_laysMark_43 rfl ?_
      refine r_istore (pc := 44) (ls1 := [(9, .int (0 : Int32)), (7, .long (0 : Int64)), (6, .int (-2 : Int32)), (4, .long s2), (0, .ref (ad g 73)), (1, .int a1), (2, .long s1)]) dX8_laysMark_44 (nle rfl) rfl ?_
      refine r_pick (ls1 := [(0, .ref (ad g 73)), (1, .int a1), (2, .long s1), (4, .long s2), (6, .int (-2 : Int32)), (7, .long (0 : Int64)), (9, .int (0 : Int32))]) [4, 5, 6, 3, 2, 1, 0] rfl ?_
      refine sX8_laysMark_L46    (fun v11 σ12 hr hσ12 => ?_) fuel (-2 : Int32) (0 : Int64) (0 : Int32) σ hr hw
      refine r_aload_n (pc := 186) (j := 0) dX8_laysMark_186 rfl rfl ?_
      refine gf8_45 (pc := 187) tw_5_139 hσ12 dX8_laysMark_187 ?_
      refine r_iload_n (pc := 190) (j := 1) dX8_laysMark_190 rfl rfl ?_
      refine r_iload (pc := 191) (j := 2) dX8_laysMark_191 rfl ?_
      obtain ⟨h13, hr⟩ := grd_inv hr
      refine x_iast (pc := 193) (j := (Int32.toNatClampNeg a1)) rfl h13 rfl dX8_laysMark_193 fun σ14 eσ14 => ?_
      replace hr := vthen_inv hr σ14 eσ14
      have hσ14 := wtI eσ14 hσ12
      refine r_iload (pc := 194) (j := 2) dX8_laysMark_194 rfl ?_
      refine r_if_ge (pc := 196) (tgt := 200) dX8_laysMark_196 rfl (fun hc => ?_) (fun hc => ?_)
      · replace hr := ite_t hc hr
        refine r_aload_n (pc := 200) (j := 0) dX8_laysMark_200 rfl rfl ?_
        refine gf8_46 (pc := 201) tw_5_140 hσ14 dX8_laysMark_201 ?_
        refine r_iload_n (pc := 204) (j := 1) dX8_laysMark_204 rfl rfl ?_
        refine r_aload_n (pc := 205) (j := 0) dX8_laysMark_205 rfl rfl ?_
        refine gf8_36 (pc := 206) tw_5_130 hσ14 dX8_laysMark_206 ?_
        refine r_iload (pc := 209) (j := 2) dX8_laysMark_209 rfl ?_
        obtain ⟨h15, hr⟩ := grd_inv hr
        refine x_iald (pc := 211) (k := (Int32.toNatClampNeg v11)) rfl h15 rfl dX8_laysMark_211 ?_
        refine r_i2l (pc := 212) dX8_laysMark_212 ?_
        refine x_last (pc := 213) (j := (Int32.toNatClampNeg a1)) rfl h13 rfl dX8_laysMark_213 fun σ16 eσ16 => ?_
        replace hr := vthen_inv hr σ16 eσ16
        have hσ16 := wtL eσ16 hσ14
        refine r_aload_n (pc := 214) (j := 0) dX8_laysMark_214 rfl rfl ?_
        refine gf8_47 (pc := 215) tw_5_141 hσ16 dX8_laysMark_215 ?_
        refine r_iload_n (pc := 218) (j := 1) dX8_laysMark_218 rfl rfl ?_
        refine r_aload_n (pc := 219) (j := 0) dX8_laysMark_219 rfl rfl ?_
        refine gf8_37 (pc := 220) tw_5_131 hσ16 dX8_laysMark_220 ?_
        refine r_iload (pc := 223) (j := 2) dX8_laysMark_223 rfl ?_
        refine x_iald (pc := 225) (k := (Int32.toNatClampNeg v11)) rfl h15 rfl dX8_laysMark_225 ?_
        refine r_i2l (pc := 226) dX8_laysMark_226 ?_
        refine x_last (pc := 227) (j := (Int32.toNatClampNeg a1)) rfl h13 rfl dX8_laysMark_227 fun σ17 eσ17 => ?_
        replace hr := vthen_inv hr σ17 eσ17
        have hσ17 := wtL eσ17 hσ16
        exact l_ov hr (r_vret (pc := 228) rfl rfl ⟨Nat.le_refl _, Nat.le_refl _⟩ dX8_laysMark_228)
      replace hr := ite_f hc hr
      exact l_ov hr (r_vret (pc := 199) rfl rfl ⟨Nat.le_refl _, Nat.le_refl _⟩ dX8_laysMark_199)
    refine r_icmp_ge (pc := 20) (tgt := 27) dX8_laysMark_20 rfl (fun hc => ?_) (fun hc => ?_)
    · replace hr := ite_t hc hr
      refine r_aload_n (pc := 27) (j := 1) dX8_laysMark_27 rfl rfl ?_
      refine gf8_30 (pc := 28) tw_5_124 rfl dX8_laysMark_28 ?_
      refine r_iconst (pc := 31) (v := (1 : Int32)) dX8_laysMark_31 rfl ?_
      refine r_isub (pc := 32) dX8_laysMark_32 ?_
      refine r_i2l (pc := 33) dX8_laysMark_33 ?_
      exact r_pick (ls1 := [(0, .ref (ad g 73)), (1, .int a1), (2, .long s1)]) [1, 2, 0] rfl (hj34 (Int32.toInt64 ((gI σ 73 30) - (1 : Int32))) hr)
    replace hr := ite_f hc hr
    refine r_lconst (pc := 23) (v := (0 : Int64)) dX8_laysMark_23 rfl ?_
    refine r_goto (pc := 24) (tgt := 34) dX8_laysMark_24 rfl ?_
    exact r_pick (ls1 := [(0, .ref (ad g 73)), (1, .int a1), (2, .long s1)]) [1, 2, 0] rfl (hj34 (0 : Int64) hr)
  refine r_if_ne (pc := 3) (tgt := 10) dX8_laysMark_3 rfl (fun hc => ?_) (fun hc => ?_)
  · replace hr := ite_f hc hr
    refine r_aload_n (pc := 10) (j := 0) dX8_laysMark_10 rfl rfl ?_
    refine gf8_29 (pc := 11) tw_5_123 rfl dX8_laysMark_11 ?_
    refine r_iconst (pc := 14) (v := (1 : Int32)) dX8_laysMark_14 rfl ?_
    refine r_isub (pc := 15) dX8_laysMark_15 ?_
    refine r_i2l (pc := 16) dX8_laysMark_16 ?_
    exact r_pick (ls1 := [(0, .ref (ad g 73)), (1, .int a1)]) [0, 1] rfl (hj17 (Int32.toInt64 ((gI σ 73 29) - (1 : Int32))) hr)
  replace hr := ite_t hc hr
  refine r_lconst (pc := 6) (v := (0 : Int64)) dX8_laysMark_6 rfl ?_
  refine r_goto (pc := 7) (tgt := 17) dX8_laysMark_7 rfl ?_
  exact r_pick (ls1 := [(0, .ref (ad g 73)), (1, .int a1)]) [0, 1] rfl (hj17 (0 : Int64) hr)

theorem kX8_laysMark {g : GG} {σ : SS} {a1 : Int32} {σ2 : SS} {M : MM} {F : State → Array Value → List Frame → State → Prop} {pc index : Nat} {ls : List (Nat × Value)} {rest : List Value} (hf : fX8_laysMark σ a1 = some σ2)  (hl : Cond.methodLink M.1.cls index yX8_laysMark ∈ lw_gt) (hR : mX8_laysMark.2.2.2.2.frames + 1 ≤ M.2.2.2.2.frames ∧ 8 + (mX8_laysMark.2.2.1 + 11) + mX8_laysMark.2.2.2.2.locals ≤ M.2.2.2.2.locals) (hrest : (rest.map fun v => v.category).sum ≤ 8) (hd : decode M.2.1 pc = .ok (.invokevirtual index, 3)) (k : WT σ2 → RR g M F zF (pc + 3) ls rest σ2) : RR g M F zF pc ls (.int a1 :: .ref (ad g 73) :: rest) σ :=
  r_callV (z := zF) (N := mX8_laysMark) (nn := 1) (o1 := none) (sX8_laysMark hf ) (rfl : shp 73 = (8, 0)) (by decide) (shp_le (rfl : shp 73 = (8, 0)) (nle rfl)) (ci := 8) rfl rfl tw_7_54 tw_1_10 hl tw_7_53 tp_67 ⟨by decide, by decide, rfl⟩ hR rfl hrest hd ⟨Nat.zero_le _, Nat.zero_le _⟩ rfl (fun h => k (h rfl))

theorem dX8_laysMarks_0 : decode cX8_laysMarks 0 = .ok (.aload_n 0, 1) := by decide +kernel
theorem dX8_laysMarks_1 : decode cX8_laysMarks 1 = .ok (.invokevirtual 298, 3) := by decide +kernel
theorem dX8_laysMarks_4 : decode cX8_laysMarks 4 = .ok (.aload_n 0, 1) := by decide +kernel
theorem dX8_laysMarks_5 : decode cX8_laysMarks 5 = .ok (.iconst 1, 1) := by decide +kernel
theorem dX8_laysMarks_6 : decode cX8_laysMarks 6 = .ok (.putfield 326, 3) := by decide +kernel
theorem dX8_laysMarks_9 : decode cX8_laysMarks 9 = .ok (.iconst 0, 1) := by decide +kernel
theorem dX8_laysMarks_10 : decode cX8_laysMarks 10 = .ok (.istore_n 1, 1) := by decide +kernel
theorem dX8_laysMarks_11 : decode cX8_laysMarks 11 = .ok (.iload_n 1, 1) := by decide +kernel
theorem dX8_laysMarks_12 : decode cX8_laysMarks 12 = .ok (.iconst 4, 1) := by decide +kernel
theorem dX8_laysMarks_13 : decode cX8_laysMarks 13 = .ok (.if_icmp .ge 83, 3) := by decide +kernel
theorem dX8_laysMarks_16 : decode cX8_laysMarks 16 = .ok (.aload_n 0, 1) := by decide +kernel
theorem dX8_laysMarks_17 : decode cX8_laysMarks 17 = .ok (.iload_n 1, 1) := by decide +kernel
theorem dX8_laysMarks_18 : decode cX8_laysMarks 18 = .ok (.invokevirtual 329, 3) := by decide +kernel
theorem dX8_laysMarks_21 : decode cX8_laysMarks 21 = .ok (.aload_n 0, 1) := by decide +kernel
theorem dX8_laysMarks_22 : decode cX8_laysMarks 22 = .ok (.aload_n 0, 1) := by decide +kernel
theorem dX8_laysMarks_23 : decode cX8_laysMarks 23 = .ok (.getfield 326, 3) := by decide +kernel
theorem dX8_laysMarks_26 : decode cX8_laysMarks 26 = .ok (.ifCond .eq 16, 3) := by decide +kernel
theorem dX8_laysMarks_29 : decode cX8_laysMarks 29 = .ok (.aload_n 0, 1) := by decide +kernel
theorem dX8_laysMarks_30 : decode cX8_laysMarks 30 = .ok (.getfield 95, 3) := by decide +kernel
theorem dX8_laysMarks_33 : decode cX8_laysMarks 33 = .ok (.iload_n 1, 1) := by decide +kernel
theorem dX8_laysMarks_34 : decode cX8_laysMarks 34 = .ok (.iaload, 1) := by decide +kernel
theorem dX8_laysMarks_35 : decode cX8_laysMarks 35 = .ok (.ifCond .lt 7, 3) := by decide +kernel
theorem dX8_laysMarks_38 : decode cX8_laysMarks 38 = .ok (.iconst 1, 1) := by decide +kernel
theorem dX8_laysMarks_39 : decode cX8_laysMarks 39 = .ok (.goto 4, 3) := by decide +kernel
theorem dX8_laysMarks_42 : decode cX8_laysMarks 42 = .ok (.iconst 0, 1) := by decide +kernel
theorem dX8_laysMarks_43 : decode cX8_laysMarks 43 = .ok (.putfield 326, 3) := by decide +kernel
theorem dX8_laysMarks_46 : decode cX8_laysMarks 46 = .ok (.iconst 0, 1) := by decide +kernel
theorem dX8_laysMarks_47 : decode cX8_laysMarks 47 = .ok (.istore_n 2, 1) := by decide +kernel
theorem dX8_laysMarks_48 : decode cX8_laysMarks 48 = .ok (.iload_n 2, 1) := by decide +kernel
theorem dX8_laysMarks_49 : decode cX8_laysMarks 49 = .ok (.iload_n 1, 1) := by decide +kernel
theorem dX8_laysMarks_50 : decode cX8_laysMarks 50 = .ok (.if_icmp .ge 40, 3) := by decide +kernel
theorem dX8_laysMarks_53 : decode cX8_laysMarks 53 = .ok (.aload_n 0, 1) := by decide +kernel
theorem dX8_laysMarks_54 : decode cX8_laysMarks 54 = .ok (.aload_n 0, 1) := by decide +kernel
theorem dX8_laysMarks_55 : decode cX8_laysMarks 55 = .ok (.getfield 326, 3) := by decide +kernel
theorem dX8_laysMarks_58 : decode cX8_laysMarks 58 = .ok (.ifCond .eq 22, 3) := by decide +kernel
theorem dX8_laysMarks_61 : decode cX8_laysMarks 61 = .ok (.aload_n 0, 1) := by decide +kernel
theorem dX8_laysMarks_62 : decode cX8_laysMarks 62 = .ok (.getfield 95, 3) := by decide +kernel
theorem dX8_laysMarks_65 : decode cX8_laysMarks 65 = .ok (.iload_n 2, 1) := by decide +kernel
theorem dX8_laysMarks_66 : decode cX8_laysMarks 66 = .ok (.iaload, 1) := by decide +kernel
theorem dX8_laysMarks_67 : decode cX8_laysMarks 67 = .ok (.aload_n 0, 1) := by decide +kernel
theorem dX8_laysMarks_68 : decode cX8_laysMarks 68 = .ok (.getfield 95, 3) := by decide +kernel
theorem dX8_laysMarks_71 : decode cX8_laysMarks 71 = .ok (.iload_n 1, 1) := by decide +kernel
theorem dX8_laysMarks_72 : decode cX8_laysMarks 72 = .ok (.iaload, 1) := by decide +kernel
theorem dX8_laysMarks_73 : decode cX8_laysMarks 73 = .ok (.if_icmp .eq 7, 3) := by decide +kernel
theorem dX8_laysMarks_76 : decode cX8_laysMarks 76 = .ok (.iconst 1, 1) := by decide +kernel
theorem dX8_laysMarks_77 : decode cX8_laysMarks 77 = .ok (.goto 4, 3) := by decide +kernel
theorem dX8_laysMarks_80 : decode cX8_laysMarks 80 = .ok (.iconst 0, 1) := by decide +kernel
theorem dX8_laysMarks_81 : decode cX8_laysMarks 81 = .ok (.putfield 326, 3) := by decide +kernel
theorem dX8_laysMarks_84 : decode cX8_laysMarks 84 = .ok (.iinc 2 1, 3) := by decide +kernel
theorem dX8_laysMarks_87 : decode cX8_laysMarks 87 = .ok (.goto (-39), 3) := by decide +kernel
theorem dX8_laysMarks_90 : decode cX8_laysMarks 90 = .ok (.iinc 1 1, 3) := by decide +kernel
theorem dX8_laysMarks_93 : decode cX8_laysMarks 93 = .ok (.goto (-82), 3) := by decide +kernel
theorem dX8_laysMarks_96 : decode cX8_laysMarks 96 = .ok (.return_, 1) := by decide +kernel
def mX8_laysMarks : MM := (yX8_laysMarks, cX8_laysMarks, 3, none, { frames := 5, cells := 0, slots := 0, locals := 113 })
def X8_laysMarks_L48 (u1_ : Int32) (k90 : SS → Option SS) : Nat → Int32 → SS → Option SS :=
  lp (fun _ _ => none) fun rec v2_ σ_ =>
    if u1_ ≤ v2_ then (
      k90 σ_
      ) else (
      vthen (fun (s6 : Bool) =>
        vthen (sI σ_ 73 49 (b2i s6)) fun σ7 =>
        rec (v2_ + (1 : Int32)) σ7
        ) fun j81 =>
      vthen (fun (_u : Unit) =>
        j81 false
        ) fun j80 =>
      if (gI σ_ 73 49) = 0 then (
        j80 ()
        ) else (
        grd (inb v2_ 4) <|
        grd (inb u1_ 4) <|
        if (gI σ_ 102 (Int32.toNatClampNeg v2_)) = (gI σ_ 102 (Int32.toNatClampNeg u1_)) then (
          j80 ()
          ) else (
          j81 true
          )
        )
      )

def X8_laysMarks_L11   : Nat → Int32 → SS → Option SS :=
  lp (fun _ _ => none) fun rec v1_ σ_ =>
    if (4 : Int32) ≤ v1_ then (
      some σ_
      ) else (
      bnd1 (fX8_laysMark σ_ v1_) fun σ3 =>
      vthen (fun (s4 : Bool) =>
        vthen (sI σ3 73 49 (b2i s4)) fun σ5 =>
        X8_laysMarks_L48 v1_
        (fun σ10 =>
          rec (v1_ + (1 : Int32)) σ10
          )
        fuel (0 : Int32) σ5
        ) fun j43 =>
      vthen (fun (_u : Unit) =>
        j43 false
        ) fun j42 =>
      if (gI σ3 73 49) = 0 then (
        j42 ()
        ) else (
        grd (inb v1_ 4) <|
        if (gI σ3 102 (Int32.toNatClampNeg v1_)) < 0 then (
          j42 ()
          ) else (
          j43 true
          )
        )
      )

def fX8_laysMarks (σ : SS)  : Option SS :=
  bnd1 (fX8_laysBlobs σ) fun σ1 =>
  vthen (sI σ1 73 49 (1 : Int32)) fun σ2 =>
  X8_laysMarks_L11
  fuel (0 : Int32) σ2

set_option maxRecDepth 20000 in
theorem sX8_laysMarks_L48 {g : GG} {r : SS} {u1_ : Int32} {k90 : SS → Option SS} 
    (hk90 : ∀ (σ_ : SS), k90 σ_ = some r → WT σ_ → RR g mX8_laysMarks (FinR g mX8_laysMarks none NF r) zF 90 [(0, .ref (ad g 73)), (1, .int u1_)] [] σ_)
    (n : Nat) : ∀ (v2_ : Int32) (σ_ : SS), X8_laysMarks_L48 u1_ k90 n v2_ σ_ = some r → WT σ_ → RR g mX8_laysMarks (FinR g mX8_laysMarks none NF r) zF 48 [(0, .ref (ad g 73)), (1, .int u1_), (2, .int v2_)] [] σ_ := by
  unfold X8_laysMarks_L48
  refine lp_ind (P := fun (rec : Int32 → SS → Option SS) => ∀ (v2_ : Int32) (σ_ : SS), rec v2_ σ_ = some r → WT σ_ → RR g mX8_laysMarks (FinR g mX8_laysMarks none NF r) zF 48 [(0, .ref (ad g 73)), (1, .int u1_), (2, .int v2_)] [] σ_) ?_ ?_ n
  · intro v2_ σ_ hr; cases hr
  intro rec ih v2_ σ_ hr hw_
  refine r_iload_n (pc := 48) (j := 2) dX8_laysMarks_48 rfl rfl ?_
  refine r_iload_n (pc := 49) (j := 1) dX8_laysMarks_49 rfl rfl ?_
  refine r_icmp_ge (pc := 50) (tgt := 90) dX8_laysMarks_50 rfl (fun hc => ?_) (fun hc => ?_)
  · replace hr := ite_t hc hr
    exact r_pick (ls1 := [(0, .ref (ad g 73)), (1, .int u1_)]) [0, 1] rfl (hk90 σ_ hr hw_)
  replace hr := ite_f hc hr
  refine r_aload_n (pc := 53) (j := 0) dX8_laysMarks_53 rfl rfl ?_
  refine r_aload_n (pc := 54) (j := 0) dX8_laysMarks_54 rfl rfl ?_
  refine gf8_49 (pc := 55) tw_5_143 rfl dX8_laysMarks_55 ?_
  obtain ⟨j81, ej81, hr⟩ := vth_ex hr
  have hj81 : ∀ (s6 : Bool), j81 s6 = some r → RR g mX8_laysMarks (FinR g mX8_laysMarks none NF r) zF 81 [(0, .ref (ad g 73)), (1, .int u1_), (2, .int v2_)] [.int (b2i s6), .ref (ad g 73)] σ_ := by
    intro s6 hr
    replace hr := (congrFun ej81 s6).symm.trans hr
    refine pf8_49 (pc := 81) tw_5_143 rfl (isb_b2i _) dX8_laysMarks_81 fun σ7 eσ7 => ?_
    replace hr := vthen_inv hr σ7 eσ7
    have hσ7 := wtI eσ7 hw_
    refine r_iinc (pc := 84) (j := 2) (v := (v2_ + (1 : Int32))) (ls1 := [(2, .int (v2_ + (1 : Int32))), (0, .ref (ad g 73)), (1, .int u1_)]) dX8_laysMarks_84 rfl rfl (nle rfl) rfl ?_
    refine r_goto (pc := 87) (tgt := 48) dX8_laysMarks_87 rfl ?_
    exact r_pick (ls1 := [(0, .ref (ad g 73)), (1, .int u1_), (2, .int (v2_ + (1 : Int32)))]) [1, 2, 0] rfl (ih (v2_ + (1 : Int32)) σ7 hr hσ7)
  obtain ⟨j80, ej80, hr⟩ := vth_ex hr
  have hj80 : j80 () = some r → RR g mX8_laysMarks (FinR g mX8_laysMarks none NF r) zF 80 [(0, .ref (ad g 73)), (1, .int u1_), (2, .int v2_)] [.ref (ad g 73)] σ_ := by
    intro  hr
    replace hr := (congrFun ej80 ()).symm.trans hr
    refine r_iconst (pc := 80) (v := (0 : Int32)) dX8_laysMarks_80 rfl ?_
    exact r_pick (ls1 := [(0, .ref (ad g 73)), (1, .int u1_), (2, .int v2_)]) [0, 1, 2] rfl (hj81 false hr)
  refine r_if_eq (pc := 58) (tgt := 80) dX8_laysMarks_58 rfl (fun hc => ?_) (fun hc => ?_)
  · replace hr := ite_t hc hr
    exact r_pick (ls1 := [(0, .ref (ad g 73)), (1, .int u1_), (2, .int v2_)]) [0, 1, 2] rfl (hj80  hr)
  replace hr := ite_f hc hr
  refine r_aload_n (pc := 61) (j := 0) dX8_laysMarks_61 rfl rfl ?_
  refine gf8_45 (pc := 62) tw_5_139 hw_ dX8_laysMarks_62 ?_
  refine r_iload_n (pc := 65) (j := 2) dX8_laysMarks_65 rfl rfl ?_
  obtain ⟨h8, hr⟩ := grd_inv hr
  refine x_iald (pc := 66) (k := (Int32.toNatClampNeg v2_)) rfl h8 rfl dX8_laysMarks_66 ?_
  refine r_aload_n (pc := 67) (j := 0) dX8_laysMarks_67 rfl rfl ?_
  refine gf8_45 (pc := 68) tw_5_139 hw_ dX8_laysMarks_68 ?_
  refine r_iload_n (pc := 71) (j := 1) dX8_laysMarks_71 rfl rfl ?_
  obtain ⟨h9, hr⟩ := grd_inv hr
  refine x_iald (pc := 72) (k := (Int32.toNatClampNeg u1_)) rfl h9 rfl dX8_laysMarks_72 ?_
  refine r_icmp_eq (pc := 73) (tgt := 80) dX8_laysMarks_73 rfl (fun hc => ?_) (fun hc => ?_)
  · replace hr := ite_t hc hr
    exact r_pick (ls1 := [(0, .ref (ad g 73)), (1, .int u1_), (2, .int v2_)]) [0, 1, 2] rfl (hj80  hr)
  replace hr := ite_f hc hr
  refine r_iconst (pc := 76) (v := (1 : Int32)) dX8_laysMarks_76 rfl ?_
  refine r_goto (pc := 77) (tgt := 81) dX8_laysMarks_77 rfl ?_
  exact r_pick (ls1 := [(0, .ref (ad g 73)), (1, .int u1_), (2, .int v2_)]) [0, 1, 2] rfl (hj81 true hr)

set_option maxRecDepth 20000 in
theorem sX8_laysMarks_L11 {g : GG} {r : SS}   
    (n : Nat) : ∀ (v1_ : Int32) (σ_ : SS), X8_laysMarks_L11 n v1_ σ_ = some r → WT σ_ → RR g mX8_laysMarks (FinR g mX8_laysMarks none NF r) zF 11 [(0, .ref (ad g 73)), (1, .int v1_)] [] σ_ := by
  unfold X8_laysMarks_L11
  refine lp_ind (P := fun (rec : Int32 → SS → Option SS) => ∀ (v1_ : Int32) (σ_ : SS), rec v1_ σ_ = some r → WT σ_ → RR g mX8_laysMarks (FinR g mX8_laysMarks none NF r) zF 11 [(0, .ref (ad g 73)), (1, .int v1_)] [] σ_) ?_ ?_ n
  · intro v1_ σ_ hr; cases hr
  intro rec ih v1_ σ_ hr hw_
  refine r_iload_n (pc := 11) (j := 1) dX8_laysMarks_11 rfl rfl ?_
  refine r_iconst (pc := 12) (v := (4 : Int32)) dX8_laysMarks_12 rfl ?_
  refine r_icmp_ge (pc := 13) (tgt := 96) dX8_laysMarks_13 rfl (fun hc => ?_) (fun hc => ?_)
  · replace hr := ite_t hc hr
    exact l_ov hr (r_vret (pc := 96) rfl rfl ⟨Nat.le_refl _, Nat.le_refl _⟩ dX8_laysMarks_96)
  replace hr := ite_f hc hr
  refine r_aload_n (pc := 16) (j := 0) dX8_laysMarks_16 rfl rfl ?_
  refine r_iload_n (pc := 17) (j := 1) dX8_laysMarks_17 rfl rfl ?_
  obtain ⟨σ3, eσ3, hr⟩ := bnd1_inv hr
  refine kX8_laysMark (pc := 18) eσ3 tw_7_51 ⟨nle rfl, nle rfl⟩ (nle rfl) dX8_laysMarks_18 fun hσ3 => ?_
  refine r_aload_n (pc := 21) (j := 0) dX8_laysMarks_21 rfl rfl ?_
  refine r_aload_n (pc := 22) (j := 0) dX8_laysMarks_22 rfl rfl ?_
  refine gf8_49 (pc := 23) tw_5_143 rfl dX8_laysMarks_23 ?_
  obtain ⟨j43, ej43, hr⟩ := vth_ex hr
  have hj43 : ∀ (s4 : Bool), j43 s4 = some r → RR g mX8_laysMarks (FinR g mX8_laysMarks none NF r) zF 43 [(0, .ref (ad g 73)), (1, .int v1_)] [.int (b2i s4), .ref (ad g 73)] σ3 := by
    intro s4 hr
    replace hr := (congrFun ej43 s4).symm.trans hr
    refine pf8_49 (pc := 43) tw_5_143 rfl (isb_b2i _) dX8_laysMarks_43 fun σ5 eσ5 => ?_
    replace hr := vthen_inv hr σ5 eσ5
    have hσ5 := wtI eσ5 hσ3
    refine r_iconst (pc := 46) (v := (0 : Int32)) dX8_laysMarks_46 rfl ?_
    refine r_istore_n (pc := 47) (ls1 := [(2, .int (0 : Int32)), (0, .ref (ad g 73)), (1, .int v1_)]) dX8_laysMarks_47 rfl (nle rfl) rfl ?_
    refine r_pick (ls1 := [(0, .ref (ad g 73)), (1, .int v1_), (2, .int (0 : Int32))]) [1, 2, 0] rfl ?_
    refine sX8_laysMarks_L48    (fun σ10 hr hσ10 => ?_) fuel (0 : Int32) σ5 hr hσ5
    refine r_iinc (pc := 90) (j := 1) (v := (v1_ + (1 : Int32))) (ls1 := [(1, .int (v1_ + (1 : Int32))), (0, .ref (ad g 73))]) dX8_laysMarks_90 rfl rfl (nle rfl) rfl ?_
    refine r_goto (pc := 93) (tgt := 11) dX8_laysMarks_93 rfl ?_
    exact r_pick (ls1 := [(0, .ref (ad g 73)), (1, .int (v1_ + (1 : Int32)))]) [1, 0] rfl (ih (v1_ + (1 : Int32)) σ10 hr hσ10)
  obtain ⟨j42, ej42, hr⟩ := vth_ex hr
  have hj42 : j42 () = some r → RR g mX8_laysMarks (FinR g mX8_laysMarks none NF r) zF 42 [(0, .ref (ad g 73)), (1, .int v1_)] [.ref (ad g 73)] σ3 := by
    intro  hr
    replace hr := (congrFun ej42 ()).symm.trans hr
    refine r_iconst (pc := 42) (v := (0 : Int32)) dX8_laysMarks_42 rfl ?_
    exact r_pick (ls1 := [(0, .ref (ad g 73)), (1, .int v1_)]) [0, 1] rfl (hj43 false hr)
  refine r_if_eq (pc := 26) (tgt := 42) dX8_laysMarks_26 rfl (fun hc => ?_) (fun hc => ?_)
  · replace hr := ite_t hc hr
    exact r_pick (ls1 := [(0, .ref (ad g 73)), (1, .int v1_)]) [0, 1] rfl (hj42  hr)
  replace hr := ite_f hc hr
  refine r_aload_n (pc := 29) (j := 0) dX8_laysMarks_29 rfl rfl ?_
  refine gf8_45 (pc := 30) tw_5_139 hσ3 dX8_laysMarks_30 ?_
  refine r_iload_n (pc := 33) (j := 1) dX8_laysMarks_33 rfl rfl ?_
  obtain ⟨h11, hr⟩ := grd_inv hr
  refine x_iald (pc := 34) (k := (Int32.toNatClampNeg v1_)) rfl h11 rfl dX8_laysMarks_34 ?_
  refine r_if_lt (pc := 35) (tgt := 42) dX8_laysMarks_35 rfl (fun hc => ?_) (fun hc => ?_)
  · replace hr := ite_t hc hr
    exact r_pick (ls1 := [(0, .ref (ad g 73)), (1, .int v1_)]) [0, 1] rfl (hj42  hr)
  replace hr := ite_f hc hr
  refine r_iconst (pc := 38) (v := (1 : Int32)) dX8_laysMarks_38 rfl ?_
  refine r_goto (pc := 39) (tgt := 43) dX8_laysMarks_39 rfl ?_
  exact r_pick (ls1 := [(0, .ref (ad g 73)), (1, .int v1_)]) [0, 1] rfl (hj43 true hr)

set_option maxRecDepth 20000 in
theorem sX8_laysMarks {g : GG} {σ : SS}  {r : SS} (hr : fX8_laysMarks σ = some r)  : Ct g mX8_laysMarks [.ref (ad g 73)] NF σ none NF r := by
  refine Ct.of (by decide +kernel) (nle rfl) fun hw0 => ?_
  have hw := hw0 rfl
  unfold fX8_laysMarks at hr
  change RR g mX8_laysMarks (FinR g mX8_laysMarks none NF r) zF 0 [(0, .ref (ad g 73))] [] σ
  refine r_aload_n (pc := 0) (j := 0) dX8_laysMarks_0 rfl rfl ?_
  obtain ⟨σ1, eσ1, hr⟩ := bnd1_inv hr
  refine kX8_laysBlobs (pc := 1) eσ1 tw_6_231 ⟨nle rfl, nle rfl⟩ (nle rfl) dX8_laysMarks_1 fun hσ1 => ?_
  refine r_aload_n (pc := 4) (j := 0) dX8_laysMarks_4 rfl rfl ?_
  refine r_iconst (pc := 5) (v := (1 : Int32)) dX8_laysMarks_5 rfl ?_
  refine pf8_49 (pc := 6) tw_5_143 rfl rfl dX8_laysMarks_6 fun σ2 eσ2 => ?_
  replace hr := vthen_inv hr σ2 eσ2
  have hσ2 := wtI eσ2 hσ1
  refine r_iconst (pc := 9) (v := (0 : Int32)) dX8_laysMarks_9 rfl ?_
  refine r_istore_n (pc := 10) (ls1 := [(1, .int (0 : Int32)), (0, .ref (ad g 73))]) dX8_laysMarks_10 rfl (nle rfl) rfl ?_
  refine r_pick (ls1 := [(0, .ref (ad g 73)), (1, .int (0 : Int32))]) [1, 0] rfl ?_
  refine sX8_laysMarks_L11     fuel (0 : Int32) σ2 hr hσ2

theorem kX8_laysMarks {g : GG} {σ : SS}  {σ2 : SS} {M : MM} {F : State → Array Value → List Frame → State → Prop} {pc index : Nat} {ls : List (Nat × Value)} {rest : List Value} (hf : fX8_laysMarks σ = some σ2)  (hl : Cond.methodLink M.1.cls index yX8_laysMarks ∈ lw_gt) (hR : mX8_laysMarks.2.2.2.2.frames + 1 ≤ M.2.2.2.2.frames ∧ 8 + (mX8_laysMarks.2.2.1 + 11) + mX8_laysMarks.2.2.2.2.locals ≤ M.2.2.2.2.locals) (hrest : (rest.map fun v => v.category).sum ≤ 8) (hd : decode M.2.1 pc = .ok (.invokevirtual index, 3)) (k : WT σ2 → RR g M F zF (pc + 3) ls rest σ2) : RR g M F zF pc ls (.ref (ad g 73) :: rest) σ :=
  r_callV (z := zF) (N := mX8_laysMarks) (nn := 0) (o1 := none) (sX8_laysMarks hf ) (rfl : shp 73 = (8, 0)) (by decide) (shp_le (rfl : shp 73 = (8, 0)) (nle rfl)) (ci := 8) rfl rfl tw_7_50 tw_1_10 hl tw_7_49 tp_66 ⟨by decide, by decide, rfl⟩ hR rfl hrest hd ⟨Nat.zero_le _, Nat.zero_le _⟩ rfl (fun h => k (h rfl))

theorem dX8_mark_0 : decode cX8_mark 0 = .ok (.iload_n 1, 1) := by decide +kernel
theorem dX8_mark_1 : decode cX8_mark 1 = .ok (.iconst 0, 1) := by decide +kernel
theorem dX8_mark_2 : decode cX8_mark 2 = .ok (.iconst 3, 1) := by decide +kernel
theorem dX8_mark_3 : decode cX8_mark 3 = .ok (.invokestatic 165, 3) := by decide +kernel
theorem dX8_mark_6 : decode cX8_mark 6 = .ok (.ifCond .ne 5, 3) := by decide +kernel
theorem dX8_mark_9 : decode cX8_mark 9 = .ok (.iconst (-1), 1) := by decide +kernel
theorem dX8_mark_10 : decode cX8_mark 10 = .ok (.ireturn, 1) := by decide +kernel
theorem dX8_mark_11 : decode cX8_mark 11 = .ok (.aload_n 0, 1) := by decide +kernel
theorem dX8_mark_12 : decode cX8_mark 12 = .ok (.invokevirtual 332, 3) := by decide +kernel
theorem dX8_mark_15 : decode cX8_mark 15 = .ok (.aload_n 0, 1) := by decide +kernel
theorem dX8_mark_16 : decode cX8_mark 16 = .ok (.getfield 95, 3) := by decide +kernel
theorem dX8_mark_19 : decode cX8_mark 19 = .ok (.iload_n 1, 1) := by decide +kernel
theorem dX8_mark_20 : decode cX8_mark 20 = .ok (.iaload, 1) := by decide +kernel
theorem dX8_mark_21 : decode cX8_mark 21 = .ok (.ireturn, 1) := by decide +kernel
def mX8_mark : MM := (yX8_mark, cX8_mark, 2, Option.some Jvm.ClassFile.FieldType.int, { frames := 6, cells := 0, slots := 0, locals := 135 })
def fX8_mark (σ : SS) (a1 : Int32) : Option (Int32 × SS) :=
  if (fX8_in σ a1 (0 : Int32) (3 : Int32)) = true then (
    bnd1 (fX8_laysMarks σ) fun σ1 =>
    grd (inb a1 4) <|
    some ((gI σ1 102 (Int32.toNatClampNeg a1)), σ1)
    ) else (
    some ((-1 : Int32), σ)
    )

set_option maxRecDepth 20000 in
theorem sX8_mark {g : GG} {σ : SS} {a1 : Int32} {r : Int32 × SS} (hr : fX8_mark σ a1 = some r)  : Ct g mX8_mark [.ref (ad g 73), .int a1] NF σ (some (.int r.1)) NF r.2 := by
  refine Ct.of (by decide +kernel) (nle rfl) fun hw0 => ?_
  have hw := hw0 rfl
  unfold fX8_mark at hr
  change RR g mX8_mark (FinR g mX8_mark (some (.int r.1)) NF r.2) zF 0 [(0, .ref (ad g 73)), (1, .int a1)] [] σ
  refine r_iload_n (pc := 0) (j := 1) dX8_mark_0 rfl rfl ?_
  refine r_iconst (pc := 1) (v := (0 : Int32)) dX8_mark_1 rfl ?_
  refine r_iconst (pc := 2) (v := (3 : Int32)) dX8_mark_2 rfl ?_
  refine kX8_in (pc := 3) (hf := rfl) tw_6_65 ⟨nle rfl, nle rfl⟩ (nle rfl) dX8_mark_3 ?_
  refine r_ifB_ne (pc := 6) (tgt := 11) dX8_mark_6 rfl (fun hc => ?_) (fun hc => ?_)
  · replace hr := ite_t hc hr
    refine r_aload_n (pc := 11) (j := 0) dX8_mark_11 rfl rfl ?_
    obtain ⟨σ1, eσ1, hr⟩ := bnd1_inv hr
    refine kX8_laysMarks (pc := 12) eσ1 tw_7_47 ⟨nle rfl, nle rfl⟩ (nle rfl) dX8_mark_12 fun hσ1 => ?_
    refine r_aload_n (pc := 15) (j := 0) dX8_mark_15 rfl rfl ?_
    refine gf8_45 (pc := 16) tw_5_139 hσ1 dX8_mark_16 ?_
    refine r_iload_n (pc := 19) (j := 1) dX8_mark_19 rfl rfl ?_
    obtain ⟨h2, hr⟩ := grd_inv hr
    refine x_iald (pc := 20) (k := (Int32.toNatClampNeg a1)) rfl h2 rfl dX8_mark_20 ?_
    exact l_osi hr (r_iret (pc := 21) (v := (gI σ1 102 (Int32.toNatClampNeg a1))) rfl rfl ⟨Nat.le_refl _, Nat.le_refl _⟩ dX8_mark_21)
  replace hr := ite_f hc hr
  refine r_iconst (pc := 9) (v := (-1 : Int32)) dX8_mark_9 rfl ?_
  exact l_osi hr (r_iret (pc := 10) (v := (-1 : Int32)) rfl rfl ⟨Nat.le_refl _, Nat.le_refl _⟩ dX8_mark_10)

theorem kX8_mark {g : GG} {σ : SS} {a1 : Int32} {v : Int32} {σ2 : SS} {M : MM} {F : State → Array Value → List Frame → State → Prop} {pc index : Nat} {ls : List (Nat × Value)} {rest : List Value} (hf : fX8_mark σ a1 = some (v, σ2))  (hl : Cond.methodLink M.1.cls index yX8_mark ∈ lw_gt) (hR : mX8_mark.2.2.2.2.frames + 1 ≤ M.2.2.2.2.frames ∧ 8 + (mX8_mark.2.2.1 + 11) + mX8_mark.2.2.2.2.locals ≤ M.2.2.2.2.locals) (hrest : (rest.map fun v => v.category).sum ≤ 8) (hd : decode M.2.1 pc = .ok (.invokevirtual index, 3)) (k : WT σ2 → RR g M F zF (pc + 3) ls (.int v :: rest) σ2) : RR g M F zF pc ls (.int a1 :: .ref (ad g 73) :: rest) σ :=
  r_callV (z := zF) (N := mX8_mark) (nn := 1) (o1 := some (.int v)) (sX8_mark hf ) (rfl : shp 73 = (8, 0)) (by decide) (shp_le (rfl : shp 73 = (8, 0)) (nle rfl)) (ci := 8) rfl rfl tw_7_46 tw_1_10 hl tw_7_44 tw_7_45 ⟨by decide, by decide, rfl⟩ hR rfl hrest hd ⟨Nat.zero_le _, Nat.zero_le _⟩ rfl (fun h => k (h rfl))

theorem dX7_marked_0 : decode cX7_marked 0 = .ok (.aload_n 0, 1) := by decide +kernel
theorem dX7_marked_1 : decode cX7_marked 1 = .ok (.getfield 62, 3) := by decide +kernel
theorem dX7_marked_4 : decode cX7_marked 4 = .ok (.aload_n 0, 1) := by decide +kernel
theorem dX7_marked_5 : decode cX7_marked 5 = .ok (.getfield 18, 3) := by decide +kernel
theorem dX7_marked_8 : decode cX7_marked 8 = .ok (.invokevirtual 252, 3) := by decide +kernel
theorem dX7_marked_11 : decode cX7_marked 11 = .ok (.ifCond .eq 7, 3) := by decide +kernel
theorem dX7_marked_14 : decode cX7_marked 14 = .ok (.iconst 1, 1) := by decide +kernel
theorem dX7_marked_15 : decode cX7_marked 15 = .ok (.goto 4, 3) := by decide +kernel
theorem dX7_marked_18 : decode cX7_marked 18 = .ok (.iconst 0, 1) := by decide +kernel
theorem dX7_marked_19 : decode cX7_marked 19 = .ok (.ireturn, 1) := by decide +kernel
def mX7_marked : MM := (yX7_marked, cX7_marked, 1, Option.some Jvm.ClassFile.FieldType.int, { frames := 4, cells := 0, slots := 0, locals := 102 })
def fX7_marked (σ : SS)  : Option (Int32 × SS) :=
  bnd (fX3_locate σ (gR σ 1 2)) fun b2 σ4 =>
  if b2 = true then (
    some ((1 : Int32), σ4)
    ) else (
    some ((0 : Int32), σ4)
    )

set_option maxRecDepth 20000 in
theorem sX7_marked {g : GG} {σ : SS}  {r : Int32 × SS} (hr : fX7_marked σ = some r)  : Ct g mX7_marked [.ref (ad g 1)] NF σ (some (.int r.1)) NF r.2 := by
  refine Ct.of (by decide +kernel) (nle rfl) fun hw0 => ?_
  have hw := hw0 rfl
  unfold fX7_marked at hr
  change RR g mX7_marked (FinR g mX7_marked (some (.int r.1)) NF r.2) zF 0 [(0, .ref (ad g 1))] [] σ
  refine r_aload_n (pc := 0) (j := 0) dX7_marked_0 rfl rfl ?_
  refine gf7_12 (pc := 1) tw_2_121 hw dX7_marked_1 ?_
  refine r_aload_n (pc := 4) (j := 0) dX7_marked_4 rfl rfl ?_
  refine gf7_2 (pc := 5) tw_2_111 hw dX7_marked_5 ?_
  obtain ⟨b2, σ4, eσ4, hr⟩ := bnd_inv hr
  refine kX3_locate (pc := 8) eσ4 (wt_sc hw).1 tw_4_28 ⟨nle rfl, nle rfl⟩ (nle rfl) dX7_marked_8 fun hσ4 => ?_
  refine r_ifB_eq (pc := 11) (tgt := 18) dX7_marked_11 rfl (fun hc => ?_) (fun hc => ?_)
  · replace hr := ite_f hc hr
    refine r_iconst (pc := 18) (v := (0 : Int32)) dX7_marked_18 rfl ?_
    exact l_osi hr (r_iret (pc := 19) (v := (0 : Int32)) rfl rfl ⟨Nat.le_refl _, Nat.le_refl _⟩ dX7_marked_19)
  replace hr := ite_t hc hr
  refine r_iconst (pc := 14) (v := (1 : Int32)) dX7_marked_14 rfl ?_
  refine r_goto (pc := 15) (tgt := 19) dX7_marked_15 rfl ?_
  exact l_osi hr (r_iret (pc := 19) (v := (1 : Int32)) rfl rfl ⟨Nat.le_refl _, Nat.le_refl _⟩ dX7_marked_19)

theorem kX7_marked {g : GG} {σ : SS}  {v : Int32} {σ2 : SS} {M : MM} {F : State → Array Value → List Frame → State → Prop} {pc index : Nat} {ls : List (Nat × Value)} {rest : List Value} (hf : fX7_marked σ = some (v, σ2))  (hl : Cond.methodLink M.1.cls index yX7_marked ∈ lw_gt) (hR : mX7_marked.2.2.2.2.frames + 1 ≤ M.2.2.2.2.frames ∧ 8 + (mX7_marked.2.2.1 + 11) + mX7_marked.2.2.2.2.locals ≤ M.2.2.2.2.locals) (hrest : (rest.map fun v => v.category).sum ≤ 8) (hd : decode M.2.1 pc = .ok (.invokevirtual index, 3)) (k : WT σ2 → RR g M F zF (pc + 3) ls (.int v :: rest) σ2) : RR g M F zF pc ls (.ref (ad g 1) :: rest) σ :=
  r_callV (z := zF) (N := mX7_marked) (nn := 0) (o1 := some (.int v)) (sX7_marked hf ) (rfl : shp 1 = (7, 0)) (by decide) (shp_le (rfl : shp 1 = (7, 0)) (nle rfl)) (ci := 7) rfl rfl tw_4_48 tw_1_1 hl tw_4_46 tw_4_47 ⟨by decide, by decide, rfl⟩ hR rfl hrest hd ⟨Nat.zero_le _, Nat.zero_le _⟩ rfl (fun h => k (h rfl))

theorem dX8_marked_0 : decode cX8_marked 0 = .ok (.aload_n 0, 1) := by decide +kernel
theorem dX8_marked_1 : decode cX8_marked 1 = .ok (.invokevirtual 332, 3) := by decide +kernel
theorem dX8_marked_4 : decode cX8_marked 4 = .ok (.aload_n 0, 1) := by decide +kernel
theorem dX8_marked_5 : decode cX8_marked 5 = .ok (.getfield 326, 3) := by decide +kernel
theorem dX8_marked_8 : decode cX8_marked 8 = .ok (.ifCond .eq 7, 3) := by decide +kernel
theorem dX8_marked_11 : decode cX8_marked 11 = .ok (.iconst 1, 1) := by decide +kernel
theorem dX8_marked_12 : decode cX8_marked 12 = .ok (.goto 4, 3) := by decide +kernel
theorem dX8_marked_15 : decode cX8_marked 15 = .ok (.iconst 0, 1) := by decide +kernel
theorem dX8_marked_16 : decode cX8_marked 16 = .ok (.ireturn, 1) := by decide +kernel
def mX8_marked : MM := (yX8_marked, cX8_marked, 1, Option.some Jvm.ClassFile.FieldType.int, { frames := 6, cells := 0, slots := 0, locals := 135 })
def fX8_marked (σ : SS)  : Option (Int32 × SS) :=
  bnd1 (fX8_laysMarks σ) fun σ1 =>
  if (gI σ1 73 49) = 0 then (
    some ((0 : Int32), σ1)
    ) else (
    some ((1 : Int32), σ1)
    )

set_option maxRecDepth 20000 in
theorem sX8_marked {g : GG} {σ : SS}  {r : Int32 × SS} (hr : fX8_marked σ = some r)  : Ct g mX8_marked [.ref (ad g 73)] NF σ (some (.int r.1)) NF r.2 := by
  refine Ct.of (by decide +kernel) (nle rfl) fun hw0 => ?_
  have hw := hw0 rfl
  unfold fX8_marked at hr
  change RR g mX8_marked (FinR g mX8_marked (some (.int r.1)) NF r.2) zF 0 [(0, .ref (ad g 73))] [] σ
  refine r_aload_n (pc := 0) (j := 0) dX8_marked_0 rfl rfl ?_
  obtain ⟨σ1, eσ1, hr⟩ := bnd1_inv hr
  refine kX8_laysMarks (pc := 1) eσ1 tw_7_47 ⟨nle rfl, nle rfl⟩ (nle rfl) dX8_marked_1 fun hσ1 => ?_
  refine r_aload_n (pc := 4) (j := 0) dX8_marked_4 rfl rfl ?_
  refine gf8_49 (pc := 5) tw_5_143 rfl dX8_marked_5 ?_
  refine r_if_eq (pc := 8) (tgt := 15) dX8_marked_8 rfl (fun hc => ?_) (fun hc => ?_)
  · replace hr := ite_t hc hr
    refine r_iconst (pc := 15) (v := (0 : Int32)) dX8_marked_15 rfl ?_
    exact l_osi hr (r_iret (pc := 16) (v := (0 : Int32)) rfl rfl ⟨Nat.le_refl _, Nat.le_refl _⟩ dX8_marked_16)
  replace hr := ite_f hc hr
  refine r_iconst (pc := 11) (v := (1 : Int32)) dX8_marked_11 rfl ?_
  refine r_goto (pc := 12) (tgt := 16) dX8_marked_12 rfl ?_
  exact l_osi hr (r_iret (pc := 16) (v := (1 : Int32)) rfl rfl ⟨Nat.le_refl _, Nat.le_refl _⟩ dX8_marked_16)

theorem kX8_marked {g : GG} {σ : SS}  {v : Int32} {σ2 : SS} {M : MM} {F : State → Array Value → List Frame → State → Prop} {pc index : Nat} {ls : List (Nat × Value)} {rest : List Value} (hf : fX8_marked σ = some (v, σ2))  (hl : Cond.methodLink M.1.cls index yX8_marked ∈ lw_gt) (hR : mX8_marked.2.2.2.2.frames + 1 ≤ M.2.2.2.2.frames ∧ 8 + (mX8_marked.2.2.1 + 11) + mX8_marked.2.2.2.2.locals ≤ M.2.2.2.2.locals) (hrest : (rest.map fun v => v.category).sum ≤ 8) (hd : decode M.2.1 pc = .ok (.invokevirtual index, 3)) (k : WT σ2 → RR g M F zF (pc + 3) ls (.int v :: rest) σ2) : RR g M F zF pc ls (.ref (ad g 73) :: rest) σ :=
  r_callV (z := zF) (N := mX8_marked) (nn := 0) (o1 := some (.int v)) (sX8_marked hf ) (rfl : shp 73 = (8, 0)) (by decide) (shp_le (rfl : shp 73 = (8, 0)) (nle rfl)) (ci := 8) rfl rfl tw_7_58 tw_1_10 hl tw_7_56 tw_7_57 ⟨by decide, by decide, rfl⟩ hR rfl hrest hd ⟨Nat.zero_le _, Nat.zero_le _⟩ rfl (fun h => k (h rfl))

theorem dX5_sideOf_0 : decode cX5_sideOf 0 = .ok (.aload_n 0, 1) := by decide +kernel
theorem dX5_sideOf_1 : decode cX5_sideOf 1 = .ok (.getfield 18, 3) := by decide +kernel
theorem dX5_sideOf_4 : decode cX5_sideOf 4 = .ok (.iload_n 3, 1) := by decide +kernel
theorem dX5_sideOf_5 : decode cX5_sideOf 5 = .ok (.laload, 1) := by decide +kernel
theorem dX5_sideOf_6 : decode cX5_sideOf 6 = .ok (.aload_n 0, 1) := by decide +kernel
theorem dX5_sideOf_7 : decode cX5_sideOf 7 = .ok (.getfield 9, 3) := by decide +kernel
theorem dX5_sideOf_10 : decode cX5_sideOf 10 = .ok (.iload_n 1, 1) := by decide +kernel
theorem dX5_sideOf_11 : decode cX5_sideOf 11 = .ok (.laload, 1) := by decide +kernel
theorem dX5_sideOf_12 : decode cX5_sideOf 12 = .ok (.aload_n 0, 1) := by decide +kernel
theorem dX5_sideOf_13 : decode cX5_sideOf 13 = .ok (.getfield 15, 3) := by decide +kernel
theorem dX5_sideOf_16 : decode cX5_sideOf 16 = .ok (.iload_n 2, 1) := by decide +kernel
theorem dX5_sideOf_17 : decode cX5_sideOf 17 = .ok (.laload, 1) := by decide +kernel
theorem dX5_sideOf_18 : decode cX5_sideOf 18 = .ok (.lmul, 1) := by decide +kernel
theorem dX5_sideOf_19 : decode cX5_sideOf 19 = .ok (.aload_n 0, 1) := by decide +kernel
theorem dX5_sideOf_20 : decode cX5_sideOf 20 = .ok (.getfield 9, 3) := by decide +kernel
theorem dX5_sideOf_23 : decode cX5_sideOf 23 = .ok (.iload_n 2, 1) := by decide +kernel
theorem dX5_sideOf_24 : decode cX5_sideOf 24 = .ok (.laload, 1) := by decide +kernel
theorem dX5_sideOf_25 : decode cX5_sideOf 25 = .ok (.aload_n 0, 1) := by decide +kernel
theorem dX5_sideOf_26 : decode cX5_sideOf 26 = .ok (.getfield 15, 3) := by decide +kernel
theorem dX5_sideOf_29 : decode cX5_sideOf 29 = .ok (.iload_n 1, 1) := by decide +kernel
theorem dX5_sideOf_30 : decode cX5_sideOf 30 = .ok (.laload, 1) := by decide +kernel
theorem dX5_sideOf_31 : decode cX5_sideOf 31 = .ok (.lmul, 1) := by decide +kernel
theorem dX5_sideOf_32 : decode cX5_sideOf 32 = .ok (.lsub, 1) := by decide +kernel
theorem dX5_sideOf_33 : decode cX5_sideOf 33 = .ok (.lmul, 1) := by decide +kernel
theorem dX5_sideOf_34 : decode cX5_sideOf 34 = .ok (.aload_n 0, 1) := by decide +kernel
theorem dX5_sideOf_35 : decode cX5_sideOf 35 = .ok (.getfield 18, 3) := by decide +kernel
theorem dX5_sideOf_38 : decode cX5_sideOf 38 = .ok (.iload_n 1, 1) := by decide +kernel
theorem dX5_sideOf_39 : decode cX5_sideOf 39 = .ok (.laload, 1) := by decide +kernel
theorem dX5_sideOf_40 : decode cX5_sideOf 40 = .ok (.aload_n 0, 1) := by decide +kernel
theorem dX5_sideOf_41 : decode cX5_sideOf 41 = .ok (.getfield 9, 3) := by decide +kernel
theorem dX5_sideOf_44 : decode cX5_sideOf 44 = .ok (.iload_n 2, 1) := by decide +kernel
theorem dX5_sideOf_45 : decode cX5_sideOf 45 = .ok (.laload, 1) := by decide +kernel
theorem dX5_sideOf_46 : decode cX5_sideOf 46 = .ok (.aload_n 0, 1) := by decide +kernel
theorem dX5_sideOf_47 : decode cX5_sideOf 47 = .ok (.getfield 15, 3) := by decide +kernel
theorem dX5_sideOf_50 : decode cX5_sideOf 50 = .ok (.iload_n 3, 1) := by decide +kernel
theorem dX5_sideOf_51 : decode cX5_sideOf 51 = .ok (.laload, 1) := by decide +kernel
theorem dX5_sideOf_52 : decode cX5_sideOf 52 = .ok (.lmul, 1) := by decide +kernel
theorem dX5_sideOf_53 : decode cX5_sideOf 53 = .ok (.aload_n 0, 1) := by decide +kernel
theorem dX5_sideOf_54 : decode cX5_sideOf 54 = .ok (.getfield 9, 3) := by decide +kernel
theorem dX5_sideOf_57 : decode cX5_sideOf 57 = .ok (.iload_n 3, 1) := by decide +kernel
theorem dX5_sideOf_58 : decode cX5_sideOf 58 = .ok (.laload, 1) := by decide +kernel
theorem dX5_sideOf_59 : decode cX5_sideOf 59 = .ok (.aload_n 0, 1) := by decide +kernel
theorem dX5_sideOf_60 : decode cX5_sideOf 60 = .ok (.getfield 15, 3) := by decide +kernel
theorem dX5_sideOf_63 : decode cX5_sideOf 63 = .ok (.iload_n 2, 1) := by decide +kernel
theorem dX5_sideOf_64 : decode cX5_sideOf 64 = .ok (.laload, 1) := by decide +kernel
theorem dX5_sideOf_65 : decode cX5_sideOf 65 = .ok (.lmul, 1) := by decide +kernel
theorem dX5_sideOf_66 : decode cX5_sideOf 66 = .ok (.lsub, 1) := by decide +kernel
theorem dX5_sideOf_67 : decode cX5_sideOf 67 = .ok (.lmul, 1) := by decide +kernel
theorem dX5_sideOf_68 : decode cX5_sideOf 68 = .ok (.ladd, 1) := by decide +kernel
theorem dX5_sideOf_69 : decode cX5_sideOf 69 = .ok (.aload_n 0, 1) := by decide +kernel
theorem dX5_sideOf_70 : decode cX5_sideOf 70 = .ok (.getfield 18, 3) := by decide +kernel
theorem dX5_sideOf_73 : decode cX5_sideOf 73 = .ok (.iload_n 2, 1) := by decide +kernel
theorem dX5_sideOf_74 : decode cX5_sideOf 74 = .ok (.laload, 1) := by decide +kernel
theorem dX5_sideOf_75 : decode cX5_sideOf 75 = .ok (.aload_n 0, 1) := by decide +kernel
theorem dX5_sideOf_76 : decode cX5_sideOf 76 = .ok (.getfield 9, 3) := by decide +kernel
theorem dX5_sideOf_79 : decode cX5_sideOf 79 = .ok (.iload_n 3, 1) := by decide +kernel
theorem dX5_sideOf_80 : decode cX5_sideOf 80 = .ok (.laload, 1) := by decide +kernel
theorem dX5_sideOf_81 : decode cX5_sideOf 81 = .ok (.aload_n 0, 1) := by decide +kernel
theorem dX5_sideOf_82 : decode cX5_sideOf 82 = .ok (.getfield 15, 3) := by decide +kernel
theorem dX5_sideOf_85 : decode cX5_sideOf 85 = .ok (.iload_n 1, 1) := by decide +kernel
theorem dX5_sideOf_86 : decode cX5_sideOf 86 = .ok (.laload, 1) := by decide +kernel
theorem dX5_sideOf_87 : decode cX5_sideOf 87 = .ok (.lmul, 1) := by decide +kernel
theorem dX5_sideOf_88 : decode cX5_sideOf 88 = .ok (.aload_n 0, 1) := by decide +kernel
theorem dX5_sideOf_89 : decode cX5_sideOf 89 = .ok (.getfield 9, 3) := by decide +kernel
theorem dX5_sideOf_92 : decode cX5_sideOf 92 = .ok (.iload_n 1, 1) := by decide +kernel
theorem dX5_sideOf_93 : decode cX5_sideOf 93 = .ok (.laload, 1) := by decide +kernel
theorem dX5_sideOf_94 : decode cX5_sideOf 94 = .ok (.aload_n 0, 1) := by decide +kernel
theorem dX5_sideOf_95 : decode cX5_sideOf 95 = .ok (.getfield 15, 3) := by decide +kernel
theorem dX5_sideOf_98 : decode cX5_sideOf 98 = .ok (.iload_n 3, 1) := by decide +kernel
theorem dX5_sideOf_99 : decode cX5_sideOf 99 = .ok (.laload, 1) := by decide +kernel
theorem dX5_sideOf_100 : decode cX5_sideOf 100 = .ok (.lmul, 1) := by decide +kernel
theorem dX5_sideOf_101 : decode cX5_sideOf 101 = .ok (.lsub, 1) := by decide +kernel
theorem dX5_sideOf_102 : decode cX5_sideOf 102 = .ok (.lmul, 1) := by decide +kernel
theorem dX5_sideOf_103 : decode cX5_sideOf 103 = .ok (.ladd, 1) := by decide +kernel
theorem dX5_sideOf_104 : decode cX5_sideOf 104 = .ok (.lreturn, 1) := by decide +kernel
def mX5_sideOf : MM := (yX5_sideOf, cX5_sideOf, 4, Option.some Jvm.ClassFile.FieldType.long, { frames := 0, cells := 0, slots := 0, locals := 0 })
def fX5_sideOf (σ0 : SS) (a1 : Int32) (a2 : Int32) (a3 : Int32) : Option Int64 :=
  grd (inb a3 4) <|
  grd (inb a1 4) <|
  grd (inb a2 4) <|
  some ((((gL σ0 48 (Int32.toNatClampNeg a3)) * (((gL σ0 46 (Int32.toNatClampNeg a1)) * (gL σ0 47 (Int32.toNatClampNeg a2))) - ((gL σ0 46 (Int32.toNatClampNeg a2)) * (gL σ0 47 (Int32.toNatClampNeg a1))))) + ((gL σ0 48 (Int32.toNatClampNeg a1)) * (((gL σ0 46 (Int32.toNatClampNeg a2)) * (gL σ0 47 (Int32.toNatClampNeg a3))) - ((gL σ0 46 (Int32.toNatClampNeg a3)) * (gL σ0 47 (Int32.toNatClampNeg a2)))))) + ((gL σ0 48 (Int32.toNatClampNeg a2)) * (((gL σ0 46 (Int32.toNatClampNeg a3)) * (gL σ0 47 (Int32.toNatClampNeg a1))) - ((gL σ0 46 (Int32.toNatClampNeg a1)) * (gL σ0 47 (Int32.toNatClampNeg a3))))))

set_option maxRecDepth 20000 in
theorem sX5_sideOf {g : GG} {σ0 : SS} {a1 : Int32} {a2 : Int32} {a3 : Int32} {r : Int64} (hr : fX5_sideOf σ0 a1 a2 a3 = some r)  : Ct g mX5_sideOf [.ref (ad g 45), .int a1, .int a2, .int a3] NF σ0 (some (.long r)) NF σ0 := by
  refine Ct.of (by decide +kernel) (nle rfl) fun hw0 => ?_
  have hw := hw0 rfl
  unfold fX5_sideOf at hr
  change RR g mX5_sideOf (FinR g mX5_sideOf (some (.long r)) NF σ0) zF 0 [(0, .ref (ad g 45)), (1, .int a1), (2, .int a2), (3, .int a3)] [] σ0
  refine r_aload_n (pc := 0) (j := 0) dX5_sideOf_0 rfl rfl ?_
  refine gf5_2 (pc := 1) tw_1_238 hw dX5_sideOf_1 ?_
  refine r_iload_n (pc := 4) (j := 3) dX5_sideOf_4 rfl rfl ?_
  obtain ⟨h1, hr⟩ := grd_inv hr
  refine x_lald (pc := 5) (k := (Int32.toNatClampNeg a3)) rfl h1 rfl dX5_sideOf_5 ?_
  refine r_aload_n (pc := 6) (j := 0) dX5_sideOf_6 rfl rfl ?_
  refine gf5_0 (pc := 7) tw_1_236 hw dX5_sideOf_7 ?_
  refine r_iload_n (pc := 10) (j := 1) dX5_sideOf_10 rfl rfl ?_
  obtain ⟨h2, hr⟩ := grd_inv hr
  refine x_lald (pc := 11) (k := (Int32.toNatClampNeg a1)) rfl h2 rfl dX5_sideOf_11 ?_
  refine r_aload_n (pc := 12) (j := 0) dX5_sideOf_12 rfl rfl ?_
  refine gf5_1 (pc := 13) tw_1_237 hw dX5_sideOf_13 ?_
  refine r_iload_n (pc := 16) (j := 2) dX5_sideOf_16 rfl rfl ?_
  obtain ⟨h3, hr⟩ := grd_inv hr
  refine x_lald (pc := 17) (k := (Int32.toNatClampNeg a2)) rfl h3 rfl dX5_sideOf_17 ?_
  refine r_lmul (pc := 18) dX5_sideOf_18 ?_
  refine r_aload_n (pc := 19) (j := 0) dX5_sideOf_19 rfl rfl ?_
  refine gf5_0 (pc := 20) tw_1_236 hw dX5_sideOf_20 ?_
  refine r_iload_n (pc := 23) (j := 2) dX5_sideOf_23 rfl rfl ?_
  refine x_lald (pc := 24) (k := (Int32.toNatClampNeg a2)) rfl h3 rfl dX5_sideOf_24 ?_
  refine r_aload_n (pc := 25) (j := 0) dX5_sideOf_25 rfl rfl ?_
  refine gf5_1 (pc := 26) tw_1_237 hw dX5_sideOf_26 ?_
  refine r_iload_n (pc := 29) (j := 1) dX5_sideOf_29 rfl rfl ?_
  refine x_lald (pc := 30) (k := (Int32.toNatClampNeg a1)) rfl h2 rfl dX5_sideOf_30 ?_
  refine r_lmul (pc := 31) dX5_sideOf_31 ?_
  refine r_lsub (pc := 32) dX5_sideOf_32 ?_
  refine r_lmul (pc := 33) dX5_sideOf_33 ?_
  refine r_aload_n (pc := 34) (j := 0) dX5_sideOf_34 rfl rfl ?_
  refine gf5_2 (pc := 35) tw_1_238 hw dX5_sideOf_35 ?_
  refine r_iload_n (pc := 38) (j := 1) dX5_sideOf_38 rfl rfl ?_
  refine x_lald (pc := 39) (k := (Int32.toNatClampNeg a1)) rfl h2 rfl dX5_sideOf_39 ?_
  refine r_aload_n (pc := 40) (j := 0) dX5_sideOf_40 rfl rfl ?_
  refine gf5_0 (pc := 41) tw_1_236 hw dX5_sideOf_41 ?_
  refine r_iload_n (pc := 44) (j := 2) dX5_sideOf_44 rfl rfl ?_
  refine x_lald (pc := 45) (k := (Int32.toNatClampNeg a2)) rfl h3 rfl dX5_sideOf_45 ?_
  refine r_aload_n (pc := 46) (j := 0) dX5_sideOf_46 rfl rfl ?_
  refine gf5_1 (pc := 47) tw_1_237 hw dX5_sideOf_47 ?_
  refine r_iload_n (pc := 50) (j := 3) dX5_sideOf_50 rfl rfl ?_
  refine x_lald (pc := 51) (k := (Int32.toNatClampNeg a3)) rfl h1 rfl dX5_sideOf_51 ?_
  refine r_lmul (pc := 52) dX5_sideOf_52 ?_
  refine r_aload_n (pc := 53) (j := 0) dX5_sideOf_53 rfl rfl ?_
  refine gf5_0 (pc := 54) tw_1_236 hw dX5_sideOf_54 ?_
  refine r_iload_n (pc := 57) (j := 3) dX5_sideOf_57 rfl rfl ?_
  refine x_lald (pc := 58) (k := (Int32.toNatClampNeg a3)) rfl h1 rfl dX5_sideOf_58 ?_
  refine r_aload_n (pc := 59) (j := 0) dX5_sideOf_59 rfl rfl ?_
  refine gf5_1 (pc := 60) tw_1_237 hw dX5_sideOf_60 ?_
  refine r_iload_n (pc := 63) (j := 2) dX5_sideOf_63 rfl rfl ?_
  refine x_lald (pc := 64) (k := (Int32.toNatClampNeg a2)) rfl h3 rfl dX5_sideOf_64 ?_
  refine r_lmul (pc := 65) dX5_sideOf_65 ?_
  refine r_lsub (pc := 66) dX5_sideOf_66 ?_
  refine r_lmul (pc := 67) dX5_sideOf_67 ?_
  refine r_ladd (pc := 68) dX5_sideOf_68 ?_
  refine r_aload_n (pc := 69) (j := 0) dX5_sideOf_69 rfl rfl ?_
  refine gf5_2 (pc := 70) tw_1_238 hw dX5_sideOf_70 ?_
  refine r_iload_n (pc := 73) (j := 2) dX5_sideOf_73 rfl rfl ?_
  refine x_lald (pc := 74) (k := (Int32.toNatClampNeg a2)) rfl h3 rfl dX5_sideOf_74 ?_
  refine r_aload_n (pc := 75) (j := 0) dX5_sideOf_75 rfl rfl ?_
  refine gf5_0 (pc := 76) tw_1_236 hw dX5_sideOf_76 ?_
  refine r_iload_n (pc := 79) (j := 3) dX5_sideOf_79 rfl rfl ?_
  refine x_lald (pc := 80) (k := (Int32.toNatClampNeg a3)) rfl h1 rfl dX5_sideOf_80 ?_
  refine r_aload_n (pc := 81) (j := 0) dX5_sideOf_81 rfl rfl ?_
  refine gf5_1 (pc := 82) tw_1_237 hw dX5_sideOf_82 ?_
  refine r_iload_n (pc := 85) (j := 1) dX5_sideOf_85 rfl rfl ?_
  refine x_lald (pc := 86) (k := (Int32.toNatClampNeg a1)) rfl h2 rfl dX5_sideOf_86 ?_
  refine r_lmul (pc := 87) dX5_sideOf_87 ?_
  refine r_aload_n (pc := 88) (j := 0) dX5_sideOf_88 rfl rfl ?_
  refine gf5_0 (pc := 89) tw_1_236 hw dX5_sideOf_89 ?_
  refine r_iload_n (pc := 92) (j := 1) dX5_sideOf_92 rfl rfl ?_
  refine x_lald (pc := 93) (k := (Int32.toNatClampNeg a1)) rfl h2 rfl dX5_sideOf_93 ?_
  refine r_aload_n (pc := 94) (j := 0) dX5_sideOf_94 rfl rfl ?_
  refine gf5_1 (pc := 95) tw_1_237 hw dX5_sideOf_95 ?_
  refine r_iload_n (pc := 98) (j := 3) dX5_sideOf_98 rfl rfl ?_
  refine x_lald (pc := 99) (k := (Int32.toNatClampNeg a3)) rfl h1 rfl dX5_sideOf_99 ?_
  refine r_lmul (pc := 100) dX5_sideOf_100 ?_
  refine r_lsub (pc := 101) dX5_sideOf_101 ?_
  refine r_lmul (pc := 102) dX5_sideOf_102 ?_
  refine r_ladd (pc := 103) dX5_sideOf_103 ?_
  exact l_opl hr (r_lret (pc := 104) (v := ((((gL σ0 48 (Int32.toNatClampNeg a3)) * (((gL σ0 46 (Int32.toNatClampNeg a1)) * (gL σ0 47 (Int32.toNatClampNeg a2))) - ((gL σ0 46 (Int32.toNatClampNeg a2)) * (gL σ0 47 (Int32.toNatClampNeg a1))))) + ((gL σ0 48 (Int32.toNatClampNeg a1)) * (((gL σ0 46 (Int32.toNatClampNeg a2)) * (gL σ0 47 (Int32.toNatClampNeg a3))) - ((gL σ0 46 (Int32.toNatClampNeg a3)) * (gL σ0 47 (Int32.toNatClampNeg a2)))))) + ((gL σ0 48 (Int32.toNatClampNeg a2)) * (((gL σ0 46 (Int32.toNatClampNeg a3)) * (gL σ0 47 (Int32.toNatClampNeg a1))) - ((gL σ0 46 (Int32.toNatClampNeg a1)) * (gL σ0 47 (Int32.toNatClampNeg a3))))))) rfl rfl ⟨Nat.le_refl _, Nat.le_refl _⟩ dX5_sideOf_104)

theorem kX5_sideOf {g : GG} {σ0 : SS} {a1 : Int32} {a2 : Int32} {a3 : Int32} {v : Int64} {M : MM} {F : State → Array Value → List Frame → State → Prop} {pc index : Nat} {ls : List (Nat × Value)} {rest : List Value} (hf : fX5_sideOf σ0 a1 a2 a3 = some v)  (hl : Cond.methodLink M.1.cls index yX5_sideOf ∈ lw_gt) (hR : mX5_sideOf.2.2.2.2.frames + 1 ≤ M.2.2.2.2.frames ∧ 8 + (mX5_sideOf.2.2.1 + 11) + mX5_sideOf.2.2.2.2.locals ≤ M.2.2.2.2.locals) (hrest : (rest.map fun v => v.category).sum ≤ 8) (hd : decode M.2.1 pc = .ok (.invokevirtual index, 3)) (k : RR g M F zF (pc + 3) ls (.long v :: rest) σ0) : RR g M F zF pc ls (.int a3 :: .int a2 :: .int a1 :: .ref (ad g 45) :: rest) σ0 :=
  r_callV (z := zF) (N := mX5_sideOf) (nn := 3) (o1 := some (.long v)) (sX5_sideOf hf ) (rfl : shp 45 = (5, 0)) (by decide) (shp_le (rfl : shp 45 = (5, 0)) (nle rfl)) (ci := 5) rfl rfl tw_4_62 tw_1_7 hl tw_4_61 tp_23 ⟨by decide, by decide, rfl⟩ hR rfl hrest hd ⟨Nat.zero_le _, Nat.zero_le _⟩ rfl (fun h => k)

theorem dX5_turnsOneWay_0 : decode cX5_turnsOneWay 0 = .ok (.iconst 0, 1) := by decide +kernel
theorem dX5_turnsOneWay_1 : decode cX5_turnsOneWay 1 = .ok (.istore_n 1, 1) := by decide +kernel
theorem dX5_turnsOneWay_2 : decode cX5_turnsOneWay 2 = .ok (.iconst 0, 1) := by decide +kernel
theorem dX5_turnsOneWay_3 : decode cX5_turnsOneWay 3 = .ok (.istore_n 2, 1) := by decide +kernel
theorem dX5_turnsOneWay_4 : decode cX5_turnsOneWay 4 = .ok (.iconst 0, 1) := by decide +kernel
theorem dX5_turnsOneWay_5 : decode cX5_turnsOneWay 5 = .ok (.istore_n 3, 1) := by decide +kernel
theorem dX5_turnsOneWay_6 : decode cX5_turnsOneWay 6 = .ok (.iload_n 3, 1) := by decide +kernel
theorem dX5_turnsOneWay_7 : decode cX5_turnsOneWay 7 = .ok (.iconst 4, 1) := by decide +kernel
theorem dX5_turnsOneWay_8 : decode cX5_turnsOneWay 8 = .ok (.if_icmp .ge 61, 3) := by decide +kernel
theorem dX5_turnsOneWay_11 : decode cX5_turnsOneWay 11 = .ok (.aload_n 0, 1) := by decide +kernel
theorem dX5_turnsOneWay_12 : decode cX5_turnsOneWay 12 = .ok (.getstatic 53, 3) := by decide +kernel
theorem dX5_turnsOneWay_15 : decode cX5_turnsOneWay 15 = .ok (.iload_n 3, 1) := by decide +kernel
theorem dX5_turnsOneWay_16 : decode cX5_turnsOneWay 16 = .ok (.iaload, 1) := by decide +kernel
theorem dX5_turnsOneWay_17 : decode cX5_turnsOneWay 17 = .ok (.getstatic 53, 3) := by decide +kernel
theorem dX5_turnsOneWay_20 : decode cX5_turnsOneWay 20 = .ok (.iload_n 3, 1) := by decide +kernel
theorem dX5_turnsOneWay_21 : decode cX5_turnsOneWay 21 = .ok (.iconst 1, 1) := by decide +kernel
theorem dX5_turnsOneWay_22 : decode cX5_turnsOneWay 22 = .ok (.iadd, 1) := by decide +kernel
theorem dX5_turnsOneWay_23 : decode cX5_turnsOneWay 23 = .ok (.iconst 4, 1) := by decide +kernel
theorem dX5_turnsOneWay_24 : decode cX5_turnsOneWay 24 = .ok (.irem, 1) := by decide +kernel
theorem dX5_turnsOneWay_25 : decode cX5_turnsOneWay 25 = .ok (.iaload, 1) := by decide +kernel
theorem dX5_turnsOneWay_26 : decode cX5_turnsOneWay 26 = .ok (.getstatic 53, 3) := by decide +kernel
theorem dX5_turnsOneWay_29 : decode cX5_turnsOneWay 29 = .ok (.iload_n 3, 1) := by decide +kernel
theorem dX5_turnsOneWay_30 : decode cX5_turnsOneWay 30 = .ok (.iconst 2, 1) := by decide +kernel
theorem dX5_turnsOneWay_31 : decode cX5_turnsOneWay 31 = .ok (.iadd, 1) := by decide +kernel
theorem dX5_turnsOneWay_32 : decode cX5_turnsOneWay 32 = .ok (.iconst 4, 1) := by decide +kernel
theorem dX5_turnsOneWay_33 : decode cX5_turnsOneWay 33 = .ok (.irem, 1) := by decide +kernel
theorem dX5_turnsOneWay_34 : decode cX5_turnsOneWay 34 = .ok (.iaload, 1) := by decide +kernel
theorem dX5_turnsOneWay_35 : decode cX5_turnsOneWay 35 = .ok (.invokevirtual 57, 3) := by decide +kernel
theorem dX5_turnsOneWay_38 : decode cX5_turnsOneWay 38 = .ok (.lstore 4, 2) := by decide +kernel
theorem dX5_turnsOneWay_40 : decode cX5_turnsOneWay 40 = .ok (.lload 4, 2) := by decide +kernel
theorem dX5_turnsOneWay_42 : decode cX5_turnsOneWay 42 = .ok (.lconst 0, 1) := by decide +kernel
theorem dX5_turnsOneWay_43 : decode cX5_turnsOneWay 43 = .ok (.lcmp, 1) := by decide +kernel
theorem dX5_turnsOneWay_44 : decode cX5_turnsOneWay 44 = .ok (.ifCond .le 9, 3) := by decide +kernel
theorem dX5_turnsOneWay_47 : decode cX5_turnsOneWay 47 = .ok (.iinc 1 1, 3) := by decide +kernel
theorem dX5_turnsOneWay_50 : decode cX5_turnsOneWay 50 = .ok (.goto 13, 3) := by decide +kernel
theorem dX5_turnsOneWay_53 : decode cX5_turnsOneWay 53 = .ok (.lload 4, 2) := by decide +kernel
theorem dX5_turnsOneWay_55 : decode cX5_turnsOneWay 55 = .ok (.lconst 0, 1) := by decide +kernel
theorem dX5_turnsOneWay_56 : decode cX5_turnsOneWay 56 = .ok (.lcmp, 1) := by decide +kernel
theorem dX5_turnsOneWay_57 : decode cX5_turnsOneWay 57 = .ok (.ifCond .ge 6, 3) := by decide +kernel
theorem dX5_turnsOneWay_60 : decode cX5_turnsOneWay 60 = .ok (.iinc 2 1, 3) := by decide +kernel
theorem dX5_turnsOneWay_63 : decode cX5_turnsOneWay 63 = .ok (.iinc 3 1, 3) := by decide +kernel
theorem dX5_turnsOneWay_66 : decode cX5_turnsOneWay 66 = .ok (.goto (-60), 3) := by decide +kernel
theorem dX5_turnsOneWay_69 : decode cX5_turnsOneWay 69 = .ok (.iload_n 1, 1) := by decide +kernel
theorem dX5_turnsOneWay_70 : decode cX5_turnsOneWay 70 = .ok (.iconst 4, 1) := by decide +kernel
theorem dX5_turnsOneWay_71 : decode cX5_turnsOneWay 71 = .ok (.if_icmp .eq 8, 3) := by decide +kernel
theorem dX5_turnsOneWay_74 : decode cX5_turnsOneWay 74 = .ok (.iload_n 2, 1) := by decide +kernel
theorem dX5_turnsOneWay_75 : decode cX5_turnsOneWay 75 = .ok (.iconst 4, 1) := by decide +kernel
theorem dX5_turnsOneWay_76 : decode cX5_turnsOneWay 76 = .ok (.if_icmp .ne 7, 3) := by decide +kernel
theorem dX5_turnsOneWay_79 : decode cX5_turnsOneWay 79 = .ok (.iconst 1, 1) := by decide +kernel
theorem dX5_turnsOneWay_80 : decode cX5_turnsOneWay 80 = .ok (.goto 4, 3) := by decide +kernel
theorem dX5_turnsOneWay_83 : decode cX5_turnsOneWay 83 = .ok (.iconst 0, 1) := by decide +kernel
theorem dX5_turnsOneWay_84 : decode cX5_turnsOneWay 84 = .ok (.ireturn, 1) := by decide +kernel
def mX5_turnsOneWay : MM := (yX5_turnsOneWay, cX5_turnsOneWay, 6, Option.some Jvm.ClassFile.FieldType.boolean, { frames := 1, cells := 0, slots := 0, locals := 23 })
def X5_turnsOneWay_L6 (σ_ : SS)  (k69 : Int32 → Int32 → Option Bool) : Nat → Int32 → Int32 → Int32 → Option Bool :=
  lp (fun _ _ _ => none) fun rec v1_ v2_ v3_ =>
    if (4 : Int32) ≤ v3_ then (
      k69 v1_ v2_
      ) else (
      grd (inb v3_ 4) <|
      grd (inb (irm (v3_ + (1 : Int32)) (4 : Int32)) 4) <|
      grd (inb (irm (v3_ + (2 : Int32)) (4 : Int32)) 4) <|
      bnd1 (fX5_sideOf σ_ (roV 1003 (Int32.toNatClampNeg v3_)) (roV 1003 (Int32.toNatClampNeg (irm (v3_ + (1 : Int32)) (4 : Int32)))) (roV 1003 (Int32.toNatClampNeg (irm (v3_ + (2 : Int32)) (4 : Int32))))) fun w6 =>
      if (lg_cmp w6 (0 : Int64)) ≤ 0 then (
        if 0 ≤ (lg_cmp w6 (0 : Int64)) then (
          rec v1_ v2_ (v3_ + (1 : Int32))
          ) else (
          rec v1_ (v2_ + (1 : Int32)) (v3_ + (1 : Int32))
          )
        ) else (
        rec (v1_ + (1 : Int32)) v2_ (v3_ + (1 : Int32))
        )
      )

def fX5_turnsOneWay (σ0 : SS)  : Option Bool :=
  X5_turnsOneWay_L6 σ0
  (fun v7 v8 =>
    vthen (fun (_u : Unit) =>
      some true
      ) fun j79 =>
    if v7 = (4 : Int32) then (
      j79 ()
      ) else (
      if v8 = (4 : Int32) then (
        j79 ()
        ) else (
        some false
        )
      )
    )
  fuel (0 : Int32) (0 : Int32) (0 : Int32)

set_option maxRecDepth 20000 in
theorem sX5_turnsOneWay_L6 {g : GG} {r : Bool} {σ_ : SS} {σ0 : SS}  {k69 : Int32 → Int32 → Option Bool} 
    (hw_ : WT σ_)
    (h0_ : σ_ = σ0)
    (hk69 : ∀ (y1 : Int32) (y2 : Int32), k69 y1 y2 = some r → RR g mX5_turnsOneWay (FinR g mX5_turnsOneWay (some (.int (b2i r))) NF σ0) zF 69 [(1, .int y1), (2, .int y2)] [] σ_)
    (n : Nat) : ∀ (v1_ : Int32) (v2_ : Int32) (v3_ : Int32), X5_turnsOneWay_L6 σ_ k69 n v1_ v2_ v3_ = some r → RR g mX5_turnsOneWay (FinR g mX5_turnsOneWay (some (.int (b2i r))) NF σ0) zF 6 [(0, .ref (ad g 45)), (1, .int v1_), (2, .int v2_), (3, .int v3_)] [] σ_ := by
  unfold X5_turnsOneWay_L6
  refine lp_ind (P := fun (rec : Int32 → Int32 → Int32 → Option Bool) => ∀ (v1_ : Int32) (v2_ : Int32) (v3_ : Int32), rec v1_ v2_ v3_ = some r → RR g mX5_turnsOneWay (FinR g mX5_turnsOneWay (some (.int (b2i r))) NF σ0) zF 6 [(0, .ref (ad g 45)), (1, .int v1_), (2, .int v2_), (3, .int v3_)] [] σ_) ?_ ?_ n
  · intro v1_ v2_ v3_ hr; cases hr
  intro rec ih v1_ v2_ v3_ hr
  subst h0_
  refine r_iload_n (pc := 6) (j := 3) dX5_turnsOneWay_6 rfl rfl ?_
  refine r_iconst (pc := 7) (v := (4 : Int32)) dX5_turnsOneWay_7 rfl ?_
  refine r_icmp_ge (pc := 8) (tgt := 69) dX5_turnsOneWay_8 rfl (fun hc => ?_) (fun hc => ?_)
  · replace hr := ite_t hc hr
    exact r_pick (ls1 := [(1, .int v1_), (2, .int v2_)]) [1, 2] rfl (hk69 v1_ v2_ hr)
  replace hr := ite_f hc hr
  refine r_aload_n (pc := 11) (j := 0) dX5_turnsOneWay_11 rfl rfl ?_
  refine r_gets (pc := 12) z_1003 tw_4_57 dX5_turnsOneWay_12 ?_
  refine r_iload_n (pc := 15) (j := 3) dX5_turnsOneWay_15 rfl rfl ?_
  obtain ⟨h1, hr⟩ := grd_inv hr
  refine x_ti (pc := 16) (j := (Int32.toNatClampNeg v3_)) t_1003 h1 rfl dX5_turnsOneWay_16 ?_
  refine r_gets (pc := 17) z_1003 tw_4_57 dX5_turnsOneWay_17 ?_
  refine r_iload_n (pc := 20) (j := 3) dX5_turnsOneWay_20 rfl rfl ?_
  refine r_iconst (pc := 21) (v := (1 : Int32)) dX5_turnsOneWay_21 rfl ?_
  refine r_iadd (pc := 22) dX5_turnsOneWay_22 ?_
  refine r_iconst (pc := 23) (v := (4 : Int32)) dX5_turnsOneWay_23 rfl ?_
  refine r_irem (pc := 24) dX5_turnsOneWay_24 (by decide) ?_
  obtain ⟨h2, hr⟩ := grd_inv hr
  refine x_ti (pc := 25) (j := (Int32.toNatClampNeg (irm (v3_ + (1 : Int32)) (4 : Int32)))) t_1003 h2 rfl dX5_turnsOneWay_25 ?_
  refine r_gets (pc := 26) z_1003 tw_4_57 dX5_turnsOneWay_26 ?_
  refine r_iload_n (pc := 29) (j := 3) dX5_turnsOneWay_29 rfl rfl ?_
  refine r_iconst (pc := 30) (v := (2 : Int32)) dX5_turnsOneWay_30 rfl ?_
  refine r_iadd (pc := 31) dX5_turnsOneWay_31 ?_
  refine r_iconst (pc := 32) (v := (4 : Int32)) dX5_turnsOneWay_32 rfl ?_
  refine r_irem (pc := 33) dX5_turnsOneWay_33 (by decide) ?_
  obtain ⟨h3, hr⟩ := grd_inv hr
  refine x_ti (pc := 34) (j := (Int32.toNatClampNeg (irm (v3_ + (2 : Int32)) (4 : Int32)))) t_1003 h3 rfl dX5_turnsOneWay_34 ?_
  obtain ⟨w6, hw6, hr⟩ := bnd1_inv hr
  refine kX5_sideOf (pc := 35) hw6 tw_4_59 ⟨nle rfl, nle rfl⟩ (nle rfl) dX5_turnsOneWay_35 ?_
  refine r_lstore (pc := 38) (ls1 := [(4, .long w6), (0, .ref (ad g 45)), (1, .int v1_), (2, .int v2_), (3, .int v3_)]) dX5_turnsOneWay_38 (nle rfl) rfl ?_
  refine r_lload (pc := 40) (j := 0) dX5_turnsOneWay_40 rfl ?_
  refine r_lconst (pc := 42) (v := (0 : Int64)) dX5_turnsOneWay_42 rfl ?_
  refine r_lcmp (pc := 43) dX5_turnsOneWay_43 ?_
  refine r_if_le (pc := 44) (tgt := 53) dX5_turnsOneWay_44 rfl (fun hc => ?_) (fun hc => ?_)
  · replace hr := ite_t hc hr
    refine r_lload (pc := 53) (j := 0) dX5_turnsOneWay_53 rfl ?_
    refine r_lconst (pc := 55) (v := (0 : Int64)) dX5_turnsOneWay_55 rfl ?_
    refine r_lcmp (pc := 56) dX5_turnsOneWay_56 ?_
    refine r_if_ge (pc := 57) (tgt := 63) dX5_turnsOneWay_57 rfl (fun hc => ?_) (fun hc => ?_)
    · replace hr := ite_t hc hr
      refine r_iinc (pc := 63) (j := 4) (v := (v3_ + (1 : Int32))) (ls1 := [(3, .int (v3_ + (1 : Int32))), (4, .long w6), (0, .ref (ad g 45)), (1, .int v1_), (2, .int v2_)]) dX5_turnsOneWay_63 rfl rfl (nle rfl) rfl ?_
      refine r_goto (pc := 66) (tgt := 6) dX5_turnsOneWay_66 rfl ?_
      exact r_pick (ls1 := [(0, .ref (ad g 45)), (1, .int v1_), (2, .int v2_), (3, .int (v3_ + (1 : Int32)))]) [2, 3, 4, 0] rfl (ih v1_ v2_ (v3_ + (1 : Int32)) hr)
    replace hr := ite_f hc hr
    refine r_iinc (pc := 60) (j := 3) (v := (v2_ + (1 : Int32))) (ls1 := [(2, .int (v2_ + (1 : Int32))), (4, .long w6), (0, .ref (ad g 45)), (1, .int v1_), (3, .int v3_)]) dX5_turnsOneWay_60 rfl rfl (nle rfl) rfl ?_
    refine r_iinc (pc := 63) (j := 4) (v := (v3_ + (1 : Int32))) (ls1 := [(3, .int (v3_ + (1 : Int32))), (2, .int (v2_ + (1 : Int32))), (4, .long w6), (0, .ref (ad g 45)), (1, .int v1_)]) dX5_turnsOneWay_63 rfl rfl (nle rfl) rfl ?_
    refine r_goto (pc := 66) (tgt := 6) dX5_turnsOneWay_66 rfl ?_
    exact r_pick (ls1 := [(0, .ref (ad g 45)), (1, .int v1_), (2, .int (v2_ + (1 : Int32))), (3, .int (v3_ + (1 : Int32)))]) [3, 4, 1, 0] rfl (ih v1_ (v2_ + (1 : Int32)) (v3_ + (1 : Int32)) hr)
  replace hr := ite_f hc hr
  refine r_iinc (pc := 47) (j := 2) (v := (v1_ + (1 : Int32))) (ls1 := [(1, .int (v1_ + (1 : Int32))), (4, .long w6), (0, .ref (ad g 45)), (2, .int v2_), (3, .int v3_)]) dX5_turnsOneWay_47 rfl rfl (nle rfl) rfl ?_
  refine r_goto (pc := 50) (tgt := 63) dX5_turnsOneWay_50 rfl ?_
  refine r_iinc (pc := 63) (j := 4) (v := (v3_ + (1 : Int32))) (ls1 := [(3, .int (v3_ + (1 : Int32))), (1, .int (v1_ + (1 : Int32))), (4, .long w6), (0, .ref (ad g 45)), (2, .int v2_)]) dX5_turnsOneWay_63 rfl rfl (nle rfl) rfl ?_
  refine r_goto (pc := 66) (tgt := 6) dX5_turnsOneWay_66 rfl ?_
  exact r_pick (ls1 := [(0, .ref (ad g 45)), (1, .int (v1_ + (1 : Int32))), (2, .int v2_), (3, .int (v3_ + (1 : Int32)))]) [3, 1, 4, 0] rfl (ih (v1_ + (1 : Int32)) v2_ (v3_ + (1 : Int32)) hr)

set_option maxRecDepth 20000 in
theorem sX5_turnsOneWay {g : GG} {σ0 : SS}  {r : Bool} (hr : fX5_turnsOneWay σ0 = some r)  : Ct g mX5_turnsOneWay [.ref (ad g 45)] NF σ0 (some (.int (b2i r))) NF σ0 := by
  refine Ct.of (by decide +kernel) (nle rfl) fun hw0 => ?_
  have hw := hw0 rfl
  unfold fX5_turnsOneWay at hr
  change RR g mX5_turnsOneWay (FinR g mX5_turnsOneWay (some (.int (b2i r))) NF σ0) zF 0 [(0, .ref (ad g 45))] [] σ0
  refine r_iconst (pc := 0) (v := (0 : Int32)) dX5_turnsOneWay_0 rfl ?_
  refine r_istore_n (pc := 1) (ls1 := [(1, .int (0 : Int32)), (0, .ref (ad g 45))]) dX5_turnsOneWay_1 rfl (nle rfl) rfl ?_
  refine r_iconst (pc := 2) (v := (0 : Int32)) dX5_turnsOneWay_2 rfl ?_
  refine r_istore_n (pc := 3) (ls1 := [(2, .int (0 : Int32)), (1, .int (0 : Int32)), (0, .ref (ad g 45))]) dX5_turnsOneWay_3 rfl (nle rfl) rfl ?_
  refine r_iconst (pc := 4) (v := (0 : Int32)) dX5_turnsOneWay_4 rfl ?_
  refine r_istore_n (pc := 5) (ls1 := [(3, .int (0 : Int32)), (2, .int (0 : Int32)), (1, .int (0 : Int32)), (0, .ref (ad g 45))]) dX5_turnsOneWay_5 rfl (nle rfl) rfl ?_
  refine r_pick (ls1 := [(0, .ref (ad g 45)), (1, .int (0 : Int32)), (2, .int (0 : Int32)), (3, .int (0 : Int32))]) [3, 2, 1, 0] rfl ?_
  refine sX5_turnsOneWay_L6  hw rfl (fun v7 v8 hr => ?_) fuel (0 : Int32) (0 : Int32) (0 : Int32) hr
  refine r_iload_n (pc := 69) (j := 0) dX5_turnsOneWay_69 rfl rfl ?_
  refine r_iconst (pc := 70) (v := (4 : Int32)) dX5_turnsOneWay_70 rfl ?_
  obtain ⟨j79, ej79, hr⟩ := vth_ex hr
  have hj79 : j79 () = some r → RR g mX5_turnsOneWay (FinR g mX5_turnsOneWay (some (.int (b2i r))) NF σ0) zF 79 [] [] σ0 := by
    intro  hr
    replace hr := (congrFun ej79 ()).symm.trans hr
    refine r_iconst (pc := 79) (v := (1 : Int32)) dX5_turnsOneWay_79 rfl ?_
    refine r_goto (pc := 80) (tgt := 84) dX5_turnsOneWay_80 rfl ?_
    exact l_opz hr (r_zret (pc := 84) (v := b2i true) (ty := .boolean) rfl (b2i_nar _) rfl ⟨Nat.le_refl _, Nat.le_refl _⟩ dX5_turnsOneWay_84)
  refine r_icmp_eq (pc := 71) (tgt := 79) dX5_turnsOneWay_71 rfl (fun hc => ?_) (fun hc => ?_)
  · replace hr := ite_t hc hr
    exact r_pick (ls1 := []) [] rfl (hj79  hr)
  replace hr := ite_f hc hr
  refine r_iload_n (pc := 74) (j := 1) dX5_turnsOneWay_74 rfl rfl ?_
  refine r_iconst (pc := 75) (v := (4 : Int32)) dX5_turnsOneWay_75 rfl ?_
  refine r_icmp_ne (pc := 76) (tgt := 83) dX5_turnsOneWay_76 rfl (fun hc => ?_) (fun hc => ?_)
  · replace hr := ite_f hc hr
    refine r_iconst (pc := 83) (v := (0 : Int32)) dX5_turnsOneWay_83 rfl ?_
    exact l_opz hr (r_zret (pc := 84) (v := b2i false) (ty := .boolean) rfl (b2i_nar _) rfl ⟨Nat.le_refl _, Nat.le_refl _⟩ dX5_turnsOneWay_84)
  replace hr := ite_t hc hr
  exact r_pick (ls1 := []) [] rfl (hj79  hr)

theorem kX5_turnsOneWay {g : GG} {σ0 : SS}  {v : Bool} {M : MM} {F : State → Array Value → List Frame → State → Prop} {pc index : Nat} {ls : List (Nat × Value)} {rest : List Value} (hf : fX5_turnsOneWay σ0 = some v)  (hl : Cond.methodLink M.1.cls index yX5_turnsOneWay ∈ lw_gt) (hR : mX5_turnsOneWay.2.2.2.2.frames + 1 ≤ M.2.2.2.2.frames ∧ 8 + (mX5_turnsOneWay.2.2.1 + 11) + mX5_turnsOneWay.2.2.2.2.locals ≤ M.2.2.2.2.locals) (hrest : (rest.map fun v => v.category).sum ≤ 8) (hd : decode M.2.1 pc = .ok (.invokevirtual index, 3)) (k : RR g M F zF (pc + 3) ls (.int (b2i v) :: rest) σ0) : RR g M F zF pc ls (.ref (ad g 45) :: rest) σ0 :=
  r_callV (z := zF) (N := mX5_turnsOneWay) (nn := 0) (o1 := some (.int (b2i v))) (sX5_turnsOneWay hf ) (rfl : shp 45 = (5, 0)) (by decide) (shp_le (rfl : shp 45 = (5, 0)) (nle rfl)) (ci := 5) rfl rfl tw_4_56 tw_1_7 hl tw_4_54 tw_4_55 ⟨by decide, by decide, rfl⟩ hR rfl hrest hd ⟨Nat.zero_le _, Nat.zero_le _⟩ rfl (fun h => k)

theorem dX5_area_0 : decode cX5_area 0 = .ok (.lconst 0, 1) := by decide +kernel
theorem dX5_area_1 : decode cX5_area 1 = .ok (.lstore_n 1, 1) := by decide +kernel
theorem dX5_area_2 : decode cX5_area 2 = .ok (.iconst 0, 1) := by decide +kernel
theorem dX5_area_3 : decode cX5_area 3 = .ok (.istore_n 3, 1) := by decide +kernel
theorem dX5_area_4 : decode cX5_area 4 = .ok (.iload_n 3, 1) := by decide +kernel
theorem dX5_area_5 : decode cX5_area 5 = .ok (.iconst 4, 1) := by decide +kernel
theorem dX5_area_6 : decode cX5_area 6 = .ok (.if_icmp .ge 99, 3) := by decide +kernel
theorem dX5_area_9 : decode cX5_area 9 = .ok (.getstatic 53, 3) := by decide +kernel
theorem dX5_area_12 : decode cX5_area 12 = .ok (.iload_n 3, 1) := by decide +kernel
theorem dX5_area_13 : decode cX5_area 13 = .ok (.iaload, 1) := by decide +kernel
theorem dX5_area_14 : decode cX5_area 14 = .ok (.istore 4, 2) := by decide +kernel
theorem dX5_area_16 : decode cX5_area 16 = .ok (.getstatic 53, 3) := by decide +kernel
theorem dX5_area_19 : decode cX5_area 19 = .ok (.iload_n 3, 1) := by decide +kernel
theorem dX5_area_20 : decode cX5_area 20 = .ok (.iconst 1, 1) := by decide +kernel
theorem dX5_area_21 : decode cX5_area 21 = .ok (.iadd, 1) := by decide +kernel
theorem dX5_area_22 : decode cX5_area 22 = .ok (.iconst 4, 1) := by decide +kernel
theorem dX5_area_23 : decode cX5_area 23 = .ok (.irem, 1) := by decide +kernel
theorem dX5_area_24 : decode cX5_area 24 = .ok (.iaload, 1) := by decide +kernel
theorem dX5_area_25 : decode cX5_area 25 = .ok (.istore 5, 2) := by decide +kernel
theorem dX5_area_27 : decode cX5_area 27 = .ok (.getstatic 53, 3) := by decide +kernel
theorem dX5_area_30 : decode cX5_area 30 = .ok (.iload_n 3, 1) := by decide +kernel
theorem dX5_area_31 : decode cX5_area 31 = .ok (.iconst 2, 1) := by decide +kernel
theorem dX5_area_32 : decode cX5_area 32 = .ok (.iadd, 1) := by decide +kernel
theorem dX5_area_33 : decode cX5_area 33 = .ok (.iconst 4, 1) := by decide +kernel
theorem dX5_area_34 : decode cX5_area 34 = .ok (.irem, 1) := by decide +kernel
theorem dX5_area_35 : decode cX5_area 35 = .ok (.iaload, 1) := by decide +kernel
theorem dX5_area_36 : decode cX5_area 36 = .ok (.istore 6, 2) := by decide +kernel
theorem dX5_area_38 : decode cX5_area 38 = .ok (.getstatic 53, 3) := by decide +kernel
theorem dX5_area_41 : decode cX5_area 41 = .ok (.iload_n 3, 1) := by decide +kernel
theorem dX5_area_42 : decode cX5_area 42 = .ok (.iconst 3, 1) := by decide +kernel
theorem dX5_area_43 : decode cX5_area 43 = .ok (.iadd, 1) := by decide +kernel
theorem dX5_area_44 : decode cX5_area 44 = .ok (.iconst 4, 1) := by decide +kernel
theorem dX5_area_45 : decode cX5_area 45 = .ok (.irem, 1) := by decide +kernel
theorem dX5_area_46 : decode cX5_area 46 = .ok (.iaload, 1) := by decide +kernel
theorem dX5_area_47 : decode cX5_area 47 = .ok (.istore 7, 2) := by decide +kernel
theorem dX5_area_49 : decode cX5_area 49 = .ok (.lload_n 1, 1) := by decide +kernel
theorem dX5_area_50 : decode cX5_area 50 = .ok (.aload_n 0, 1) := by decide +kernel
theorem dX5_area_51 : decode cX5_area 51 = .ok (.getfield 9, 3) := by decide +kernel
theorem dX5_area_54 : decode cX5_area 54 = .ok (.iload 4, 2) := by decide +kernel
theorem dX5_area_56 : decode cX5_area 56 = .ok (.laload, 1) := by decide +kernel
theorem dX5_area_57 : decode cX5_area 57 = .ok (.aload_n 0, 1) := by decide +kernel
theorem dX5_area_58 : decode cX5_area 58 = .ok (.getfield 15, 3) := by decide +kernel
theorem dX5_area_61 : decode cX5_area 61 = .ok (.iload 5, 2) := by decide +kernel
theorem dX5_area_63 : decode cX5_area 63 = .ok (.laload, 1) := by decide +kernel
theorem dX5_area_64 : decode cX5_area 64 = .ok (.lmul, 1) := by decide +kernel
theorem dX5_area_65 : decode cX5_area 65 = .ok (.aload_n 0, 1) := by decide +kernel
theorem dX5_area_66 : decode cX5_area 66 = .ok (.getfield 9, 3) := by decide +kernel
theorem dX5_area_69 : decode cX5_area 69 = .ok (.iload 5, 2) := by decide +kernel
theorem dX5_area_71 : decode cX5_area 71 = .ok (.laload, 1) := by decide +kernel
theorem dX5_area_72 : decode cX5_area 72 = .ok (.aload_n 0, 1) := by decide +kernel
theorem dX5_area_73 : decode cX5_area 73 = .ok (.getfield 15, 3) := by decide +kernel
theorem dX5_area_76 : decode cX5_area 76 = .ok (.iload 4, 2) := by decide +kernel
theorem dX5_area_78 : decode cX5_area 78 = .ok (.laload, 1) := by decide +kernel
theorem dX5_area_79 : decode cX5_area 79 = .ok (.lmul, 1) := by decide +kernel
theorem dX5_area_80 : decode cX5_area 80 = .ok (.lsub, 1) := by decide +kernel
theorem dX5_area_81 : decode cX5_area 81 = .ok (.aload_n 0, 1) := by decide +kernel
theorem dX5_area_82 : decode cX5_area 82 = .ok (.getfield 18, 3) := by decide +kernel
theorem dX5_area_85 : decode cX5_area 85 = .ok (.iload 6, 2) := by decide +kernel
theorem dX5_area_87 : decode cX5_area 87 = .ok (.laload, 1) := by decide +kernel
theorem dX5_area_88 : decode cX5_area 88 = .ok (.lmul, 1) := by decide +kernel
theorem dX5_area_89 : decode cX5_area 89 = .ok (.aload_n 0, 1) := by decide +kernel
theorem dX5_area_90 : decode cX5_area 90 = .ok (.getfield 18, 3) := by decide +kernel
theorem dX5_area_93 : decode cX5_area 93 = .ok (.iload 7, 2) := by decide +kernel
theorem dX5_area_95 : decode cX5_area 95 = .ok (.laload, 1) := by decide +kernel
theorem dX5_area_96 : decode cX5_area 96 = .ok (.lmul, 1) := by decide +kernel
theorem dX5_area_97 : decode cX5_area 97 = .ok (.ladd, 1) := by decide +kernel
theorem dX5_area_98 : decode cX5_area 98 = .ok (.lstore_n 1, 1) := by decide +kernel
theorem dX5_area_99 : decode cX5_area 99 = .ok (.iinc 3 1, 3) := by decide +kernel
theorem dX5_area_102 : decode cX5_area 102 = .ok (.goto (-98), 3) := by decide +kernel
theorem dX5_area_105 : decode cX5_area 105 = .ok (.ldc2_w 38, 3) := by decide +kernel
theorem dX5_area_108 : decode cX5_area 108 = .ok (.aload_n 0, 1) := by decide +kernel
theorem dX5_area_109 : decode cX5_area 109 = .ok (.getfield 18, 3) := by decide +kernel
theorem dX5_area_112 : decode cX5_area 112 = .ok (.iconst 0, 1) := by decide +kernel
theorem dX5_area_113 : decode cX5_area 113 = .ok (.laload, 1) := by decide +kernel
theorem dX5_area_114 : decode cX5_area 114 = .ok (.lmul, 1) := by decide +kernel
theorem dX5_area_115 : decode cX5_area 115 = .ok (.aload_n 0, 1) := by decide +kernel
theorem dX5_area_116 : decode cX5_area 116 = .ok (.getfield 18, 3) := by decide +kernel
theorem dX5_area_119 : decode cX5_area 119 = .ok (.iconst 1, 1) := by decide +kernel
theorem dX5_area_120 : decode cX5_area 120 = .ok (.laload, 1) := by decide +kernel
theorem dX5_area_121 : decode cX5_area 121 = .ok (.lmul, 1) := by decide +kernel
theorem dX5_area_122 : decode cX5_area 122 = .ok (.aload_n 0, 1) := by decide +kernel
theorem dX5_area_123 : decode cX5_area 123 = .ok (.getfield 18, 3) := by decide +kernel
theorem dX5_area_126 : decode cX5_area 126 = .ok (.iconst 2, 1) := by decide +kernel
theorem dX5_area_127 : decode cX5_area 127 = .ok (.laload, 1) := by decide +kernel
theorem dX5_area_128 : decode cX5_area 128 = .ok (.lmul, 1) := by decide +kernel
theorem dX5_area_129 : decode cX5_area 129 = .ok (.aload_n 0, 1) := by decide +kernel
theorem dX5_area_130 : decode cX5_area 130 = .ok (.getfield 18, 3) := by decide +kernel
theorem dX5_area_133 : decode cX5_area 133 = .ok (.iconst 3, 1) := by decide +kernel
theorem dX5_area_134 : decode cX5_area 134 = .ok (.laload, 1) := by decide +kernel
theorem dX5_area_135 : decode cX5_area 135 = .ok (.lmul, 1) := by decide +kernel
theorem dX5_area_136 : decode cX5_area 136 = .ok (.lstore_n 3, 1) := by decide +kernel
theorem dX5_area_137 : decode cX5_area 137 = .ok (.lload_n 3, 1) := by decide +kernel
theorem dX5_area_138 : decode cX5_area 138 = .ok (.lconst 0, 1) := by decide +kernel
theorem dX5_area_139 : decode cX5_area 139 = .ok (.lcmp, 1) := by decide +kernel
theorem dX5_area_140 : decode cX5_area 140 = .ok (.ifCond .le 13, 3) := by decide +kernel
theorem dX5_area_143 : decode cX5_area 143 = .ok (.lload_n 1, 1) := by decide +kernel
theorem dX5_area_144 : decode cX5_area 144 = .ok (.invokestatic 61, 3) := by decide +kernel
theorem dX5_area_147 : decode cX5_area 147 = .ok (.lload_n 3, 1) := by decide +kernel
theorem dX5_area_148 : decode cX5_area 148 = .ok (.ldiv, 1) := by decide +kernel
theorem dX5_area_149 : decode cX5_area 149 = .ok (.l2i, 1) := by decide +kernel
theorem dX5_area_150 : decode cX5_area 150 = .ok (.goto 4, 3) := by decide +kernel
theorem dX5_area_153 : decode cX5_area 153 = .ok (.iconst 0, 1) := by decide +kernel
theorem dX5_area_154 : decode cX5_area 154 = .ok (.ireturn, 1) := by decide +kernel
def mX5_area : MM := (yX5_area, cX5_area, 8, Option.some Jvm.ClassFile.FieldType.int, { frames := 1, cells := 0, slots := 0, locals := 21 })
def X5_area_L4 (σ_ : SS)  (k105 : Int64 → Option Int32) : Nat → Int64 → Int32 → Option Int32 :=
  lp (fun _ _ => none) fun rec w1_ v3_ =>
    if (4 : Int32) ≤ v3_ then (
      k105 w1_
      ) else (
      grd (inb v3_ 4) <|
      vthen (roV 1003 (Int32.toNatClampNeg v3_)) fun v2 =>
      grd (inb (irm (v3_ + (1 : Int32)) (4 : Int32)) 4) <|
      vthen (roV 1003 (Int32.toNatClampNeg (irm (v3_ + (1 : Int32)) (4 : Int32)))) fun v4 =>
      grd (inb (irm (v3_ + (2 : Int32)) (4 : Int32)) 4) <|
      vthen (roV 1003 (Int32.toNatClampNeg (irm (v3_ + (2 : Int32)) (4 : Int32)))) fun v6 =>
      grd (inb (irm (v3_ + (3 : Int32)) (4 : Int32)) 4) <|
      vthen (roV 1003 (Int32.toNatClampNeg (irm (v3_ + (3 : Int32)) (4 : Int32)))) fun v8 =>
      grd (inb v2 4) <|
      grd (inb v4 4) <|
      grd (inb v6 4) <|
      grd (inb v8 4) <|
      vthen (w1_ + (((((gL σ_ 46 (Int32.toNatClampNeg v2)) * (gL σ_ 47 (Int32.toNatClampNeg v4))) - ((gL σ_ 46 (Int32.toNatClampNeg v4)) * (gL σ_ 47 (Int32.toNatClampNeg v2)))) * (gL σ_ 48 (Int32.toNatClampNeg v6))) * (gL σ_ 48 (Int32.toNatClampNeg v8)))) fun w13 =>
      rec w13 (v3_ + (1 : Int32))
      )

def fX5_area (σ0 : SS)  : Option Int32 :=
  X5_area_L4 σ0
  (fun w14 =>
    vthen (((((2 : Int64) * (gL σ0 48 0)) * (gL σ0 48 1)) * (gL σ0 48 2)) * (gL σ0 48 3)) fun w15 =>
    if (lg_cmp w15 (0 : Int64)) ≤ 0 then (
      some (0 : Int32)
      ) else (
      grd (nzl w15) <|
      some (Int64.toInt32 ((fJ9_abs_067f4 σ0 w14) / w15))
      )
    )
  fuel (0 : Int64) (0 : Int32)

set_option maxRecDepth 20000 in
theorem sX5_area_L4 {g : GG} {r : Int32} {σ_ : SS} {σ0 : SS}  {k105 : Int64 → Option Int32} 
    (hw_ : WT σ_)
    (h0_ : σ_ = σ0)
    (hk105 : ∀ (y1 : Int64), k105 y1 = some r → RR g mX5_area (FinR g mX5_area (some (.int r)) NF σ0) zF 105 [(0, .ref (ad g 45)), (1, .long y1)] [] σ_)
    (n : Nat) : ∀ (w1_ : Int64) (v3_ : Int32), X5_area_L4 σ_ k105 n w1_ v3_ = some r → RR g mX5_area (FinR g mX5_area (some (.int r)) NF σ0) zF 4 [(0, .ref (ad g 45)), (1, .long w1_), (3, .int v3_)] [] σ_ := by
  unfold X5_area_L4
  refine lp_ind (P := fun (rec : Int64 → Int32 → Option Int32) => ∀ (w1_ : Int64) (v3_ : Int32), rec w1_ v3_ = some r → RR g mX5_area (FinR g mX5_area (some (.int r)) NF σ0) zF 4 [(0, .ref (ad g 45)), (1, .long w1_), (3, .int v3_)] [] σ_) ?_ ?_ n
  · intro w1_ v3_ hr; cases hr
  intro rec ih w1_ v3_ hr
  subst h0_
  refine r_iload_n (pc := 4) (j := 2) dX5_area_4 rfl rfl ?_
  refine r_iconst (pc := 5) (v := (4 : Int32)) dX5_area_5 rfl ?_
  refine r_icmp_ge (pc := 6) (tgt := 105) dX5_area_6 rfl (fun hc => ?_) (fun hc => ?_)
  · replace hr := ite_t hc hr
    exact r_pick (ls1 := [(0, .ref (ad g 45)), (1, .long w1_)]) [0, 1] rfl (hk105 w1_ hr)
  replace hr := ite_f hc hr
  refine r_gets (pc := 9) z_1003 tw_4_57 dX5_area_9 ?_
  refine r_iload_n (pc := 12) (j := 2) dX5_area_12 rfl rfl ?_
  obtain ⟨h1, hr⟩ := grd_inv hr
  refine x_ti (pc := 13) (j := (Int32.toNatClampNeg v3_)) t_1003 h1 rfl dX5_area_13 ?_
  refine r_topi fun v2 ev2 => ?_
  replace hr := vthen_inv hr v2 ev2
  refine r_istore (pc := 14) (ls1 := [(4, .int v2), (0, .ref (ad g 45)), (1, .long w1_), (3, .int v3_)]) dX5_area_14 (nle rfl) rfl ?_
  refine r_gets (pc := 16) z_1003 tw_4_57 dX5_area_16 ?_
  refine r_iload_n (pc := 19) (j := 3) dX5_area_19 rfl rfl ?_
  refine r_iconst (pc := 20) (v := (1 : Int32)) dX5_area_20 rfl ?_
  refine r_iadd (pc := 21) dX5_area_21 ?_
  refine r_iconst (pc := 22) (v := (4 : Int32)) dX5_area_22 rfl ?_
  refine r_irem (pc := 23) dX5_area_23 (by decide) ?_
  obtain ⟨h3, hr⟩ := grd_inv hr
  refine x_ti (pc := 24) (j := (Int32.toNatClampNeg (irm (v3_ + (1 : Int32)) (4 : Int32)))) t_1003 h3 rfl dX5_area_24 ?_
  refine r_topi fun v4 ev4 => ?_
  replace hr := vthen_inv hr v4 ev4
  refine r_istore (pc := 25) (ls1 := [(5, .int v4), (4, .int v2), (0, .ref (ad g 45)), (1, .long w1_), (3, .int v3_)]) dX5_area_25 (nle rfl) rfl ?_
  refine r_gets (pc := 27) z_1003 tw_4_57 dX5_area_27 ?_
  refine r_iload_n (pc := 30) (j := 4) dX5_area_30 rfl rfl ?_
  refine r_iconst (pc := 31) (v := (2 : Int32)) dX5_area_31 rfl ?_
  refine r_iadd (pc := 32) dX5_area_32 ?_
  refine r_iconst (pc := 33) (v := (4 : Int32)) dX5_area_33 rfl ?_
  refine r_irem (pc := 34) dX5_area_34 (by decide) ?_
  obtain ⟨h5, hr⟩ := grd_inv hr
  refine x_ti (pc := 35) (j := (Int32.toNatClampNeg (irm (v3_ + (2 : Int32)) (4 : Int32)))) t_1003 h5 rfl dX5_area_35 ?_
  refine r_topi fun v6 ev6 => ?_
  replace hr := vthen_inv hr v6 ev6
  refine r_istore (pc := 36) (ls1 := [(6, .int v6), (5, .int v4), (4, .int v2), (0, .ref (ad g 45)), (1, .long w1_), (3, .int v3_)]) dX5_area_36 (nle rfl) rfl ?_
  refine r_gets (pc := 38) z_1003 tw_4_57 dX5_area_38 ?_
  refine r_iload_n (pc := 41) (j := 5) dX5_area_41 rfl rfl ?_
  refine r_iconst (pc := 42) (v := (3 : Int32)) dX5_area_42 rfl ?_
  refine r_iadd (pc := 43) dX5_area_43 ?_
  refine r_iconst (pc := 44) (v := (4 : Int32)) dX5_area_44 rfl ?_
  refine r_irem (pc := 45) dX5_area_45 (by decide) ?_
  obtain ⟨h7, hr⟩ := grd_inv hr
  refine x_ti (pc := 46) (j := (Int32.toNatClampNeg (irm (v3_ + (3 : Int32)) (4 : Int32)))) t_1003 h7 rfl dX5_area_46 ?_
  refine r_topi fun v8 ev8 => ?_
  replace hr := vthen_inv hr v8 ev8
  refine r_istore (pc := 47) (ls1 := [(7, .int v8), (6, .int v6), (5, .int v4), (4, .int v2), (0, .ref (ad g 45)), (1, .long w1_), (3, .int v3_)]) dX5_area_47 (nle rfl) rfl ?_
  refine r_lload_n (pc := 49) (j := 5) dX5_area_49 rfl rfl ?_
  refine r_aload_n (pc := 50) (j := 4) dX5_area_50 rfl rfl ?_
  refine gf5_0 (pc := 51) tw_1_236 hw_ dX5_area_51 ?_
  refine r_iload (pc := 54) (j := 3) dX5_area_54 rfl ?_
  obtain ⟨h9, hr⟩ := grd_inv hr
  refine x_lald (pc := 56) (k := (Int32.toNatClampNeg v2)) rfl h9 rfl dX5_area_56 ?_
  refine r_aload_n (pc := 57) (j := 4) dX5_area_57 rfl rfl ?_
  refine gf5_1 (pc := 58) tw_1_237 hw_ dX5_area_58 ?_
  refine r_iload (pc := 61) (j := 2) dX5_area_61 rfl ?_
  obtain ⟨h10, hr⟩ := grd_inv hr
  refine x_lald (pc := 63) (k := (Int32.toNatClampNeg v4)) rfl h10 rfl dX5_area_63 ?_
  refine r_lmul (pc := 64) dX5_area_64 ?_
  refine r_aload_n (pc := 65) (j := 4) dX5_area_65 rfl rfl ?_
  refine gf5_0 (pc := 66) tw_1_236 hw_ dX5_area_66 ?_
  refine r_iload (pc := 69) (j := 2) dX5_area_69 rfl ?_
  refine x_lald (pc := 71) (k := (Int32.toNatClampNeg v4)) rfl h10 rfl dX5_area_71 ?_
  refine r_aload_n (pc := 72) (j := 4) dX5_area_72 rfl rfl ?_
  refine gf5_1 (pc := 73) tw_1_237 hw_ dX5_area_73 ?_
  refine r_iload (pc := 76) (j := 3) dX5_area_76 rfl ?_
  refine x_lald (pc := 78) (k := (Int32.toNatClampNeg v2)) rfl h9 rfl dX5_area_78 ?_
  refine r_lmul (pc := 79) dX5_area_79 ?_
  refine r_lsub (pc := 80) dX5_area_80 ?_
  refine r_aload_n (pc := 81) (j := 4) dX5_area_81 rfl rfl ?_
  refine gf5_2 (pc := 82) tw_1_238 hw_ dX5_area_82 ?_
  refine r_iload (pc := 85) (j := 1) dX5_area_85 rfl ?_
  obtain ⟨h11, hr⟩ := grd_inv hr
  refine x_lald (pc := 87) (k := (Int32.toNatClampNeg v6)) rfl h11 rfl dX5_area_87 ?_
  refine r_lmul (pc := 88) dX5_area_88 ?_
  refine r_aload_n (pc := 89) (j := 4) dX5_area_89 rfl rfl ?_
  refine gf5_2 (pc := 90) tw_1_238 hw_ dX5_area_90 ?_
  refine r_iload (pc := 93) (j := 0) dX5_area_93 rfl ?_
  obtain ⟨h12, hr⟩ := grd_inv hr
  refine x_lald (pc := 95) (k := (Int32.toNatClampNeg v8)) rfl h12 rfl dX5_area_95 ?_
  refine r_lmul (pc := 96) dX5_area_96 ?_
  refine r_ladd (pc := 97) dX5_area_97 ?_
  refine r_topl fun w13 ew13 => ?_
  replace hr := vthen_inv hr w13 ew13
  refine r_lstore_n (pc := 98) (ls1 := [(1, .long w13), (7, .int v8), (6, .int v6), (5, .int v4), (4, .int v2), (0, .ref (ad g 45)), (3, .int v3_)]) dX5_area_98 rfl (nle rfl) rfl ?_
  refine r_iinc (pc := 99) (j := 6) (v := (v3_ + (1 : Int32))) (ls1 := [(3, .int (v3_ + (1 : Int32))), (1, .long w13), (7, .int v8), (6, .int v6), (5, .int v4), (4, .int v2), (0, .ref (ad g 45))]) dX5_area_99 rfl rfl (nle rfl) rfl ?_
  refine r_goto (pc := 102) (tgt := 4) dX5_area_102 rfl ?_
  exact r_pick (ls1 := [(0, .ref (ad g 45)), (1, .long w13), (3, .int (v3_ + (1 : Int32)))]) [6, 1, 0] rfl (ih w13 (v3_ + (1 : Int32)) hr)

set_option maxRecDepth 20000 in
theorem sX5_area {g : GG} {σ0 : SS}  {r : Int32} (hr : fX5_area σ0 = some r)  : Ct g mX5_area [.ref (ad g 45)] NF σ0 (some (.int r)) NF σ0 := by
  refine Ct.of (by decide +kernel) (nle rfl) fun hw0 => ?_
  have hw := hw0 rfl
  unfold fX5_area at hr
  change RR g mX5_area (FinR g mX5_area (some (.int r)) NF σ0) zF 0 [(0, .ref (ad g 45))] [] σ0
  refine r_lconst (pc := 0) (v := (0 : Int64)) dX5_area_0 rfl ?_
  refine r_lstore_n (pc := 1) (ls1 := [(1, .long (0 : Int64)), (0, .ref (ad g 45))]) dX5_area_1 rfl (nle rfl) rfl ?_
  refine r_iconst (pc := 2) (v := (0 : Int32)) dX5_area_2 rfl ?_
  refine r_istore_n (pc := 3) (ls1 := [(3, .int (0 : Int32)), (1, .long (0 : Int64)), (0, .ref (ad g 45))]) dX5_area_3 rfl (nle rfl) rfl ?_
  refine r_pick (ls1 := [(0, .ref (ad g 45)), (1, .long (0 : Int64)), (3, .int (0 : Int32))]) [2, 1, 0] rfl ?_
  refine sX5_area_L4  hw rfl (fun w14 hr => ?_) fuel (0 : Int64) (0 : Int32) hr
  refine r_ldc2 (pc := 105) (v := (2 : Int64)) dX5_area_105 tw_4_67 ?_
  refine r_aload_n (pc := 108) (j := 0) dX5_area_108 rfl rfl ?_
  refine gf5_2 (pc := 109) tw_1_238 hw dX5_area_109 ?_
  refine r_iconst (pc := 112) (v := (0 : Int32)) dX5_area_112 rfl ?_
  refine x_lald (pc := 113) (k := 0) rfl (by decide) rfl dX5_area_113 ?_
  refine r_lmul (pc := 114) dX5_area_114 ?_
  refine r_aload_n (pc := 115) (j := 0) dX5_area_115 rfl rfl ?_
  refine gf5_2 (pc := 116) tw_1_238 hw dX5_area_116 ?_
  refine r_iconst (pc := 119) (v := (1 : Int32)) dX5_area_119 rfl ?_
  refine x_lald (pc := 120) (k := 1) rfl (by decide) rfl dX5_area_120 ?_
  refine r_lmul (pc := 121) dX5_area_121 ?_
  refine r_aload_n (pc := 122) (j := 0) dX5_area_122 rfl rfl ?_
  refine gf5_2 (pc := 123) tw_1_238 hw dX5_area_123 ?_
  refine r_iconst (pc := 126) (v := (2 : Int32)) dX5_area_126 rfl ?_
  refine x_lald (pc := 127) (k := 2) rfl (by decide) rfl dX5_area_127 ?_
  refine r_lmul (pc := 128) dX5_area_128 ?_
  refine r_aload_n (pc := 129) (j := 0) dX5_area_129 rfl rfl ?_
  refine gf5_2 (pc := 130) tw_1_238 hw dX5_area_130 ?_
  refine r_iconst (pc := 133) (v := (3 : Int32)) dX5_area_133 rfl ?_
  refine x_lald (pc := 134) (k := 3) rfl (by decide) rfl dX5_area_134 ?_
  refine r_lmul (pc := 135) dX5_area_135 ?_
  refine r_topl fun w15 ew15 => ?_
  replace hr := vthen_inv hr w15 ew15
  refine r_lstore_n (pc := 136) (ls1 := [(3, .long w15), (0, .ref (ad g 45)), (1, .long w14)]) dX5_area_136 rfl (nle rfl) rfl ?_
  refine r_lload_n (pc := 137) (j := 0) dX5_area_137 rfl rfl ?_
  refine r_lconst (pc := 138) (v := (0 : Int64)) dX5_area_138 rfl ?_
  refine r_lcmp (pc := 139) dX5_area_139 ?_
  refine r_if_le (pc := 140) (tgt := 153) dX5_area_140 rfl (fun hc => ?_) (fun hc => ?_)
  · replace hr := ite_t hc hr
    refine r_iconst (pc := 153) (v := (0 : Int32)) dX5_area_153 rfl ?_
    exact l_opi hr (r_iret (pc := 154) (v := (0 : Int32)) rfl rfl ⟨Nat.le_refl _, Nat.le_refl _⟩ dX5_area_154)
  replace hr := ite_f hc hr
  refine r_lload_n (pc := 143) (j := 2) dX5_area_143 rfl rfl ?_
  refine kJ9_abs_067f4 (pc := 144) (hf := rfl) tw_4_68 ⟨nle rfl, nle rfl⟩ (nle rfl) dX5_area_144 ?_
  refine r_lload_n (pc := 147) (j := 0) dX5_area_147 rfl rfl ?_
  obtain ⟨h16, hr⟩ := grd_inv hr
  refine r_ldiv (pc := 148) dX5_area_148 (nzl_ne h16) ?_
  refine r_l2i (pc := 149) dX5_area_149 ?_
  refine r_goto (pc := 150) (tgt := 154) dX5_area_150 rfl ?_
  exact l_opi hr (r_iret (pc := 154) (v := (Int64.toInt32 ((fJ9_abs_067f4 σ0 w14) / w15))) rfl rfl ⟨Nat.le_refl _, Nat.le_refl _⟩ dX5_area_154)

theorem kX5_area {g : GG} {σ0 : SS}  {v : Int32} {M : MM} {F : State → Array Value → List Frame → State → Prop} {pc index : Nat} {ls : List (Nat × Value)} {rest : List Value} (hf : fX5_area σ0 = some v)  (hl : Cond.methodLink M.1.cls index yX5_area ∈ lw_gt) (hR : mX5_area.2.2.2.2.frames + 1 ≤ M.2.2.2.2.frames ∧ 8 + (mX5_area.2.2.1 + 11) + mX5_area.2.2.2.2.locals ≤ M.2.2.2.2.locals) (hrest : (rest.map fun v => v.category).sum ≤ 8) (hd : decode M.2.1 pc = .ok (.invokevirtual index, 3)) (k : RR g M F zF (pc + 3) ls (.int v :: rest) σ0) : RR g M F zF pc ls (.ref (ad g 45) :: rest) σ0 :=
  r_callV (z := zF) (N := mX5_area) (nn := 0) (o1 := some (.int v)) (sX5_area hf ) (rfl : shp 45 = (5, 0)) (by decide) (shp_le (rfl : shp 45 = (5, 0)) (nle rfl)) (ci := 5) rfl rfl tw_4_66 tw_1_7 hl tw_4_64 tw_4_65 ⟨by decide, by decide, rfl⟩ hR rfl hrest hd ⟨Nat.zero_le _, Nat.zero_le _⟩ rfl (fun h => k)

theorem dX5_slope_0 : decode cX5_slope 0 = .ok (.aload_n 0, 1) := by decide +kernel
theorem dX5_slope_1 : decode cX5_slope 1 = .ok (.getfield 15, 3) := by decide +kernel
theorem dX5_slope_4 : decode cX5_slope 4 = .ok (.iconst 0, 1) := by decide +kernel
theorem dX5_slope_5 : decode cX5_slope 5 = .ok (.laload, 1) := by decide +kernel
theorem dX5_slope_6 : decode cX5_slope 6 = .ok (.aload_n 0, 1) := by decide +kernel
theorem dX5_slope_7 : decode cX5_slope 7 = .ok (.getfield 18, 3) := by decide +kernel
theorem dX5_slope_10 : decode cX5_slope 10 = .ok (.iconst 1, 1) := by decide +kernel
theorem dX5_slope_11 : decode cX5_slope 11 = .ok (.laload, 1) := by decide +kernel
theorem dX5_slope_12 : decode cX5_slope 12 = .ok (.lmul, 1) := by decide +kernel
theorem dX5_slope_13 : decode cX5_slope 13 = .ok (.lstore_n 1, 1) := by decide +kernel
theorem dX5_slope_14 : decode cX5_slope 14 = .ok (.aload_n 0, 1) := by decide +kernel
theorem dX5_slope_15 : decode cX5_slope 15 = .ok (.getfield 15, 3) := by decide +kernel
theorem dX5_slope_18 : decode cX5_slope 18 = .ok (.iconst 1, 1) := by decide +kernel
theorem dX5_slope_19 : decode cX5_slope 19 = .ok (.laload, 1) := by decide +kernel
theorem dX5_slope_20 : decode cX5_slope 20 = .ok (.aload_n 0, 1) := by decide +kernel
theorem dX5_slope_21 : decode cX5_slope 21 = .ok (.getfield 18, 3) := by decide +kernel
theorem dX5_slope_24 : decode cX5_slope 24 = .ok (.iconst 0, 1) := by decide +kernel
theorem dX5_slope_25 : decode cX5_slope 25 = .ok (.laload, 1) := by decide +kernel
theorem dX5_slope_26 : decode cX5_slope 26 = .ok (.lmul, 1) := by decide +kernel
theorem dX5_slope_27 : decode cX5_slope 27 = .ok (.lstore_n 3, 1) := by decide +kernel
theorem dX5_slope_28 : decode cX5_slope 28 = .ok (.lload_n 1, 1) := by decide +kernel
theorem dX5_slope_29 : decode cX5_slope 29 = .ok (.lload_n 3, 1) := by decide +kernel
theorem dX5_slope_30 : decode cX5_slope 30 = .ok (.lcmp, 1) := by decide +kernel
theorem dX5_slope_31 : decode cX5_slope 31 = .ok (.ifCond .ne 5, 3) := by decide +kernel
theorem dX5_slope_34 : decode cX5_slope 34 = .ok (.iconst 0, 1) := by decide +kernel
theorem dX5_slope_35 : decode cX5_slope 35 = .ok (.ireturn, 1) := by decide +kernel
theorem dX5_slope_36 : decode cX5_slope 36 = .ok (.lload_n 3, 1) := by decide +kernel
theorem dX5_slope_37 : decode cX5_slope 37 = .ok (.lload_n 1, 1) := by decide +kernel
theorem dX5_slope_38 : decode cX5_slope 38 = .ok (.lcmp, 1) := by decide +kernel
theorem dX5_slope_39 : decode cX5_slope 39 = .ok (.ifCond .le 7, 3) := by decide +kernel
theorem dX5_slope_42 : decode cX5_slope 42 = .ok (.iconst 1, 1) := by decide +kernel
theorem dX5_slope_43 : decode cX5_slope 43 = .ok (.goto 4, 3) := by decide +kernel
theorem dX5_slope_46 : decode cX5_slope 46 = .ok (.iconst 2, 1) := by decide +kernel
theorem dX5_slope_47 : decode cX5_slope 47 = .ok (.ireturn, 1) := by decide +kernel
def mX5_slope : MM := (yX5_slope, cX5_slope, 5, Option.some Jvm.ClassFile.FieldType.int, { frames := 0, cells := 0, slots := 0, locals := 0 })
def fX5_slope (σ0 : SS)  : Option Int32 :=
  vthen ((gL σ0 47 0) * (gL σ0 48 1)) fun w1 =>
  vthen ((gL σ0 47 1) * (gL σ0 48 0)) fun w2 =>
  if (lg_cmp w1 w2) = 0 then (
    some (0 : Int32)
    ) else (
    if (lg_cmp w2 w1) ≤ 0 then (
      some (2 : Int32)
      ) else (
      some (1 : Int32)
      )
    )

set_option maxRecDepth 20000 in
theorem sX5_slope {g : GG} {σ0 : SS}  {r : Int32} (hr : fX5_slope σ0 = some r)  : Ct g mX5_slope [.ref (ad g 45)] NF σ0 (some (.int r)) NF σ0 := by
  refine Ct.of (by decide +kernel) (nle rfl) fun hw0 => ?_
  have hw := hw0 rfl
  unfold fX5_slope at hr
  change RR g mX5_slope (FinR g mX5_slope (some (.int r)) NF σ0) zF 0 [(0, .ref (ad g 45))] [] σ0
  refine r_aload_n (pc := 0) (j := 0) dX5_slope_0 rfl rfl ?_
  refine gf5_1 (pc := 1) tw_1_237 hw dX5_slope_1 ?_
  refine r_iconst (pc := 4) (v := (0 : Int32)) dX5_slope_4 rfl ?_
  refine x_lald (pc := 5) (k := 0) rfl (by decide) rfl dX5_slope_5 ?_
  refine r_aload_n (pc := 6) (j := 0) dX5_slope_6 rfl rfl ?_
  refine gf5_2 (pc := 7) tw_1_238 hw dX5_slope_7 ?_
  refine r_iconst (pc := 10) (v := (1 : Int32)) dX5_slope_10 rfl ?_
  refine x_lald (pc := 11) (k := 1) rfl (by decide) rfl dX5_slope_11 ?_
  refine r_lmul (pc := 12) dX5_slope_12 ?_
  refine r_topl fun w1 ew1 => ?_
  replace hr := vthen_inv hr w1 ew1
  refine r_lstore_n (pc := 13) (ls1 := [(1, .long w1), (0, .ref (ad g 45))]) dX5_slope_13 rfl (nle rfl) rfl ?_
  refine r_aload_n (pc := 14) (j := 1) dX5_slope_14 rfl rfl ?_
  refine gf5_1 (pc := 15) tw_1_237 hw dX5_slope_15 ?_
  refine r_iconst (pc := 18) (v := (1 : Int32)) dX5_slope_18 rfl ?_
  refine x_lald (pc := 19) (k := 1) rfl (by decide) rfl dX5_slope_19 ?_
  refine r_aload_n (pc := 20) (j := 1) dX5_slope_20 rfl rfl ?_
  refine gf5_2 (pc := 21) tw_1_238 hw dX5_slope_21 ?_
  refine r_iconst (pc := 24) (v := (0 : Int32)) dX5_slope_24 rfl ?_
  refine x_lald (pc := 25) (k := 0) rfl (by decide) rfl dX5_slope_25 ?_
  refine r_lmul (pc := 26) dX5_slope_26 ?_
  refine r_topl fun w2 ew2 => ?_
  replace hr := vthen_inv hr w2 ew2
  refine r_lstore_n (pc := 27) (ls1 := [(3, .long w2), (1, .long w1), (0, .ref (ad g 45))]) dX5_slope_27 rfl (nle rfl) rfl ?_
  refine r_lload_n (pc := 28) (j := 1) dX5_slope_28 rfl rfl ?_
  refine r_lload_n (pc := 29) (j := 0) dX5_slope_29 rfl rfl ?_
  refine r_lcmp (pc := 30) dX5_slope_30 ?_
  refine r_if_ne (pc := 31) (tgt := 36) dX5_slope_31 rfl (fun hc => ?_) (fun hc => ?_)
  · replace hr := ite_f hc hr
    refine r_lload_n (pc := 36) (j := 0) dX5_slope_36 rfl rfl ?_
    refine r_lload_n (pc := 37) (j := 1) dX5_slope_37 rfl rfl ?_
    refine r_lcmp (pc := 38) dX5_slope_38 ?_
    refine r_if_le (pc := 39) (tgt := 46) dX5_slope_39 rfl (fun hc => ?_) (fun hc => ?_)
    · replace hr := ite_t hc hr
      refine r_iconst (pc := 46) (v := (2 : Int32)) dX5_slope_46 rfl ?_
      exact l_opi hr (r_iret (pc := 47) (v := (2 : Int32)) rfl rfl ⟨Nat.le_refl _, Nat.le_refl _⟩ dX5_slope_47)
    replace hr := ite_f hc hr
    refine r_iconst (pc := 42) (v := (1 : Int32)) dX5_slope_42 rfl ?_
    refine r_goto (pc := 43) (tgt := 47) dX5_slope_43 rfl ?_
    exact l_opi hr (r_iret (pc := 47) (v := (1 : Int32)) rfl rfl ⟨Nat.le_refl _, Nat.le_refl _⟩ dX5_slope_47)
  replace hr := ite_t hc hr
  refine r_iconst (pc := 34) (v := (0 : Int32)) dX5_slope_34 rfl ?_
  exact l_opi hr (r_iret (pc := 35) (v := (0 : Int32)) rfl rfl ⟨Nat.le_refl _, Nat.le_refl _⟩ dX5_slope_35)

theorem kX5_slope {g : GG} {σ0 : SS}  {v : Int32} {M : MM} {F : State → Array Value → List Frame → State → Prop} {pc index : Nat} {ls : List (Nat × Value)} {rest : List Value} (hf : fX5_slope σ0 = some v)  (hl : Cond.methodLink M.1.cls index yX5_slope ∈ lw_gt) (hR : mX5_slope.2.2.2.2.frames + 1 ≤ M.2.2.2.2.frames ∧ 8 + (mX5_slope.2.2.1 + 11) + mX5_slope.2.2.2.2.locals ≤ M.2.2.2.2.locals) (hrest : (rest.map fun v => v.category).sum ≤ 8) (hd : decode M.2.1 pc = .ok (.invokevirtual index, 3)) (k : RR g M F zF (pc + 3) ls (.int v :: rest) σ0) : RR g M F zF pc ls (.ref (ad g 45) :: rest) σ0 :=
  r_callV (z := zF) (N := mX5_slope) (nn := 0) (o1 := some (.int v)) (sX5_slope hf ) (rfl : shp 45 = (5, 0)) (by decide) (shp_le (rfl : shp 45 = (5, 0)) (nle rfl)) (ci := 5) rfl rfl tw_4_74 tw_1_7 hl tw_4_72 tw_4_73 ⟨by decide, by decide, rfl⟩ hR rfl hrest hd ⟨Nat.zero_le _, Nat.zero_le _⟩ rfl (fun h => k)

theorem dX7_shape_0 : decode cX7_shape 0 = .ok (.iload_n 1, 1) := by decide +kernel
theorem dX7_shape_1 : decode cX7_shape 1 = .ok (.ifCond .lt 8, 3) := by decide +kernel
theorem dX7_shape_4 : decode cX7_shape 4 = .ok (.iload_n 1, 1) := by decide +kernel
theorem dX7_shape_5 : decode cX7_shape 5 = .ok (.iconst 2, 1) := by decide +kernel
theorem dX7_shape_6 : decode cX7_shape 6 = .ok (.if_icmp .le 5, 3) := by decide +kernel
theorem dX7_shape_9 : decode cX7_shape 9 = .ok (.iconst (-1), 1) := by decide +kernel
theorem dX7_shape_10 : decode cX7_shape 10 = .ok (.ireturn, 1) := by decide +kernel
theorem dX7_shape_11 : decode cX7_shape 11 = .ok (.aload_n 0, 1) := by decide +kernel
theorem dX7_shape_12 : decode cX7_shape 12 = .ok (.getfield 62, 3) := by decide +kernel
theorem dX7_shape_15 : decode cX7_shape 15 = .ok (.aload_n 0, 1) := by decide +kernel
theorem dX7_shape_16 : decode cX7_shape 16 = .ok (.getfield 18, 3) := by decide +kernel
theorem dX7_shape_19 : decode cX7_shape 19 = .ok (.invokevirtual 252, 3) := by decide +kernel
theorem dX7_shape_22 : decode cX7_shape 22 = .ok (.ifCond .ne 6, 3) := by decide +kernel
theorem dX7_shape_25 : decode cX7_shape 25 = .ok (.bipush (-2), 2) := by decide +kernel
theorem dX7_shape_27 : decode cX7_shape 27 = .ok (.ireturn, 1) := by decide +kernel
theorem dX7_shape_28 : decode cX7_shape 28 = .ok (.iload_n 1, 1) := by decide +kernel
theorem dX7_shape_29 : decode cX7_shape 29 = .ok (.ifCond .ne 22, 3) := by decide +kernel
theorem dX7_shape_32 : decode cX7_shape 32 = .ok (.aload_n 0, 1) := by decide +kernel
theorem dX7_shape_33 : decode cX7_shape 33 = .ok (.getfield 62, 3) := by decide +kernel
theorem dX7_shape_36 : decode cX7_shape 36 = .ok (.getfield 259, 3) := by decide +kernel
theorem dX7_shape_39 : decode cX7_shape 39 = .ok (.invokevirtual 263, 3) := by decide +kernel
theorem dX7_shape_42 : decode cX7_shape 42 = .ok (.ifCond .eq 7, 3) := by decide +kernel
theorem dX7_shape_45 : decode cX7_shape 45 = .ok (.iconst 1, 1) := by decide +kernel
theorem dX7_shape_46 : decode cX7_shape 46 = .ok (.goto 4, 3) := by decide +kernel
theorem dX7_shape_49 : decode cX7_shape 49 = .ok (.iconst 0, 1) := by decide +kernel
theorem dX7_shape_50 : decode cX7_shape 50 = .ok (.ireturn, 1) := by decide +kernel
theorem dX7_shape_51 : decode cX7_shape 51 = .ok (.iload_n 1, 1) := by decide +kernel
theorem dX7_shape_52 : decode cX7_shape 52 = .ok (.iconst 1, 1) := by decide +kernel
theorem dX7_shape_53 : decode cX7_shape 53 = .ok (.if_icmp .ne 16, 3) := by decide +kernel
theorem dX7_shape_56 : decode cX7_shape 56 = .ok (.aload_n 0, 1) := by decide +kernel
theorem dX7_shape_57 : decode cX7_shape 57 = .ok (.getfield 62, 3) := by decide +kernel
theorem dX7_shape_60 : decode cX7_shape 60 = .ok (.getfield 259, 3) := by decide +kernel
theorem dX7_shape_63 : decode cX7_shape 63 = .ok (.invokevirtual 268, 3) := by decide +kernel
theorem dX7_shape_66 : decode cX7_shape 66 = .ok (.goto 13, 3) := by decide +kernel
theorem dX7_shape_69 : decode cX7_shape 69 = .ok (.aload_n 0, 1) := by decide +kernel
theorem dX7_shape_70 : decode cX7_shape 70 = .ok (.getfield 62, 3) := by decide +kernel
theorem dX7_shape_73 : decode cX7_shape 73 = .ok (.getfield 259, 3) := by decide +kernel
theorem dX7_shape_76 : decode cX7_shape 76 = .ok (.invokevirtual 271, 3) := by decide +kernel
theorem dX7_shape_79 : decode cX7_shape 79 = .ok (.ireturn, 1) := by decide +kernel
def mX7_shape : MM := (yX7_shape, cX7_shape, 2, Option.some Jvm.ClassFile.FieldType.int, { frames := 4, cells := 0, slots := 0, locals := 102 })
def fX7_shape (σ : SS) (a1 : Int32) : Option (Int32 × SS) :=
  if a1 < 0 then (
    some ((-1 : Int32), σ)
    ) else (
    if a1 ≤ (2 : Int32) then (
      bnd (fX3_locate σ (gR σ 1 2)) fun b2 σ4 =>
      if b2 = true then (
        if a1 = 0 then (
          bnd1 (fX5_turnsOneWay σ4) fun b12 =>
          if b12 = true then (
            some ((1 : Int32), σ4)
            ) else (
            some ((0 : Int32), σ4)
            )
          ) else (
          if a1 = (1 : Int32) then (
            bnd1 (fX5_area σ4) fun v8 =>
            some (v8, σ4)
            ) else (
            bnd1 (fX5_slope σ4) fun v5 =>
            some (v5, σ4)
            )
          )
        ) else (
        some ((-2 : Int32), σ4)
        )
      ) else (
      some ((-1 : Int32), σ)
      )
    )

set_option maxRecDepth 20000 in
theorem sX7_shape {g : GG} {σ : SS} {a1 : Int32} {r : Int32 × SS} (hr : fX7_shape σ a1 = some r)  : Ct g mX7_shape [.ref (ad g 1), .int a1] NF σ (some (.int r.1)) NF r.2 := by
  refine Ct.of (by decide +kernel) (nle rfl) fun hw0 => ?_
  have hw := hw0 rfl
  unfold fX7_shape at hr
  change RR g mX7_shape (FinR g mX7_shape (some (.int r.1)) NF r.2) zF 0 [(0, .ref (ad g 1)), (1, .int a1)] [] σ
  refine r_iload_n (pc := 0) (j := 1) dX7_shape_0 rfl rfl ?_
  refine r_if_lt (pc := 1) (tgt := 9) dX7_shape_1 rfl (fun hc => ?_) (fun hc => ?_)
  · replace hr := ite_t hc hr
    refine r_iconst (pc := 9) (v := (-1 : Int32)) dX7_shape_9 rfl ?_
    exact l_osi hr (r_iret (pc := 10) (v := (-1 : Int32)) rfl rfl ⟨Nat.le_refl _, Nat.le_refl _⟩ dX7_shape_10)
  replace hr := ite_f hc hr
  refine r_iload_n (pc := 4) (j := 1) dX7_shape_4 rfl rfl ?_
  refine r_iconst (pc := 5) (v := (2 : Int32)) dX7_shape_5 rfl ?_
  refine r_icmp_le (pc := 6) (tgt := 11) dX7_shape_6 rfl (fun hc => ?_) (fun hc => ?_)
  · replace hr := ite_t hc hr
    refine r_aload_n (pc := 11) (j := 0) dX7_shape_11 rfl rfl ?_
    refine gf7_12 (pc := 12) tw_2_121 hw dX7_shape_12 ?_
    refine r_aload_n (pc := 15) (j := 0) dX7_shape_15 rfl rfl ?_
    refine gf7_2 (pc := 16) tw_2_111 hw dX7_shape_16 ?_
    obtain ⟨b2, σ4, eσ4, hr⟩ := bnd_inv hr
    refine kX3_locate (pc := 19) eσ4 (wt_sc hw).1 tw_4_28 ⟨nle rfl, nle rfl⟩ (nle rfl) dX7_shape_19 fun hσ4 => ?_
    refine r_ifB_ne (pc := 22) (tgt := 28) dX7_shape_22 rfl (fun hc => ?_) (fun hc => ?_)
    · replace hr := ite_t hc hr
      refine r_iload_n (pc := 28) (j := 1) dX7_shape_28 rfl rfl ?_
      refine r_if_ne (pc := 29) (tgt := 51) dX7_shape_29 rfl (fun hc => ?_) (fun hc => ?_)
      · replace hr := ite_f hc hr
        refine r_iload_n (pc := 51) (j := 1) dX7_shape_51 rfl rfl ?_
        refine r_iconst (pc := 52) (v := (1 : Int32)) dX7_shape_52 rfl ?_
        refine r_icmp_ne (pc := 53) (tgt := 69) dX7_shape_53 rfl (fun hc => ?_) (fun hc => ?_)
        · replace hr := ite_f hc hr
          refine r_aload_n (pc := 69) (j := 0) dX7_shape_69 rfl rfl ?_
          refine gf7_12 (pc := 70) tw_2_121 hσ4 dX7_shape_70 ?_
          refine gf3_3 (pc := 73) tw_2_29 hσ4 dX7_shape_73 ?_
          obtain ⟨v5, hv5, hr⟩ := bnd1_inv hr
          refine kX5_slope (pc := 76) hv5 tw_4_71 ⟨nle rfl, nle rfl⟩ (nle rfl) dX7_shape_76 ?_
          exact l_osi hr (r_iret (pc := 79) (v := v5) rfl rfl ⟨Nat.le_refl _, Nat.le_refl _⟩ dX7_shape_79)
        replace hr := ite_t hc hr
        refine r_aload_n (pc := 56) (j := 0) dX7_shape_56 rfl rfl ?_
        refine gf7_12 (pc := 57) tw_2_121 hσ4 dX7_shape_57 ?_
        refine gf3_3 (pc := 60) tw_2_29 hσ4 dX7_shape_60 ?_
        obtain ⟨v8, hv8, hr⟩ := bnd1_inv hr
        refine kX5_area (pc := 63) hv8 tw_4_63 ⟨nle rfl, nle rfl⟩ (nle rfl) dX7_shape_63 ?_
        refine r_goto (pc := 66) (tgt := 79) dX7_shape_66 rfl ?_
        exact l_osi hr (r_iret (pc := 79) (v := v8) rfl rfl ⟨Nat.le_refl _, Nat.le_refl _⟩ dX7_shape_79)
      replace hr := ite_t hc hr
      refine r_aload_n (pc := 32) (j := 0) dX7_shape_32 rfl rfl ?_
      refine gf7_12 (pc := 33) tw_2_121 hσ4 dX7_shape_33 ?_
      refine gf3_3 (pc := 36) tw_2_29 hσ4 dX7_shape_36 ?_
      obtain ⟨b12, hb12, hr⟩ := bnd1_inv hr
      refine kX5_turnsOneWay (pc := 39) hb12 tw_4_53 ⟨nle rfl, nle rfl⟩ (nle rfl) dX7_shape_39 ?_
      refine r_ifB_eq (pc := 42) (tgt := 49) dX7_shape_42 rfl (fun hc => ?_) (fun hc => ?_)
      · replace hr := ite_f hc hr
        refine r_iconst (pc := 49) (v := (0 : Int32)) dX7_shape_49 rfl ?_
        exact l_osi hr (r_iret (pc := 50) (v := (0 : Int32)) rfl rfl ⟨Nat.le_refl _, Nat.le_refl _⟩ dX7_shape_50)
      replace hr := ite_t hc hr
      refine r_iconst (pc := 45) (v := (1 : Int32)) dX7_shape_45 rfl ?_
      refine r_goto (pc := 46) (tgt := 50) dX7_shape_46 rfl ?_
      exact l_osi hr (r_iret (pc := 50) (v := (1 : Int32)) rfl rfl ⟨Nat.le_refl _, Nat.le_refl _⟩ dX7_shape_50)
    replace hr := ite_f hc hr
    refine r_bipush (pc := 25) (v := (-2 : Int32)) dX7_shape_25 rfl ?_
    exact l_osi hr (r_iret (pc := 27) (v := (-2 : Int32)) rfl rfl ⟨Nat.le_refl _, Nat.le_refl _⟩ dX7_shape_27)
  replace hr := ite_f hc hr
  refine r_iconst (pc := 9) (v := (-1 : Int32)) dX7_shape_9 rfl ?_
  exact l_osi hr (r_iret (pc := 10) (v := (-1 : Int32)) rfl rfl ⟨Nat.le_refl _, Nat.le_refl _⟩ dX7_shape_10)

theorem kX7_shape {g : GG} {σ : SS} {a1 : Int32} {v : Int32} {σ2 : SS} {M : MM} {F : State → Array Value → List Frame → State → Prop} {pc index : Nat} {ls : List (Nat × Value)} {rest : List Value} (hf : fX7_shape σ a1 = some (v, σ2))  (hl : Cond.methodLink M.1.cls index yX7_shape ∈ lw_gt) (hR : mX7_shape.2.2.2.2.frames + 1 ≤ M.2.2.2.2.frames ∧ 8 + (mX7_shape.2.2.1 + 11) + mX7_shape.2.2.2.2.locals ≤ M.2.2.2.2.locals) (hrest : (rest.map fun v => v.category).sum ≤ 8) (hd : decode M.2.1 pc = .ok (.invokevirtual index, 3)) (k : WT σ2 → RR g M F zF (pc + 3) ls (.int v :: rest) σ2) : RR g M F zF pc ls (.int a1 :: .ref (ad g 1) :: rest) σ :=
  r_callV (z := zF) (N := mX7_shape) (nn := 1) (o1 := some (.int v)) (sX7_shape hf ) (rfl : shp 1 = (7, 0)) (by decide) (shp_le (rfl : shp 1 = (7, 0)) (nle rfl)) (ci := 7) rfl rfl tw_4_52 tw_1_1 hl tw_4_50 tw_4_51 ⟨by decide, by decide, rfl⟩ hR rfl hrest hd ⟨Nat.zero_le _, Nat.zero_le _⟩ rfl (fun h => k (h rfl))

theorem dX8_turnAt_0 : decode cX8_turnAt 0 = .ok (.aload_n 0, 1) := by decide +kernel
theorem dX8_turnAt_1 : decode cX8_turnAt 1 = .ok (.getfield 98, 3) := by decide +kernel
theorem dX8_turnAt_4 : decode cX8_turnAt 4 = .ok (.iload_n 2, 1) := by decide +kernel
theorem dX8_turnAt_5 : decode cX8_turnAt 5 = .ok (.laload, 1) := by decide +kernel
theorem dX8_turnAt_6 : decode cX8_turnAt 6 = .ok (.aload_n 0, 1) := by decide +kernel
theorem dX8_turnAt_7 : decode cX8_turnAt 7 = .ok (.getfield 105, 3) := by decide +kernel
theorem dX8_turnAt_10 : decode cX8_turnAt 10 = .ok (.iload_n 1, 1) := by decide +kernel
theorem dX8_turnAt_11 : decode cX8_turnAt 11 = .ok (.laload, 1) := by decide +kernel
theorem dX8_turnAt_12 : decode cX8_turnAt 12 = .ok (.lmul, 1) := by decide +kernel
theorem dX8_turnAt_13 : decode cX8_turnAt 13 = .ok (.aload_n 0, 1) := by decide +kernel
theorem dX8_turnAt_14 : decode cX8_turnAt 14 = .ok (.getfield 98, 3) := by decide +kernel
theorem dX8_turnAt_17 : decode cX8_turnAt 17 = .ok (.iload_n 1, 1) := by decide +kernel
theorem dX8_turnAt_18 : decode cX8_turnAt 18 = .ok (.laload, 1) := by decide +kernel
theorem dX8_turnAt_19 : decode cX8_turnAt 19 = .ok (.aload_n 0, 1) := by decide +kernel
theorem dX8_turnAt_20 : decode cX8_turnAt 20 = .ok (.getfield 105, 3) := by decide +kernel
theorem dX8_turnAt_23 : decode cX8_turnAt 23 = .ok (.iload_n 2, 1) := by decide +kernel
theorem dX8_turnAt_24 : decode cX8_turnAt 24 = .ok (.laload, 1) := by decide +kernel
theorem dX8_turnAt_25 : decode cX8_turnAt 25 = .ok (.lmul, 1) := by decide +kernel
theorem dX8_turnAt_26 : decode cX8_turnAt 26 = .ok (.lsub, 1) := by decide +kernel
theorem dX8_turnAt_27 : decode cX8_turnAt 27 = .ok (.lstore 4, 2) := by decide +kernel
theorem dX8_turnAt_29 : decode cX8_turnAt 29 = .ok (.aload_n 0, 1) := by decide +kernel
theorem dX8_turnAt_30 : decode cX8_turnAt 30 = .ok (.getfield 102, 3) := by decide +kernel
theorem dX8_turnAt_33 : decode cX8_turnAt 33 = .ok (.iload_n 2, 1) := by decide +kernel
theorem dX8_turnAt_34 : decode cX8_turnAt 34 = .ok (.laload, 1) := by decide +kernel
theorem dX8_turnAt_35 : decode cX8_turnAt 35 = .ok (.aload_n 0, 1) := by decide +kernel
theorem dX8_turnAt_36 : decode cX8_turnAt 36 = .ok (.getfield 105, 3) := by decide +kernel
theorem dX8_turnAt_39 : decode cX8_turnAt 39 = .ok (.iload_n 1, 1) := by decide +kernel
theorem dX8_turnAt_40 : decode cX8_turnAt 40 = .ok (.laload, 1) := by decide +kernel
theorem dX8_turnAt_41 : decode cX8_turnAt 41 = .ok (.lmul, 1) := by decide +kernel
theorem dX8_turnAt_42 : decode cX8_turnAt 42 = .ok (.aload_n 0, 1) := by decide +kernel
theorem dX8_turnAt_43 : decode cX8_turnAt 43 = .ok (.getfield 102, 3) := by decide +kernel
theorem dX8_turnAt_46 : decode cX8_turnAt 46 = .ok (.iload_n 1, 1) := by decide +kernel
theorem dX8_turnAt_47 : decode cX8_turnAt 47 = .ok (.laload, 1) := by decide +kernel
theorem dX8_turnAt_48 : decode cX8_turnAt 48 = .ok (.aload_n 0, 1) := by decide +kernel
theorem dX8_turnAt_49 : decode cX8_turnAt 49 = .ok (.getfield 105, 3) := by decide +kernel
theorem dX8_turnAt_52 : decode cX8_turnAt 52 = .ok (.iload_n 2, 1) := by decide +kernel
theorem dX8_turnAt_53 : decode cX8_turnAt 53 = .ok (.laload, 1) := by decide +kernel
theorem dX8_turnAt_54 : decode cX8_turnAt 54 = .ok (.lmul, 1) := by decide +kernel
theorem dX8_turnAt_55 : decode cX8_turnAt 55 = .ok (.lsub, 1) := by decide +kernel
theorem dX8_turnAt_56 : decode cX8_turnAt 56 = .ok (.lstore 6, 2) := by decide +kernel
theorem dX8_turnAt_58 : decode cX8_turnAt 58 = .ok (.aload_n 0, 1) := by decide +kernel
theorem dX8_turnAt_59 : decode cX8_turnAt 59 = .ok (.getfield 98, 3) := by decide +kernel
theorem dX8_turnAt_62 : decode cX8_turnAt 62 = .ok (.iload_n 3, 1) := by decide +kernel
theorem dX8_turnAt_63 : decode cX8_turnAt 63 = .ok (.laload, 1) := by decide +kernel
theorem dX8_turnAt_64 : decode cX8_turnAt 64 = .ok (.aload_n 0, 1) := by decide +kernel
theorem dX8_turnAt_65 : decode cX8_turnAt 65 = .ok (.getfield 105, 3) := by decide +kernel
theorem dX8_turnAt_68 : decode cX8_turnAt 68 = .ok (.iload_n 2, 1) := by decide +kernel
theorem dX8_turnAt_69 : decode cX8_turnAt 69 = .ok (.laload, 1) := by decide +kernel
theorem dX8_turnAt_70 : decode cX8_turnAt 70 = .ok (.lmul, 1) := by decide +kernel
theorem dX8_turnAt_71 : decode cX8_turnAt 71 = .ok (.aload_n 0, 1) := by decide +kernel
theorem dX8_turnAt_72 : decode cX8_turnAt 72 = .ok (.getfield 98, 3) := by decide +kernel
theorem dX8_turnAt_75 : decode cX8_turnAt 75 = .ok (.iload_n 2, 1) := by decide +kernel
theorem dX8_turnAt_76 : decode cX8_turnAt 76 = .ok (.laload, 1) := by decide +kernel
theorem dX8_turnAt_77 : decode cX8_turnAt 77 = .ok (.aload_n 0, 1) := by decide +kernel
theorem dX8_turnAt_78 : decode cX8_turnAt 78 = .ok (.getfield 105, 3) := by decide +kernel
theorem dX8_turnAt_81 : decode cX8_turnAt 81 = .ok (.iload_n 3, 1) := by decide +kernel
theorem dX8_turnAt_82 : decode cX8_turnAt 82 = .ok (.laload, 1) := by decide +kernel
theorem dX8_turnAt_83 : decode cX8_turnAt 83 = .ok (.lmul, 1) := by decide +kernel
theorem dX8_turnAt_84 : decode cX8_turnAt 84 = .ok (.lsub, 1) := by decide +kernel
theorem dX8_turnAt_85 : decode cX8_turnAt 85 = .ok (.lstore 8, 2) := by decide +kernel
theorem dX8_turnAt_87 : decode cX8_turnAt 87 = .ok (.aload_n 0, 1) := by decide +kernel
theorem dX8_turnAt_88 : decode cX8_turnAt 88 = .ok (.getfield 102, 3) := by decide +kernel
theorem dX8_turnAt_91 : decode cX8_turnAt 91 = .ok (.iload_n 3, 1) := by decide +kernel
theorem dX8_turnAt_92 : decode cX8_turnAt 92 = .ok (.laload, 1) := by decide +kernel
theorem dX8_turnAt_93 : decode cX8_turnAt 93 = .ok (.aload_n 0, 1) := by decide +kernel
theorem dX8_turnAt_94 : decode cX8_turnAt 94 = .ok (.getfield 105, 3) := by decide +kernel
theorem dX8_turnAt_97 : decode cX8_turnAt 97 = .ok (.iload_n 2, 1) := by decide +kernel
theorem dX8_turnAt_98 : decode cX8_turnAt 98 = .ok (.laload, 1) := by decide +kernel
theorem dX8_turnAt_99 : decode cX8_turnAt 99 = .ok (.lmul, 1) := by decide +kernel
theorem dX8_turnAt_100 : decode cX8_turnAt 100 = .ok (.aload_n 0, 1) := by decide +kernel
theorem dX8_turnAt_101 : decode cX8_turnAt 101 = .ok (.getfield 102, 3) := by decide +kernel
theorem dX8_turnAt_104 : decode cX8_turnAt 104 = .ok (.iload_n 2, 1) := by decide +kernel
theorem dX8_turnAt_105 : decode cX8_turnAt 105 = .ok (.laload, 1) := by decide +kernel
theorem dX8_turnAt_106 : decode cX8_turnAt 106 = .ok (.aload_n 0, 1) := by decide +kernel
theorem dX8_turnAt_107 : decode cX8_turnAt 107 = .ok (.getfield 105, 3) := by decide +kernel
theorem dX8_turnAt_110 : decode cX8_turnAt 110 = .ok (.iload_n 3, 1) := by decide +kernel
theorem dX8_turnAt_111 : decode cX8_turnAt 111 = .ok (.laload, 1) := by decide +kernel
theorem dX8_turnAt_112 : decode cX8_turnAt 112 = .ok (.lmul, 1) := by decide +kernel
theorem dX8_turnAt_113 : decode cX8_turnAt 113 = .ok (.lsub, 1) := by decide +kernel
theorem dX8_turnAt_114 : decode cX8_turnAt 114 = .ok (.lstore 10, 2) := by decide +kernel
theorem dX8_turnAt_116 : decode cX8_turnAt 116 = .ok (.lload 4, 2) := by decide +kernel
theorem dX8_turnAt_118 : decode cX8_turnAt 118 = .ok (.lload 10, 2) := by decide +kernel
theorem dX8_turnAt_120 : decode cX8_turnAt 120 = .ok (.lmul, 1) := by decide +kernel
theorem dX8_turnAt_121 : decode cX8_turnAt 121 = .ok (.lload 6, 2) := by decide +kernel
theorem dX8_turnAt_123 : decode cX8_turnAt 123 = .ok (.lload 8, 2) := by decide +kernel
theorem dX8_turnAt_125 : decode cX8_turnAt 125 = .ok (.lmul, 1) := by decide +kernel
theorem dX8_turnAt_126 : decode cX8_turnAt 126 = .ok (.lsub, 1) := by decide +kernel
theorem dX8_turnAt_127 : decode cX8_turnAt 127 = .ok (.lstore 12, 2) := by decide +kernel
theorem dX8_turnAt_129 : decode cX8_turnAt 129 = .ok (.lload 12, 2) := by decide +kernel
theorem dX8_turnAt_131 : decode cX8_turnAt 131 = .ok (.lconst 0, 1) := by decide +kernel
theorem dX8_turnAt_132 : decode cX8_turnAt 132 = .ok (.lcmp, 1) := by decide +kernel
theorem dX8_turnAt_133 : decode cX8_turnAt 133 = .ok (.ifCond .le 7, 3) := by decide +kernel
theorem dX8_turnAt_136 : decode cX8_turnAt 136 = .ok (.iconst 1, 1) := by decide +kernel
theorem dX8_turnAt_137 : decode cX8_turnAt 137 = .ok (.goto 15, 3) := by decide +kernel
theorem dX8_turnAt_140 : decode cX8_turnAt 140 = .ok (.lload 12, 2) := by decide +kernel
theorem dX8_turnAt_142 : decode cX8_turnAt 142 = .ok (.lconst 0, 1) := by decide +kernel
theorem dX8_turnAt_143 : decode cX8_turnAt 143 = .ok (.lcmp, 1) := by decide +kernel
theorem dX8_turnAt_144 : decode cX8_turnAt 144 = .ok (.ifCond .ge 7, 3) := by decide +kernel
theorem dX8_turnAt_147 : decode cX8_turnAt 147 = .ok (.iconst (-1), 1) := by decide +kernel
theorem dX8_turnAt_148 : decode cX8_turnAt 148 = .ok (.goto 4, 3) := by decide +kernel
theorem dX8_turnAt_151 : decode cX8_turnAt 151 = .ok (.iconst 0, 1) := by decide +kernel
theorem dX8_turnAt_152 : decode cX8_turnAt 152 = .ok (.ireturn, 1) := by decide +kernel
def mX8_turnAt : MM := (yX8_turnAt, cX8_turnAt, 14, Option.some Jvm.ClassFile.FieldType.int, { frames := 0, cells := 0, slots := 0, locals := 0 })
def fX8_turnAt (σ0 : SS) (a1 : Int32) (a2 : Int32) (a3 : Int32) : Option Int32 :=
  grd (inb a2 4) <|
  grd (inb a1 4) <|
  vthen (((gL σ0 103 (Int32.toNatClampNeg a2)) * (gL σ0 105 (Int32.toNatClampNeg a1))) - ((gL σ0 103 (Int32.toNatClampNeg a1)) * (gL σ0 105 (Int32.toNatClampNeg a2)))) fun w3 =>
  vthen (((gL σ0 104 (Int32.toNatClampNeg a2)) * (gL σ0 105 (Int32.toNatClampNeg a1))) - ((gL σ0 104 (Int32.toNatClampNeg a1)) * (gL σ0 105 (Int32.toNatClampNeg a2)))) fun w4 =>
  grd (inb a3 4) <|
  vthen (((gL σ0 103 (Int32.toNatClampNeg a3)) * (gL σ0 105 (Int32.toNatClampNeg a2))) - ((gL σ0 103 (Int32.toNatClampNeg a2)) * (gL σ0 105 (Int32.toNatClampNeg a3)))) fun w6 =>
  vthen (((gL σ0 104 (Int32.toNatClampNeg a3)) * (gL σ0 105 (Int32.toNatClampNeg a2))) - ((gL σ0 104 (Int32.toNatClampNeg a2)) * (gL σ0 105 (Int32.toNatClampNeg a3)))) fun w7 =>
  vthen ((w3 * w7) - (w4 * w6)) fun w8 =>
  if (lg_cmp w8 (0 : Int64)) ≤ 0 then (
    if 0 ≤ (lg_cmp w8 (0 : Int64)) then (
      some (0 : Int32)
      ) else (
      some (-1 : Int32)
      )
    ) else (
    some (1 : Int32)
    )

set_option maxRecDepth 20000 in
theorem sX8_turnAt {g : GG} {σ0 : SS} {a1 : Int32} {a2 : Int32} {a3 : Int32} {r : Int32} (hr : fX8_turnAt σ0 a1 a2 a3 = some r)  : Ct g mX8_turnAt [.ref (ad g 73), .int a1, .int a2, .int a3] NF σ0 (some (.int r)) NF σ0 := by
  refine Ct.of (by decide +kernel) (nle rfl) fun hw0 => ?_
  have hw := hw0 rfl
  unfold fX8_turnAt at hr
  change RR g mX8_turnAt (FinR g mX8_turnAt (some (.int r)) NF σ0) zF 0 [(0, .ref (ad g 73)), (1, .int a1), (2, .int a2), (3, .int a3)] [] σ0
  refine r_aload_n (pc := 0) (j := 0) dX8_turnAt_0 rfl rfl ?_
  refine gf8_46 (pc := 1) tw_5_140 hw dX8_turnAt_1 ?_
  refine r_iload_n (pc := 4) (j := 2) dX8_turnAt_4 rfl rfl ?_
  obtain ⟨h1, hr⟩ := grd_inv hr
  refine x_lald (pc := 5) (k := (Int32.toNatClampNeg a2)) rfl h1 rfl dX8_turnAt_5 ?_
  refine r_aload_n (pc := 6) (j := 0) dX8_turnAt_6 rfl rfl ?_
  refine gf8_48 (pc := 7) tw_5_142 hw dX8_turnAt_7 ?_
  refine r_iload_n (pc := 10) (j := 1) dX8_turnAt_10 rfl rfl ?_
  obtain ⟨h2, hr⟩ := grd_inv hr
  refine x_lald (pc := 11) (k := (Int32.toNatClampNeg a1)) rfl h2 rfl dX8_turnAt_11 ?_
  refine r_lmul (pc := 12) dX8_turnAt_12 ?_
  refine r_aload_n (pc := 13) (j := 0) dX8_turnAt_13 rfl rfl ?_
  refine gf8_46 (pc := 14) tw_5_140 hw dX8_turnAt_14 ?_
  refine r_iload_n (pc := 17) (j := 1) dX8_turnAt_17 rfl rfl ?_
  refine x_lald (pc := 18) (k := (Int32.toNatClampNeg a1)) rfl h2 rfl dX8_turnAt_18 ?_
  refine r_aload_n (pc := 19) (j := 0) dX8_turnAt_19 rfl rfl ?_
  refine gf8_48 (pc := 20) tw_5_142 hw dX8_turnAt_20 ?_
  refine r_iload_n (pc := 23) (j := 2) dX8_turnAt_23 rfl rfl ?_
  refine x_lald (pc := 24) (k := (Int32.toNatClampNeg a2)) rfl h1 rfl dX8_turnAt_24 ?_
  refine r_lmul (pc := 25) dX8_turnAt_25 ?_
  refine r_lsub (pc := 26) dX8_turnAt_26 ?_
  refine r_topl fun w3 ew3 => ?_
  replace hr := vthen_inv hr w3 ew3
  refine r_lstore (pc := 27) (ls1 := [(4, .long w3), (0, .ref (ad g 73)), (1, .int a1), (2, .int a2), (3, .int a3)]) dX8_turnAt_27 (nle rfl) rfl ?_
  refine r_aload_n (pc := 29) (j := 1) dX8_turnAt_29 rfl rfl ?_
  refine gf8_47 (pc := 30) tw_5_141 hw dX8_turnAt_30 ?_
  refine r_iload_n (pc := 33) (j := 3) dX8_turnAt_33 rfl rfl ?_
  refine x_lald (pc := 34) (k := (Int32.toNatClampNeg a2)) rfl h1 rfl dX8_turnAt_34 ?_
  refine r_aload_n (pc := 35) (j := 1) dX8_turnAt_35 rfl rfl ?_
  refine gf8_48 (pc := 36) tw_5_142 hw dX8_turnAt_36 ?_
  refine r_iload_n (pc := 39) (j := 2) dX8_turnAt_39 rfl rfl ?_
  refine x_lald (pc := 40) (k := (Int32.toNatClampNeg a1)) rfl h2 rfl dX8_turnAt_40 ?_
  refine r_lmul (pc := 41) dX8_turnAt_41 ?_
  refine r_aload_n (pc := 42) (j := 1) dX8_turnAt_42 rfl rfl ?_
  refine gf8_47 (pc := 43) tw_5_141 hw dX8_turnAt_43 ?_
  refine r_iload_n (pc := 46) (j := 2) dX8_turnAt_46 rfl rfl ?_
  refine x_lald (pc := 47) (k := (Int32.toNatClampNeg a1)) rfl h2 rfl dX8_turnAt_47 ?_
  refine r_aload_n (pc := 48) (j := 1) dX8_turnAt_48 rfl rfl ?_
  refine gf8_48 (pc := 49) tw_5_142 hw dX8_turnAt_49 ?_
  refine r_iload_n (pc := 52) (j := 3) dX8_turnAt_52 rfl rfl ?_
  refine x_lald (pc := 53) (k := (Int32.toNatClampNeg a2)) rfl h1 rfl dX8_turnAt_53 ?_
  refine r_lmul (pc := 54) dX8_turnAt_54 ?_
  refine r_lsub (pc := 55) dX8_turnAt_55 ?_
  refine r_topl fun w4 ew4 => ?_
  replace hr := vthen_inv hr w4 ew4
  refine r_lstore (pc := 56) (ls1 := [(6, .long w4), (4, .long w3), (0, .ref (ad g 73)), (1, .int a1), (2, .int a2), (3, .int a3)]) dX8_turnAt_56 (nle rfl) rfl ?_
  refine r_aload_n (pc := 58) (j := 2) dX8_turnAt_58 rfl rfl ?_
  refine gf8_46 (pc := 59) tw_5_140 hw dX8_turnAt_59 ?_
  refine r_iload_n (pc := 62) (j := 5) dX8_turnAt_62 rfl rfl ?_
  obtain ⟨h5, hr⟩ := grd_inv hr
  refine x_lald (pc := 63) (k := (Int32.toNatClampNeg a3)) rfl h5 rfl dX8_turnAt_63 ?_
  refine r_aload_n (pc := 64) (j := 2) dX8_turnAt_64 rfl rfl ?_
  refine gf8_48 (pc := 65) tw_5_142 hw dX8_turnAt_65 ?_
  refine r_iload_n (pc := 68) (j := 4) dX8_turnAt_68 rfl rfl ?_
  refine x_lald (pc := 69) (k := (Int32.toNatClampNeg a2)) rfl h1 rfl dX8_turnAt_69 ?_
  refine r_lmul (pc := 70) dX8_turnAt_70 ?_
  refine r_aload_n (pc := 71) (j := 2) dX8_turnAt_71 rfl rfl ?_
  refine gf8_46 (pc := 72) tw_5_140 hw dX8_turnAt_72 ?_
  refine r_iload_n (pc := 75) (j := 4) dX8_turnAt_75 rfl rfl ?_
  refine x_lald (pc := 76) (k := (Int32.toNatClampNeg a2)) rfl h1 rfl dX8_turnAt_76 ?_
  refine r_aload_n (pc := 77) (j := 2) dX8_turnAt_77 rfl rfl ?_
  refine gf8_48 (pc := 78) tw_5_142 hw dX8_turnAt_78 ?_
  refine r_iload_n (pc := 81) (j := 5) dX8_turnAt_81 rfl rfl ?_
  refine x_lald (pc := 82) (k := (Int32.toNatClampNeg a3)) rfl h5 rfl dX8_turnAt_82 ?_
  refine r_lmul (pc := 83) dX8_turnAt_83 ?_
  refine r_lsub (pc := 84) dX8_turnAt_84 ?_
  refine r_topl fun w6 ew6 => ?_
  replace hr := vthen_inv hr w6 ew6
  refine r_lstore (pc := 85) (ls1 := [(8, .long w6), (6, .long w4), (4, .long w3), (0, .ref (ad g 73)), (1, .int a1), (2, .int a2), (3, .int a3)]) dX8_turnAt_85 (nle rfl) rfl ?_
  refine r_aload_n (pc := 87) (j := 3) dX8_turnAt_87 rfl rfl ?_
  refine gf8_47 (pc := 88) tw_5_141 hw dX8_turnAt_88 ?_
  refine r_iload_n (pc := 91) (j := 6) dX8_turnAt_91 rfl rfl ?_
  refine x_lald (pc := 92) (k := (Int32.toNatClampNeg a3)) rfl h5 rfl dX8_turnAt_92 ?_
  refine r_aload_n (pc := 93) (j := 3) dX8_turnAt_93 rfl rfl ?_
  refine gf8_48 (pc := 94) tw_5_142 hw dX8_turnAt_94 ?_
  refine r_iload_n (pc := 97) (j := 5) dX8_turnAt_97 rfl rfl ?_
  refine x_lald (pc := 98) (k := (Int32.toNatClampNeg a2)) rfl h1 rfl dX8_turnAt_98 ?_
  refine r_lmul (pc := 99) dX8_turnAt_99 ?_
  refine r_aload_n (pc := 100) (j := 3) dX8_turnAt_100 rfl rfl ?_
  refine gf8_47 (pc := 101) tw_5_141 hw dX8_turnAt_101 ?_
  refine r_iload_n (pc := 104) (j := 5) dX8_turnAt_104 rfl rfl ?_
  refine x_lald (pc := 105) (k := (Int32.toNatClampNeg a2)) rfl h1 rfl dX8_turnAt_105 ?_
  refine r_aload_n (pc := 106) (j := 3) dX8_turnAt_106 rfl rfl ?_
  refine gf8_48 (pc := 107) tw_5_142 hw dX8_turnAt_107 ?_
  refine r_iload_n (pc := 110) (j := 6) dX8_turnAt_110 rfl rfl ?_
  refine x_lald (pc := 111) (k := (Int32.toNatClampNeg a3)) rfl h5 rfl dX8_turnAt_111 ?_
  refine r_lmul (pc := 112) dX8_turnAt_112 ?_
  refine r_lsub (pc := 113) dX8_turnAt_113 ?_
  refine r_topl fun w7 ew7 => ?_
  replace hr := vthen_inv hr w7 ew7
  refine r_lstore (pc := 114) (ls1 := [(10, .long w7), (8, .long w6), (6, .long w4), (4, .long w3), (0, .ref (ad g 73)), (1, .int a1), (2, .int a2), (3, .int a3)]) dX8_turnAt_114 (nle rfl) rfl ?_
  refine r_lload (pc := 116) (j := 3) dX8_turnAt_116 rfl ?_
  refine r_lload (pc := 118) (j := 0) dX8_turnAt_118 rfl ?_
  refine r_lmul (pc := 120) dX8_turnAt_120 ?_
  refine r_lload (pc := 121) (j := 2) dX8_turnAt_121 rfl ?_
  refine r_lload (pc := 123) (j := 1) dX8_turnAt_123 rfl ?_
  refine r_lmul (pc := 125) dX8_turnAt_125 ?_
  refine r_lsub (pc := 126) dX8_turnAt_126 ?_
  refine r_topl fun w8 ew8 => ?_
  replace hr := vthen_inv hr w8 ew8
  refine r_lstore (pc := 127) (ls1 := [(12, .long w8), (10, .long w7), (8, .long w6), (6, .long w4), (4, .long w3), (0, .ref (ad g 73)), (1, .int a1), (2, .int a2), (3, .int a3)]) dX8_turnAt_127 (nle rfl) rfl ?_
  refine r_lload (pc := 129) (j := 0) dX8_turnAt_129 rfl ?_
  refine r_lconst (pc := 131) (v := (0 : Int64)) dX8_turnAt_131 rfl ?_
  refine r_lcmp (pc := 132) dX8_turnAt_132 ?_
  refine r_if_le (pc := 133) (tgt := 140) dX8_turnAt_133 rfl (fun hc => ?_) (fun hc => ?_)
  · replace hr := ite_t hc hr
    refine r_lload (pc := 140) (j := 0) dX8_turnAt_140 rfl ?_
    refine r_lconst (pc := 142) (v := (0 : Int64)) dX8_turnAt_142 rfl ?_
    refine r_lcmp (pc := 143) dX8_turnAt_143 ?_
    refine r_if_ge (pc := 144) (tgt := 151) dX8_turnAt_144 rfl (fun hc => ?_) (fun hc => ?_)
    · replace hr := ite_t hc hr
      refine r_iconst (pc := 151) (v := (0 : Int32)) dX8_turnAt_151 rfl ?_
      exact l_opi hr (r_iret (pc := 152) (v := (0 : Int32)) rfl rfl ⟨Nat.le_refl _, Nat.le_refl _⟩ dX8_turnAt_152)
    replace hr := ite_f hc hr
    refine r_iconst (pc := 147) (v := (-1 : Int32)) dX8_turnAt_147 rfl ?_
    refine r_goto (pc := 148) (tgt := 152) dX8_turnAt_148 rfl ?_
    exact l_opi hr (r_iret (pc := 152) (v := (-1 : Int32)) rfl rfl ⟨Nat.le_refl _, Nat.le_refl _⟩ dX8_turnAt_152)
  replace hr := ite_f hc hr
  refine r_iconst (pc := 136) (v := (1 : Int32)) dX8_turnAt_136 rfl ?_
  refine r_goto (pc := 137) (tgt := 152) dX8_turnAt_137 rfl ?_
  exact l_opi hr (r_iret (pc := 152) (v := (1 : Int32)) rfl rfl ⟨Nat.le_refl _, Nat.le_refl _⟩ dX8_turnAt_152)

theorem kX8_turnAt {g : GG} {σ0 : SS} {a1 : Int32} {a2 : Int32} {a3 : Int32} {v : Int32} {M : MM} {F : State → Array Value → List Frame → State → Prop} {pc index : Nat} {ls : List (Nat × Value)} {rest : List Value} (hf : fX8_turnAt σ0 a1 a2 a3 = some v)  (hl : Cond.methodLink M.1.cls index yX8_turnAt ∈ lw_gt) (hR : mX8_turnAt.2.2.2.2.frames + 1 ≤ M.2.2.2.2.frames ∧ 8 + (mX8_turnAt.2.2.1 + 11) + mX8_turnAt.2.2.2.2.locals ≤ M.2.2.2.2.locals) (hrest : (rest.map fun v => v.category).sum ≤ 8) (hd : decode M.2.1 pc = .ok (.invokevirtual index, 3)) (k : RR g M F zF (pc + 3) ls (.int v :: rest) σ0) : RR g M F zF pc ls (.int a3 :: .int a2 :: .int a1 :: .ref (ad g 73) :: rest) σ0 :=
  r_callV (z := zF) (N := mX8_turnAt) (nn := 3) (o1 := some (.int v)) (sX8_turnAt hf ) (rfl : shp 73 = (8, 0)) (by decide) (shp_le (rfl : shp 73 = (8, 0)) (nle rfl)) (ci := 8) rfl rfl tw_7_66 tw_1_10 hl tw_7_65 tp_68 ⟨by decide, by decide, rfl⟩ hR rfl hrest hd ⟨Nat.zero_le _, Nat.zero_le _⟩ rfl (fun h => k)

theorem dX8_side_0 : decode cX8_side 0 = .ok (.aload_n 0, 1) := by decide +kernel
theorem dX8_side_1 : decode cX8_side 1 = .ok (.getfield 98, 3) := by decide +kernel
theorem dX8_side_4 : decode cX8_side 4 = .ok (.iload_n 1, 1) := by decide +kernel
theorem dX8_side_5 : decode cX8_side 5 = .ok (.laload, 1) := by decide +kernel
theorem dX8_side_6 : decode cX8_side 6 = .ok (.aload_n 0, 1) := by decide +kernel
theorem dX8_side_7 : decode cX8_side 7 = .ok (.getfield 102, 3) := by decide +kernel
theorem dX8_side_10 : decode cX8_side 10 = .ok (.iload_n 2, 1) := by decide +kernel
theorem dX8_side_11 : decode cX8_side 11 = .ok (.laload, 1) := by decide +kernel
theorem dX8_side_12 : decode cX8_side 12 = .ok (.lmul, 1) := by decide +kernel
theorem dX8_side_13 : decode cX8_side 13 = .ok (.aload_n 0, 1) := by decide +kernel
theorem dX8_side_14 : decode cX8_side 14 = .ok (.getfield 98, 3) := by decide +kernel
theorem dX8_side_17 : decode cX8_side 17 = .ok (.iload_n 2, 1) := by decide +kernel
theorem dX8_side_18 : decode cX8_side 18 = .ok (.laload, 1) := by decide +kernel
theorem dX8_side_19 : decode cX8_side 19 = .ok (.aload_n 0, 1) := by decide +kernel
theorem dX8_side_20 : decode cX8_side 20 = .ok (.getfield 102, 3) := by decide +kernel
theorem dX8_side_23 : decode cX8_side 23 = .ok (.iload_n 1, 1) := by decide +kernel
theorem dX8_side_24 : decode cX8_side 24 = .ok (.laload, 1) := by decide +kernel
theorem dX8_side_25 : decode cX8_side 25 = .ok (.lmul, 1) := by decide +kernel
theorem dX8_side_26 : decode cX8_side 26 = .ok (.lsub, 1) := by decide +kernel
theorem dX8_side_27 : decode cX8_side 27 = .ok (.aload_n 0, 1) := by decide +kernel
theorem dX8_side_28 : decode cX8_side 28 = .ok (.getfield 105, 3) := by decide +kernel
theorem dX8_side_31 : decode cX8_side 31 = .ok (.iload_n 3, 1) := by decide +kernel
theorem dX8_side_32 : decode cX8_side 32 = .ok (.laload, 1) := by decide +kernel
theorem dX8_side_33 : decode cX8_side 33 = .ok (.lmul, 1) := by decide +kernel
theorem dX8_side_34 : decode cX8_side 34 = .ok (.aload_n 0, 1) := by decide +kernel
theorem dX8_side_35 : decode cX8_side 35 = .ok (.getfield 105, 3) := by decide +kernel
theorem dX8_side_38 : decode cX8_side 38 = .ok (.iload 4, 2) := by decide +kernel
theorem dX8_side_40 : decode cX8_side 40 = .ok (.laload, 1) := by decide +kernel
theorem dX8_side_41 : decode cX8_side 41 = .ok (.lmul, 1) := by decide +kernel
theorem dX8_side_42 : decode cX8_side 42 = .ok (.lreturn, 1) := by decide +kernel
def mX8_side : MM := (yX8_side, cX8_side, 5, Option.some Jvm.ClassFile.FieldType.long, { frames := 0, cells := 0, slots := 0, locals := 0 })
def fX8_side (σ0 : SS) (a1 : Int32) (a2 : Int32) (a3 : Int32) (a4 : Int32) : Option Int64 :=
  grd (inb a1 4) <|
  grd (inb a2 4) <|
  grd (inb a3 4) <|
  grd (inb a4 4) <|
  some (((((gL σ0 103 (Int32.toNatClampNeg a1)) * (gL σ0 104 (Int32.toNatClampNeg a2))) - ((gL σ0 103 (Int32.toNatClampNeg a2)) * (gL σ0 104 (Int32.toNatClampNeg a1)))) * (gL σ0 105 (Int32.toNatClampNeg a3))) * (gL σ0 105 (Int32.toNatClampNeg a4)))

set_option maxRecDepth 20000 in
theorem sX8_side {g : GG} {σ0 : SS} {a1 : Int32} {a2 : Int32} {a3 : Int32} {a4 : Int32} {r : Int64} (hr : fX8_side σ0 a1 a2 a3 a4 = some r)  : Ct g mX8_side [.ref (ad g 73), .int a1, .int a2, .int a3, .int a4] NF σ0 (some (.long r)) NF σ0 := by
  refine Ct.of (by decide +kernel) (nle rfl) fun hw0 => ?_
  have hw := hw0 rfl
  unfold fX8_side at hr
  change RR g mX8_side (FinR g mX8_side (some (.long r)) NF σ0) zF 0 [(0, .ref (ad g 73)), (1, .int a1), (2, .int a2), (3, .int a3), (4, .int a4)] [] σ0
  refine r_aload_n (pc := 0) (j := 0) dX8_side_0 rfl rfl ?_
  refine gf8_46 (pc := 1) tw_5_140 hw dX8_side_1 ?_
  refine r_iload_n (pc := 4) (j := 1) dX8_side_4 rfl rfl ?_
  obtain ⟨h1, hr⟩ := grd_inv hr
  refine x_lald (pc := 5) (k := (Int32.toNatClampNeg a1)) rfl h1 rfl dX8_side_5 ?_
  refine r_aload_n (pc := 6) (j := 0) dX8_side_6 rfl rfl ?_
  refine gf8_47 (pc := 7) tw_5_141 hw dX8_side_7 ?_
  refine r_iload_n (pc := 10) (j := 2) dX8_side_10 rfl rfl ?_
  obtain ⟨h2, hr⟩ := grd_inv hr
  refine x_lald (pc := 11) (k := (Int32.toNatClampNeg a2)) rfl h2 rfl dX8_side_11 ?_
  refine r_lmul (pc := 12) dX8_side_12 ?_
  refine r_aload_n (pc := 13) (j := 0) dX8_side_13 rfl rfl ?_
  refine gf8_46 (pc := 14) tw_5_140 hw dX8_side_14 ?_
  refine r_iload_n (pc := 17) (j := 2) dX8_side_17 rfl rfl ?_
  refine x_lald (pc := 18) (k := (Int32.toNatClampNeg a2)) rfl h2 rfl dX8_side_18 ?_
  refine r_aload_n (pc := 19) (j := 0) dX8_side_19 rfl rfl ?_
  refine gf8_47 (pc := 20) tw_5_141 hw dX8_side_20 ?_
  refine r_iload_n (pc := 23) (j := 1) dX8_side_23 rfl rfl ?_
  refine x_lald (pc := 24) (k := (Int32.toNatClampNeg a1)) rfl h1 rfl dX8_side_24 ?_
  refine r_lmul (pc := 25) dX8_side_25 ?_
  refine r_lsub (pc := 26) dX8_side_26 ?_
  refine r_aload_n (pc := 27) (j := 0) dX8_side_27 rfl rfl ?_
  refine gf8_48 (pc := 28) tw_5_142 hw dX8_side_28 ?_
  refine r_iload_n (pc := 31) (j := 3) dX8_side_31 rfl rfl ?_
  obtain ⟨h3, hr⟩ := grd_inv hr
  refine x_lald (pc := 32) (k := (Int32.toNatClampNeg a3)) rfl h3 rfl dX8_side_32 ?_
  refine r_lmul (pc := 33) dX8_side_33 ?_
  refine r_aload_n (pc := 34) (j := 0) dX8_side_34 rfl rfl ?_
  refine gf8_48 (pc := 35) tw_5_142 hw dX8_side_35 ?_
  refine r_iload (pc := 38) (j := 4) dX8_side_38 rfl ?_
  obtain ⟨h4, hr⟩ := grd_inv hr
  refine x_lald (pc := 40) (k := (Int32.toNatClampNeg a4)) rfl h4 rfl dX8_side_40 ?_
  refine r_lmul (pc := 41) dX8_side_41 ?_
  exact l_opl hr (r_lret (pc := 42) (v := (((((gL σ0 103 (Int32.toNatClampNeg a1)) * (gL σ0 104 (Int32.toNatClampNeg a2))) - ((gL σ0 103 (Int32.toNatClampNeg a2)) * (gL σ0 104 (Int32.toNatClampNeg a1)))) * (gL σ0 105 (Int32.toNatClampNeg a3))) * (gL σ0 105 (Int32.toNatClampNeg a4)))) rfl rfl ⟨Nat.le_refl _, Nat.le_refl _⟩ dX8_side_42)

theorem kX8_side {g : GG} {σ0 : SS} {a1 : Int32} {a2 : Int32} {a3 : Int32} {a4 : Int32} {v : Int64} {M : MM} {F : State → Array Value → List Frame → State → Prop} {pc index : Nat} {ls : List (Nat × Value)} {rest : List Value} (hf : fX8_side σ0 a1 a2 a3 a4 = some v)  (hl : Cond.methodLink M.1.cls index yX8_side ∈ lw_gt) (hR : mX8_side.2.2.2.2.frames + 1 ≤ M.2.2.2.2.frames ∧ 8 + (mX8_side.2.2.1 + 11) + mX8_side.2.2.2.2.locals ≤ M.2.2.2.2.locals) (hrest : (rest.map fun v => v.category).sum ≤ 8) (hd : decode M.2.1 pc = .ok (.invokevirtual index, 3)) (k : RR g M F zF (pc + 3) ls (.long v :: rest) σ0) : RR g M F zF pc ls (.int a4 :: .int a3 :: .int a2 :: .int a1 :: .ref (ad g 73) :: rest) σ0 :=
  r_callV (z := zF) (N := mX8_side) (nn := 4) (o1 := some (.long v)) (sX8_side hf ) (rfl : shp 73 = (8, 0)) (by decide) (shp_le (rfl : shp 73 = (8, 0)) (nle rfl)) (ci := 8) rfl rfl tw_7_70 tw_1_10 hl tw_7_69 tp_69 ⟨by decide, by decide, rfl⟩ hR rfl hrest hd ⟨Nat.zero_le _, Nat.zero_le _⟩ rfl (fun h => k)

theorem dX8_shape_0 : decode cX8_shape 0 = .ok (.iload_n 1, 1) := by decide +kernel
theorem dX8_shape_1 : decode cX8_shape 1 = .ok (.iconst 0, 1) := by decide +kernel
theorem dX8_shape_2 : decode cX8_shape 2 = .ok (.iconst 2, 1) := by decide +kernel
theorem dX8_shape_3 : decode cX8_shape 3 = .ok (.invokestatic 165, 3) := by decide +kernel
theorem dX8_shape_6 : decode cX8_shape 6 = .ok (.ifCond .ne 5, 3) := by decide +kernel
theorem dX8_shape_9 : decode cX8_shape 9 = .ok (.iconst (-1), 1) := by decide +kernel
theorem dX8_shape_10 : decode cX8_shape 10 = .ok (.ireturn, 1) := by decide +kernel
theorem dX8_shape_11 : decode cX8_shape 11 = .ok (.aload_n 0, 1) := by decide +kernel
theorem dX8_shape_12 : decode cX8_shape 12 = .ok (.invokevirtual 332, 3) := by decide +kernel
theorem dX8_shape_15 : decode cX8_shape 15 = .ok (.aload_n 0, 1) := by decide +kernel
theorem dX8_shape_16 : decode cX8_shape 16 = .ok (.getfield 326, 3) := by decide +kernel
theorem dX8_shape_19 : decode cX8_shape 19 = .ok (.ifCond .ne 6, 3) := by decide +kernel
theorem dX8_shape_22 : decode cX8_shape 22 = .ok (.bipush (-2), 2) := by decide +kernel
theorem dX8_shape_24 : decode cX8_shape 24 = .ok (.ireturn, 1) := by decide +kernel
theorem dX8_shape_25 : decode cX8_shape 25 = .ok (.iload_n 1, 1) := by decide +kernel
theorem dX8_shape_26 : decode cX8_shape 26 = .ok (.ifCond .ne 54, 3) := by decide +kernel
theorem dX8_shape_29 : decode cX8_shape 29 = .ok (.aload_n 0, 1) := by decide +kernel
theorem dX8_shape_30 : decode cX8_shape 30 = .ok (.iconst 0, 1) := by decide +kernel
theorem dX8_shape_31 : decode cX8_shape 31 = .ok (.iconst 1, 1) := by decide +kernel
theorem dX8_shape_32 : decode cX8_shape 32 = .ok (.iconst 3, 1) := by decide +kernel
theorem dX8_shape_33 : decode cX8_shape 33 = .ok (.invokevirtual 335, 3) := by decide +kernel
theorem dX8_shape_36 : decode cX8_shape 36 = .ok (.istore_n 2, 1) := by decide +kernel
theorem dX8_shape_37 : decode cX8_shape 37 = .ok (.iload_n 2, 1) := by decide +kernel
theorem dX8_shape_38 : decode cX8_shape 38 = .ok (.ifCond .eq 40, 3) := by decide +kernel
theorem dX8_shape_41 : decode cX8_shape 41 = .ok (.aload_n 0, 1) := by decide +kernel
theorem dX8_shape_42 : decode cX8_shape 42 = .ok (.iconst 1, 1) := by decide +kernel
theorem dX8_shape_43 : decode cX8_shape 43 = .ok (.iconst 3, 1) := by decide +kernel
theorem dX8_shape_44 : decode cX8_shape 44 = .ok (.iconst 2, 1) := by decide +kernel
theorem dX8_shape_45 : decode cX8_shape 45 = .ok (.invokevirtual 335, 3) := by decide +kernel
theorem dX8_shape_48 : decode cX8_shape 48 = .ok (.iload_n 2, 1) := by decide +kernel
theorem dX8_shape_49 : decode cX8_shape 49 = .ok (.if_icmp .ne 29, 3) := by decide +kernel
theorem dX8_shape_52 : decode cX8_shape 52 = .ok (.aload_n 0, 1) := by decide +kernel
theorem dX8_shape_53 : decode cX8_shape 53 = .ok (.iconst 3, 1) := by decide +kernel
theorem dX8_shape_54 : decode cX8_shape 54 = .ok (.iconst 2, 1) := by decide +kernel
theorem dX8_shape_55 : decode cX8_shape 55 = .ok (.iconst 0, 1) := by decide +kernel
theorem dX8_shape_56 : decode cX8_shape 56 = .ok (.invokevirtual 335, 3) := by decide +kernel
theorem dX8_shape_59 : decode cX8_shape 59 = .ok (.iload_n 2, 1) := by decide +kernel
theorem dX8_shape_60 : decode cX8_shape 60 = .ok (.if_icmp .ne 18, 3) := by decide +kernel
theorem dX8_shape_63 : decode cX8_shape 63 = .ok (.aload_n 0, 1) := by decide +kernel
theorem dX8_shape_64 : decode cX8_shape 64 = .ok (.iconst 2, 1) := by decide +kernel
theorem dX8_shape_65 : decode cX8_shape 65 = .ok (.iconst 0, 1) := by decide +kernel
theorem dX8_shape_66 : decode cX8_shape 66 = .ok (.iconst 1, 1) := by decide +kernel
theorem dX8_shape_67 : decode cX8_shape 67 = .ok (.invokevirtual 335, 3) := by decide +kernel
theorem dX8_shape_70 : decode cX8_shape 70 = .ok (.iload_n 2, 1) := by decide +kernel
theorem dX8_shape_71 : decode cX8_shape 71 = .ok (.if_icmp .ne 7, 3) := by decide +kernel
theorem dX8_shape_74 : decode cX8_shape 74 = .ok (.iconst 1, 1) := by decide +kernel
theorem dX8_shape_75 : decode cX8_shape 75 = .ok (.goto 4, 3) := by decide +kernel
theorem dX8_shape_78 : decode cX8_shape 78 = .ok (.iconst 0, 1) := by decide +kernel
theorem dX8_shape_79 : decode cX8_shape 79 = .ok (.ireturn, 1) := by decide +kernel
theorem dX8_shape_80 : decode cX8_shape 80 = .ok (.iload_n 1, 1) := by decide +kernel
theorem dX8_shape_81 : decode cX8_shape 81 = .ok (.iconst 1, 1) := by decide +kernel
theorem dX8_shape_82 : decode cX8_shape 82 = .ok (.if_icmp .ne 89, 3) := by decide +kernel
theorem dX8_shape_85 : decode cX8_shape 85 = .ok (.aload_n 0, 1) := by decide +kernel
theorem dX8_shape_86 : decode cX8_shape 86 = .ok (.iconst 0, 1) := by decide +kernel
theorem dX8_shape_87 : decode cX8_shape 87 = .ok (.iconst 1, 1) := by decide +kernel
theorem dX8_shape_88 : decode cX8_shape 88 = .ok (.iconst 2, 1) := by decide +kernel
theorem dX8_shape_89 : decode cX8_shape 89 = .ok (.iconst 3, 1) := by decide +kernel
theorem dX8_shape_90 : decode cX8_shape 90 = .ok (.invokevirtual 339, 3) := by decide +kernel
theorem dX8_shape_93 : decode cX8_shape 93 = .ok (.aload_n 0, 1) := by decide +kernel
theorem dX8_shape_94 : decode cX8_shape 94 = .ok (.iconst 1, 1) := by decide +kernel
theorem dX8_shape_95 : decode cX8_shape 95 = .ok (.iconst 3, 1) := by decide +kernel
theorem dX8_shape_96 : decode cX8_shape 96 = .ok (.iconst 0, 1) := by decide +kernel
theorem dX8_shape_97 : decode cX8_shape 97 = .ok (.iconst 2, 1) := by decide +kernel
theorem dX8_shape_98 : decode cX8_shape 98 = .ok (.invokevirtual 339, 3) := by decide +kernel
theorem dX8_shape_101 : decode cX8_shape 101 = .ok (.ladd, 1) := by decide +kernel
theorem dX8_shape_102 : decode cX8_shape 102 = .ok (.aload_n 0, 1) := by decide +kernel
theorem dX8_shape_103 : decode cX8_shape 103 = .ok (.iconst 3, 1) := by decide +kernel
theorem dX8_shape_104 : decode cX8_shape 104 = .ok (.iconst 2, 1) := by decide +kernel
theorem dX8_shape_105 : decode cX8_shape 105 = .ok (.iconst 0, 1) := by decide +kernel
theorem dX8_shape_106 : decode cX8_shape 106 = .ok (.iconst 1, 1) := by decide +kernel
theorem dX8_shape_107 : decode cX8_shape 107 = .ok (.invokevirtual 339, 3) := by decide +kernel
theorem dX8_shape_110 : decode cX8_shape 110 = .ok (.ladd, 1) := by decide +kernel
theorem dX8_shape_111 : decode cX8_shape 111 = .ok (.aload_n 0, 1) := by decide +kernel
theorem dX8_shape_112 : decode cX8_shape 112 = .ok (.iconst 2, 1) := by decide +kernel
theorem dX8_shape_113 : decode cX8_shape 113 = .ok (.iconst 0, 1) := by decide +kernel
theorem dX8_shape_114 : decode cX8_shape 114 = .ok (.iconst 1, 1) := by decide +kernel
theorem dX8_shape_115 : decode cX8_shape 115 = .ok (.iconst 3, 1) := by decide +kernel
theorem dX8_shape_116 : decode cX8_shape 116 = .ok (.invokevirtual 339, 3) := by decide +kernel
theorem dX8_shape_119 : decode cX8_shape 119 = .ok (.ladd, 1) := by decide +kernel
theorem dX8_shape_120 : decode cX8_shape 120 = .ok (.lstore_n 2, 1) := by decide +kernel
theorem dX8_shape_121 : decode cX8_shape 121 = .ok (.ldc2_w 343, 3) := by decide +kernel
theorem dX8_shape_124 : decode cX8_shape 124 = .ok (.aload_n 0, 1) := by decide +kernel
theorem dX8_shape_125 : decode cX8_shape 125 = .ok (.getfield 105, 3) := by decide +kernel
theorem dX8_shape_128 : decode cX8_shape 128 = .ok (.iconst 0, 1) := by decide +kernel
theorem dX8_shape_129 : decode cX8_shape 129 = .ok (.laload, 1) := by decide +kernel
theorem dX8_shape_130 : decode cX8_shape 130 = .ok (.lmul, 1) := by decide +kernel
theorem dX8_shape_131 : decode cX8_shape 131 = .ok (.aload_n 0, 1) := by decide +kernel
theorem dX8_shape_132 : decode cX8_shape 132 = .ok (.getfield 105, 3) := by decide +kernel
theorem dX8_shape_135 : decode cX8_shape 135 = .ok (.iconst 1, 1) := by decide +kernel
theorem dX8_shape_136 : decode cX8_shape 136 = .ok (.laload, 1) := by decide +kernel
theorem dX8_shape_137 : decode cX8_shape 137 = .ok (.lmul, 1) := by decide +kernel
theorem dX8_shape_138 : decode cX8_shape 138 = .ok (.aload_n 0, 1) := by decide +kernel
theorem dX8_shape_139 : decode cX8_shape 139 = .ok (.getfield 105, 3) := by decide +kernel
theorem dX8_shape_142 : decode cX8_shape 142 = .ok (.iconst 2, 1) := by decide +kernel
theorem dX8_shape_143 : decode cX8_shape 143 = .ok (.laload, 1) := by decide +kernel
theorem dX8_shape_144 : decode cX8_shape 144 = .ok (.lmul, 1) := by decide +kernel
theorem dX8_shape_145 : decode cX8_shape 145 = .ok (.aload_n 0, 1) := by decide +kernel
theorem dX8_shape_146 : decode cX8_shape 146 = .ok (.getfield 105, 3) := by decide +kernel
theorem dX8_shape_149 : decode cX8_shape 149 = .ok (.iconst 3, 1) := by decide +kernel
theorem dX8_shape_150 : decode cX8_shape 150 = .ok (.laload, 1) := by decide +kernel
theorem dX8_shape_151 : decode cX8_shape 151 = .ok (.lmul, 1) := by decide +kernel
theorem dX8_shape_152 : decode cX8_shape 152 = .ok (.lstore 4, 2) := by decide +kernel
theorem dX8_shape_154 : decode cX8_shape 154 = .ok (.lload_n 2, 1) := by decide +kernel
theorem dX8_shape_155 : decode cX8_shape 155 = .ok (.lconst 0, 1) := by decide +kernel
theorem dX8_shape_156 : decode cX8_shape 156 = .ok (.lcmp, 1) := by decide +kernel
theorem dX8_shape_157 : decode cX8_shape 157 = .ok (.ifCond .ge 8, 3) := by decide +kernel
theorem dX8_shape_160 : decode cX8_shape 160 = .ok (.lload_n 2, 1) := by decide +kernel
theorem dX8_shape_161 : decode cX8_shape 161 = .ok (.lneg, 1) := by decide +kernel
theorem dX8_shape_162 : decode cX8_shape 162 = .ok (.goto 4, 3) := by decide +kernel
theorem dX8_shape_165 : decode cX8_shape 165 = .ok (.lload_n 2, 1) := by decide +kernel
theorem dX8_shape_166 : decode cX8_shape 166 = .ok (.lload 4, 2) := by decide +kernel
theorem dX8_shape_168 : decode cX8_shape 168 = .ok (.ldiv, 1) := by decide +kernel
theorem dX8_shape_169 : decode cX8_shape 169 = .ok (.l2i, 1) := by decide +kernel
theorem dX8_shape_170 : decode cX8_shape 170 = .ok (.ireturn, 1) := by decide +kernel
theorem dX8_shape_171 : decode cX8_shape 171 = .ok (.aload_n 0, 1) := by decide +kernel
theorem dX8_shape_172 : decode cX8_shape 172 = .ok (.getfield 102, 3) := by decide +kernel
theorem dX8_shape_175 : decode cX8_shape 175 = .ok (.iconst 1, 1) := by decide +kernel
theorem dX8_shape_176 : decode cX8_shape 176 = .ok (.laload, 1) := by decide +kernel
theorem dX8_shape_177 : decode cX8_shape 177 = .ok (.aload_n 0, 1) := by decide +kernel
theorem dX8_shape_178 : decode cX8_shape 178 = .ok (.getfield 105, 3) := by decide +kernel
theorem dX8_shape_181 : decode cX8_shape 181 = .ok (.iconst 0, 1) := by decide +kernel
theorem dX8_shape_182 : decode cX8_shape 182 = .ok (.laload, 1) := by decide +kernel
theorem dX8_shape_183 : decode cX8_shape 183 = .ok (.lmul, 1) := by decide +kernel
theorem dX8_shape_184 : decode cX8_shape 184 = .ok (.aload_n 0, 1) := by decide +kernel
theorem dX8_shape_185 : decode cX8_shape 185 = .ok (.getfield 102, 3) := by decide +kernel
theorem dX8_shape_188 : decode cX8_shape 188 = .ok (.iconst 0, 1) := by decide +kernel
theorem dX8_shape_189 : decode cX8_shape 189 = .ok (.laload, 1) := by decide +kernel
theorem dX8_shape_190 : decode cX8_shape 190 = .ok (.aload_n 0, 1) := by decide +kernel
theorem dX8_shape_191 : decode cX8_shape 191 = .ok (.getfield 105, 3) := by decide +kernel
theorem dX8_shape_194 : decode cX8_shape 194 = .ok (.iconst 1, 1) := by decide +kernel
theorem dX8_shape_195 : decode cX8_shape 195 = .ok (.laload, 1) := by decide +kernel
theorem dX8_shape_196 : decode cX8_shape 196 = .ok (.lmul, 1) := by decide +kernel
theorem dX8_shape_197 : decode cX8_shape 197 = .ok (.lsub, 1) := by decide +kernel
theorem dX8_shape_198 : decode cX8_shape 198 = .ok (.lstore_n 2, 1) := by decide +kernel
theorem dX8_shape_199 : decode cX8_shape 199 = .ok (.lload_n 2, 1) := by decide +kernel
theorem dX8_shape_200 : decode cX8_shape 200 = .ok (.lconst 0, 1) := by decide +kernel
theorem dX8_shape_201 : decode cX8_shape 201 = .ok (.lcmp, 1) := by decide +kernel
theorem dX8_shape_202 : decode cX8_shape 202 = .ok (.ifCond .ne 7, 3) := by decide +kernel
theorem dX8_shape_205 : decode cX8_shape 205 = .ok (.iconst 0, 1) := by decide +kernel
theorem dX8_shape_206 : decode cX8_shape 206 = .ok (.goto 14, 3) := by decide +kernel
theorem dX8_shape_209 : decode cX8_shape 209 = .ok (.lload_n 2, 1) := by decide +kernel
theorem dX8_shape_210 : decode cX8_shape 210 = .ok (.lconst 0, 1) := by decide +kernel
theorem dX8_shape_211 : decode cX8_shape 211 = .ok (.lcmp, 1) := by decide +kernel
theorem dX8_shape_212 : decode cX8_shape 212 = .ok (.ifCond .le 7, 3) := by decide +kernel
theorem dX8_shape_215 : decode cX8_shape 215 = .ok (.iconst 1, 1) := by decide +kernel
theorem dX8_shape_216 : decode cX8_shape 216 = .ok (.goto 4, 3) := by decide +kernel
theorem dX8_shape_219 : decode cX8_shape 219 = .ok (.iconst 2, 1) := by decide +kernel
theorem dX8_shape_220 : decode cX8_shape 220 = .ok (.ireturn, 1) := by decide +kernel
def mX8_shape : MM := (yX8_shape, cX8_shape, 6, Option.some Jvm.ClassFile.FieldType.int, { frames := 6, cells := 0, slots := 0, locals := 135 })
def fX8_shape (σ : SS) (a1 : Int32) : Option (Int32 × SS) :=
  if (fX8_in σ a1 (0 : Int32) (2 : Int32)) = true then (
    bnd1 (fX8_laysMarks σ) fun σ1 =>
    if (gI σ1 73 49) = 0 then (
      some ((-2 : Int32), σ1)
      ) else (
      if a1 = 0 then (
        bnd1 (fX8_turnAt σ1 (0 : Int32) (1 : Int32) (3 : Int32)) fun v19 =>
        vthen (fun (_u : Unit) =>
          some ((0 : Int32), σ1)
          ) fun j78 =>
        if v19 = 0 then (
          j78 ()
          ) else (
          bnd1 (fX8_turnAt σ1 (1 : Int32) (3 : Int32) (2 : Int32)) fun v22 =>
          if v22 = v19 then (
            bnd1 (fX8_turnAt σ1 (3 : Int32) (2 : Int32) (0 : Int32)) fun v25 =>
            if v25 = v19 then (
              bnd1 (fX8_turnAt σ1 (2 : Int32) (0 : Int32) (1 : Int32)) fun v28 =>
              if v28 = v19 then (
                some ((1 : Int32), σ1)
                ) else (
                j78 ()
                )
              ) else (
              j78 ()
              )
            ) else (
            j78 ()
            )
          )
        ) else (
        if a1 = (1 : Int32) then (
          bnd1 (fX8_side σ1 (0 : Int32) (1 : Int32) (2 : Int32) (3 : Int32)) fun w5 =>
          bnd1 (fX8_side σ1 (1 : Int32) (3 : Int32) (0 : Int32) (2 : Int32)) fun w8 =>
          bnd1 (fX8_side σ1 (3 : Int32) (2 : Int32) (0 : Int32) (1 : Int32)) fun w11 =>
          bnd1 (fX8_side σ1 (2 : Int32) (0 : Int32) (1 : Int32) (3 : Int32)) fun w14 =>
          vthen (((w5 + w8) + w11) + w14) fun w15 =>
          vthen (((((2 : Int64) * (gL σ1 105 0)) * (gL σ1 105 1)) * (gL σ1 105 2)) * (gL σ1 105 3)) fun w16 =>
          vthen (fun (s17 : Int64) =>
            grd (nzl w16) <|
            some ((Int64.toInt32 (s17 / w16)), σ1)
            ) fun j166 =>
          if 0 ≤ (lg_cmp w15 (0 : Int64)) then (
            j166 w15
            ) else (
            j166 (-w15)
            )
          ) else (
          vthen (((gL σ1 104 1) * (gL σ1 105 0)) - ((gL σ1 104 0) * (gL σ1 105 1))) fun w2 =>
          if (lg_cmp w2 (0 : Int64)) = 0 then (
            some ((0 : Int32), σ1)
            ) else (
            if (lg_cmp w2 (0 : Int64)) ≤ 0 then (
              some ((2 : Int32), σ1)
              ) else (
              some ((1 : Int32), σ1)
              )
            )
          )
        )
      )
    ) else (
    some ((-1 : Int32), σ)
    )

set_option maxRecDepth 20000 in
theorem sX8_shape {g : GG} {σ : SS} {a1 : Int32} {r : Int32 × SS} (hr : fX8_shape σ a1 = some r)  : Ct g mX8_shape [.ref (ad g 73), .int a1] NF σ (some (.int r.1)) NF r.2 := by
  refine Ct.of (by decide +kernel) (nle rfl) fun hw0 => ?_
  have hw := hw0 rfl
  unfold fX8_shape at hr
  change RR g mX8_shape (FinR g mX8_shape (some (.int r.1)) NF r.2) zF 0 [(0, .ref (ad g 73)), (1, .int a1)] [] σ
  refine r_iload_n (pc := 0) (j := 1) dX8_shape_0 rfl rfl ?_
  refine r_iconst (pc := 1) (v := (0 : Int32)) dX8_shape_1 rfl ?_
  refine r_iconst (pc := 2) (v := (2 : Int32)) dX8_shape_2 rfl ?_
  refine kX8_in (pc := 3) (hf := rfl) tw_6_65 ⟨nle rfl, nle rfl⟩ (nle rfl) dX8_shape_3 ?_
  refine r_ifB_ne (pc := 6) (tgt := 11) dX8_shape_6 rfl (fun hc => ?_) (fun hc => ?_)
  · replace hr := ite_t hc hr
    refine r_aload_n (pc := 11) (j := 0) dX8_shape_11 rfl rfl ?_
    obtain ⟨σ1, eσ1, hr⟩ := bnd1_inv hr
    refine kX8_laysMarks (pc := 12) eσ1 tw_7_47 ⟨nle rfl, nle rfl⟩ (nle rfl) dX8_shape_12 fun hσ1 => ?_
    refine r_aload_n (pc := 15) (j := 0) dX8_shape_15 rfl rfl ?_
    refine gf8_49 (pc := 16) tw_5_143 rfl dX8_shape_16 ?_
    refine r_if_ne (pc := 19) (tgt := 25) dX8_shape_19 rfl (fun hc => ?_) (fun hc => ?_)
    · replace hr := ite_f hc hr
      refine r_iload_n (pc := 25) (j := 1) dX8_shape_25 rfl rfl ?_
      refine r_if_ne (pc := 26) (tgt := 80) dX8_shape_26 rfl (fun hc => ?_) (fun hc => ?_)
      · replace hr := ite_f hc hr
        refine r_iload_n (pc := 80) (j := 1) dX8_shape_80 rfl rfl ?_
        refine r_iconst (pc := 81) (v := (1 : Int32)) dX8_shape_81 rfl ?_
        refine r_icmp_ne (pc := 82) (tgt := 171) dX8_shape_82 rfl (fun hc => ?_) (fun hc => ?_)
        · replace hr := ite_f hc hr
          refine r_aload_n (pc := 171) (j := 0) dX8_shape_171 rfl rfl ?_
          refine gf8_47 (pc := 172) tw_5_141 hσ1 dX8_shape_172 ?_
          refine r_iconst (pc := 175) (v := (1 : Int32)) dX8_shape_175 rfl ?_
          refine x_lald (pc := 176) (k := 1) rfl (by decide) rfl dX8_shape_176 ?_
          refine r_aload_n (pc := 177) (j := 0) dX8_shape_177 rfl rfl ?_
          refine gf8_48 (pc := 178) tw_5_142 hσ1 dX8_shape_178 ?_
          refine r_iconst (pc := 181) (v := (0 : Int32)) dX8_shape_181 rfl ?_
          refine x_lald (pc := 182) (k := 0) rfl (by decide) rfl dX8_shape_182 ?_
          refine r_lmul (pc := 183) dX8_shape_183 ?_
          refine r_aload_n (pc := 184) (j := 0) dX8_shape_184 rfl rfl ?_
          refine gf8_47 (pc := 185) tw_5_141 hσ1 dX8_shape_185 ?_
          refine r_iconst (pc := 188) (v := (0 : Int32)) dX8_shape_188 rfl ?_
          refine x_lald (pc := 189) (k := 0) rfl (by decide) rfl dX8_shape_189 ?_
          refine r_aload_n (pc := 190) (j := 0) dX8_shape_190 rfl rfl ?_
          refine gf8_48 (pc := 191) tw_5_142 hσ1 dX8_shape_191 ?_
          refine r_iconst (pc := 194) (v := (1 : Int32)) dX8_shape_194 rfl ?_
          refine x_lald (pc := 195) (k := 1) rfl (by decide) rfl dX8_shape_195 ?_
          refine r_lmul (pc := 196) dX8_shape_196 ?_
          refine r_lsub (pc := 197) dX8_shape_197 ?_
          refine r_topl fun w2 ew2 => ?_
          replace hr := vthen_inv hr w2 ew2
          refine r_lstore_n (pc := 198) (ls1 := [(2, .long w2), (0, .ref (ad g 73)), (1, .int a1)]) dX8_shape_198 rfl (nle rfl) rfl ?_
          refine r_lload_n (pc := 199) (j := 0) dX8_shape_199 rfl rfl ?_
          refine r_lconst (pc := 200) (v := (0 : Int64)) dX8_shape_200 rfl ?_
          refine r_lcmp (pc := 201) dX8_shape_201 ?_
          refine r_if_ne (pc := 202) (tgt := 209) dX8_shape_202 rfl (fun hc => ?_) (fun hc => ?_)
          · replace hr := ite_f hc hr
            refine r_lload_n (pc := 209) (j := 0) dX8_shape_209 rfl rfl ?_
            refine r_lconst (pc := 210) (v := (0 : Int64)) dX8_shape_210 rfl ?_
            refine r_lcmp (pc := 211) dX8_shape_211 ?_
            refine r_if_le (pc := 212) (tgt := 219) dX8_shape_212 rfl (fun hc => ?_) (fun hc => ?_)
            · replace hr := ite_t hc hr
              refine r_iconst (pc := 219) (v := (2 : Int32)) dX8_shape_219 rfl ?_
              exact l_osi hr (r_iret (pc := 220) (v := (2 : Int32)) rfl rfl ⟨Nat.le_refl _, Nat.le_refl _⟩ dX8_shape_220)
            replace hr := ite_f hc hr
            refine r_iconst (pc := 215) (v := (1 : Int32)) dX8_shape_215 rfl ?_
            refine r_goto (pc := 216) (tgt := 220) dX8_shape_216 rfl ?_
            exact l_osi hr (r_iret (pc := 220) (v := (1 : Int32)) rfl rfl ⟨Nat.le_refl _, Nat.le_refl _⟩ dX8_shape_220)
          replace hr := ite_t hc hr
          refine r_iconst (pc := 205) (v := (0 : Int32)) dX8_shape_205 rfl ?_
          refine r_goto (pc := 206) (tgt := 220) dX8_shape_206 rfl ?_
          exact l_osi hr (r_iret (pc := 220) (v := (0 : Int32)) rfl rfl ⟨Nat.le_refl _, Nat.le_refl _⟩ dX8_shape_220)
        replace hr := ite_t hc hr
        refine r_aload_n (pc := 85) (j := 0) dX8_shape_85 rfl rfl ?_
        refine r_iconst (pc := 86) (v := (0 : Int32)) dX8_shape_86 rfl ?_
        refine r_iconst (pc := 87) (v := (1 : Int32)) dX8_shape_87 rfl ?_
        refine r_iconst (pc := 88) (v := (2 : Int32)) dX8_shape_88 rfl ?_
        refine r_iconst (pc := 89) (v := (3 : Int32)) dX8_shape_89 rfl ?_
        obtain ⟨w5, hw5, hr⟩ := bnd1_inv hr
        refine kX8_side (pc := 90) hw5 tw_7_67 ⟨nle rfl, nle rfl⟩ (nle rfl) dX8_shape_90 ?_
        refine r_aload_n (pc := 93) (j := 0) dX8_shape_93 rfl rfl ?_
        refine r_iconst (pc := 94) (v := (1 : Int32)) dX8_shape_94 rfl ?_
        refine r_iconst (pc := 95) (v := (3 : Int32)) dX8_shape_95 rfl ?_
        refine r_iconst (pc := 96) (v := (0 : Int32)) dX8_shape_96 rfl ?_
        refine r_iconst (pc := 97) (v := (2 : Int32)) dX8_shape_97 rfl ?_
        obtain ⟨w8, hw8, hr⟩ := bnd1_inv hr
        refine kX8_side (pc := 98) hw8 tw_7_67 ⟨nle rfl, nle rfl⟩ (nle rfl) dX8_shape_98 ?_
        refine r_ladd (pc := 101) dX8_shape_101 ?_
        refine r_aload_n (pc := 102) (j := 0) dX8_shape_102 rfl rfl ?_
        refine r_iconst (pc := 103) (v := (3 : Int32)) dX8_shape_103 rfl ?_
        refine r_iconst (pc := 104) (v := (2 : Int32)) dX8_shape_104 rfl ?_
        refine r_iconst (pc := 105) (v := (0 : Int32)) dX8_shape_105 rfl ?_
        refine r_iconst (pc := 106) (v := (1 : Int32)) dX8_shape_106 rfl ?_
        obtain ⟨w11, hw11, hr⟩ := bnd1_inv hr
        refine kX8_side (pc := 107) hw11 tw_7_67 ⟨nle rfl, nle rfl⟩ (nle rfl) dX8_shape_107 ?_
        refine r_ladd (pc := 110) dX8_shape_110 ?_
        refine r_aload_n (pc := 111) (j := 0) dX8_shape_111 rfl rfl ?_
        refine r_iconst (pc := 112) (v := (2 : Int32)) dX8_shape_112 rfl ?_
        refine r_iconst (pc := 113) (v := (0 : Int32)) dX8_shape_113 rfl ?_
        refine r_iconst (pc := 114) (v := (1 : Int32)) dX8_shape_114 rfl ?_
        refine r_iconst (pc := 115) (v := (3 : Int32)) dX8_shape_115 rfl ?_
        obtain ⟨w14, hw14, hr⟩ := bnd1_inv hr
        refine kX8_side (pc := 116) hw14 tw_7_67 ⟨nle rfl, nle rfl⟩ (nle rfl) dX8_shape_116 ?_
        refine r_ladd (pc := 119) dX8_shape_119 ?_
        refine r_topl fun w15 ew15 => ?_
        replace hr := vthen_inv hr w15 ew15
        refine r_lstore_n (pc := 120) (ls1 := [(2, .long w15), (0, .ref (ad g 73)), (1, .int a1)]) dX8_shape_120 rfl (nle rfl) rfl ?_
        refine r_ldc2 (pc := 121) (v := (2 : Int64)) dX8_shape_121 tw_7_71 ?_
        refine r_aload_n (pc := 124) (j := 1) dX8_shape_124 rfl rfl ?_
        refine gf8_48 (pc := 125) tw_5_142 hσ1 dX8_shape_125 ?_
        refine r_iconst (pc := 128) (v := (0 : Int32)) dX8_shape_128 rfl ?_
        refine x_lald (pc := 129) (k := 0) rfl (by decide) rfl dX8_shape_129 ?_
        refine r_lmul (pc := 130) dX8_shape_130 ?_
        refine r_aload_n (pc := 131) (j := 1) dX8_shape_131 rfl rfl ?_
        refine gf8_48 (pc := 132) tw_5_142 hσ1 dX8_shape_132 ?_
        refine r_iconst (pc := 135) (v := (1 : Int32)) dX8_shape_135 rfl ?_
        refine x_lald (pc := 136) (k := 1) rfl (by decide) rfl dX8_shape_136 ?_
        refine r_lmul (pc := 137) dX8_shape_137 ?_
        refine r_aload_n (pc := 138) (j := 1) dX8_shape_138 rfl rfl ?_
        refine gf8_48 (pc := 139) tw_5_142 hσ1 dX8_shape_139 ?_
        refine r_iconst (pc := 142) (v := (2 : Int32)) dX8_shape_142 rfl ?_
        refine x_lald (pc := 143) (k := 2) rfl (by decide) rfl dX8_shape_143 ?_
        refine r_lmul (pc := 144) dX8_shape_144 ?_
        refine r_aload_n (pc := 145) (j := 1) dX8_shape_145 rfl rfl ?_
        refine gf8_48 (pc := 146) tw_5_142 hσ1 dX8_shape_146 ?_
        refine r_iconst (pc := 149) (v := (3 : Int32)) dX8_shape_149 rfl ?_
        refine x_lald (pc := 150) (k := 3) rfl (by decide) rfl dX8_shape_150 ?_
        refine r_lmul (pc := 151) dX8_shape_151 ?_
        refine r_topl fun w16 ew16 => ?_
        replace hr := vthen_inv hr w16 ew16
        refine r_lstore (pc := 152) (ls1 := [(4, .long w16), (2, .long w15), (0, .ref (ad g 73)), (1, .int a1)]) dX8_shape_152 (nle rfl) rfl ?_
        refine r_lload_n (pc := 154) (j := 1) dX8_shape_154 rfl rfl ?_
        refine r_lconst (pc := 155) (v := (0 : Int64)) dX8_shape_155 rfl ?_
        refine r_lcmp (pc := 156) dX8_shape_156 ?_
        obtain ⟨j166, ej166, hr⟩ := vth_ex hr
        have hj166 : ∀ (s17 : Int64), j166 s17 = some r → RR g mX8_shape (FinR g mX8_shape (some (.int r.1)) NF r.2) zF 166 [(4, .long w16)] [.long s17] σ1 := by
          intro s17 hr
          replace hr := (congrFun ej166 s17).symm.trans hr
          refine r_lload (pc := 166) (j := 0) dX8_shape_166 rfl ?_
          obtain ⟨h18, hr⟩ := grd_inv hr
          refine r_ldiv (pc := 168) dX8_shape_168 (nzl_ne h18) ?_
          refine r_l2i (pc := 169) dX8_shape_169 ?_
          exact l_osi hr (r_iret (pc := 170) (v := (Int64.toInt32 (s17 / w16))) rfl rfl ⟨Nat.le_refl _, Nat.le_refl _⟩ dX8_shape_170)
        refine r_if_ge (pc := 157) (tgt := 165) dX8_shape_157 rfl (fun hc => ?_) (fun hc => ?_)
        · replace hr := ite_t hc hr
          refine r_lload_n (pc := 165) (j := 1) dX8_shape_165 rfl rfl ?_
          exact r_pick (ls1 := [(4, .long w16)]) [0] rfl (hj166 w15 hr)
        replace hr := ite_f hc hr
        refine r_lload_n (pc := 160) (j := 1) dX8_shape_160 rfl rfl ?_
        refine r_lneg (pc := 161) dX8_shape_161 ?_
        refine r_goto (pc := 162) (tgt := 166) dX8_shape_162 rfl ?_
        exact r_pick (ls1 := [(4, .long w16)]) [0] rfl (hj166 (-w15) hr)
      replace hr := ite_t hc hr
      refine r_aload_n (pc := 29) (j := 0) dX8_shape_29 rfl rfl ?_
      refine r_iconst (pc := 30) (v := (0 : Int32)) dX8_shape_30 rfl ?_
      refine r_iconst (pc := 31) (v := (1 : Int32)) dX8_shape_31 rfl ?_
      refine r_iconst (pc := 32) (v := (3 : Int32)) dX8_shape_32 rfl ?_
      obtain ⟨v19, hv19, hr⟩ := bnd1_inv hr
      refine kX8_turnAt (pc := 33) hv19 tw_7_63 ⟨nle rfl, nle rfl⟩ (nle rfl) dX8_shape_33 ?_
      refine r_istore_n (pc := 36) (ls1 := [(2, .int v19), (0, .ref (ad g 73)), (1, .int a1)]) dX8_shape_36 rfl (nle rfl) rfl ?_
      refine r_iload_n (pc := 37) (j := 0) dX8_shape_37 rfl rfl ?_
      obtain ⟨j78, ej78, hr⟩ := vth_ex hr
      have hj78 : j78 () = some r → RR g mX8_shape (FinR g mX8_shape (some (.int r.1)) NF r.2) zF 78 [] [] σ1 := by
        intro  hr
        replace hr := (congrFun ej78 ()).symm.trans hr
        refine r_iconst (pc := 78) (v := (0 : Int32)) dX8_shape_78 rfl ?_
        exact l_osi hr (r_iret (pc := 79) (v := (0 : Int32)) rfl rfl ⟨Nat.le_refl _, Nat.le_refl _⟩ dX8_shape_79)
      refine r_if_eq (pc := 38) (tgt := 78) dX8_shape_38 rfl (fun hc => ?_) (fun hc => ?_)
      · replace hr := ite_t hc hr
        exact r_pick (ls1 := []) [] rfl (hj78  hr)
      replace hr := ite_f hc hr
      refine r_aload_n (pc := 41) (j := 1) dX8_shape_41 rfl rfl ?_
      refine r_iconst (pc := 42) (v := (1 : Int32)) dX8_shape_42 rfl ?_
      refine r_iconst (pc := 43) (v := (3 : Int32)) dX8_shape_43 rfl ?_
      refine r_iconst (pc := 44) (v := (2 : Int32)) dX8_shape_44 rfl ?_
      obtain ⟨v22, hv22, hr⟩ := bnd1_inv hr
      refine kX8_turnAt (pc := 45) hv22 tw_7_63 ⟨nle rfl, nle rfl⟩ (nle rfl) dX8_shape_45 ?_
      refine r_iload_n (pc := 48) (j := 0) dX8_shape_48 rfl rfl ?_
      refine r_icmp_ne (pc := 49) (tgt := 78) dX8_shape_49 rfl (fun hc => ?_) (fun hc => ?_)
      · replace hr := ite_f hc hr
        exact r_pick (ls1 := []) [] rfl (hj78  hr)
      replace hr := ite_t hc hr
      refine r_aload_n (pc := 52) (j := 1) dX8_shape_52 rfl rfl ?_
      refine r_iconst (pc := 53) (v := (3 : Int32)) dX8_shape_53 rfl ?_
      refine r_iconst (pc := 54) (v := (2 : Int32)) dX8_shape_54 rfl ?_
      refine r_iconst (pc := 55) (v := (0 : Int32)) dX8_shape_55 rfl ?_
      obtain ⟨v25, hv25, hr⟩ := bnd1_inv hr
      refine kX8_turnAt (pc := 56) hv25 tw_7_63 ⟨nle rfl, nle rfl⟩ (nle rfl) dX8_shape_56 ?_
      refine r_iload_n (pc := 59) (j := 0) dX8_shape_59 rfl rfl ?_
      refine r_icmp_ne (pc := 60) (tgt := 78) dX8_shape_60 rfl (fun hc => ?_) (fun hc => ?_)
      · replace hr := ite_f hc hr
        exact r_pick (ls1 := []) [] rfl (hj78  hr)
      replace hr := ite_t hc hr
      refine r_aload_n (pc := 63) (j := 1) dX8_shape_63 rfl rfl ?_
      refine r_iconst (pc := 64) (v := (2 : Int32)) dX8_shape_64 rfl ?_
      refine r_iconst (pc := 65) (v := (0 : Int32)) dX8_shape_65 rfl ?_
      refine r_iconst (pc := 66) (v := (1 : Int32)) dX8_shape_66 rfl ?_
      obtain ⟨v28, hv28, hr⟩ := bnd1_inv hr
      refine kX8_turnAt (pc := 67) hv28 tw_7_63 ⟨nle rfl, nle rfl⟩ (nle rfl) dX8_shape_67 ?_
      refine r_iload_n (pc := 70) (j := 0) dX8_shape_70 rfl rfl ?_
      refine r_icmp_ne (pc := 71) (tgt := 78) dX8_shape_71 rfl (fun hc => ?_) (fun hc => ?_)
      · replace hr := ite_f hc hr
        exact r_pick (ls1 := []) [] rfl (hj78  hr)
      replace hr := ite_t hc hr
      refine r_iconst (pc := 74) (v := (1 : Int32)) dX8_shape_74 rfl ?_
      refine r_goto (pc := 75) (tgt := 79) dX8_shape_75 rfl ?_
      exact l_osi hr (r_iret (pc := 79) (v := (1 : Int32)) rfl rfl ⟨Nat.le_refl _, Nat.le_refl _⟩ dX8_shape_79)
    replace hr := ite_t hc hr
    refine r_bipush (pc := 22) (v := (-2 : Int32)) dX8_shape_22 rfl ?_
    exact l_osi hr (r_iret (pc := 24) (v := (-2 : Int32)) rfl rfl ⟨Nat.le_refl _, Nat.le_refl _⟩ dX8_shape_24)
  replace hr := ite_f hc hr
  refine r_iconst (pc := 9) (v := (-1 : Int32)) dX8_shape_9 rfl ?_
  exact l_osi hr (r_iret (pc := 10) (v := (-1 : Int32)) rfl rfl ⟨Nat.le_refl _, Nat.le_refl _⟩ dX8_shape_10)

theorem kX8_shape {g : GG} {σ : SS} {a1 : Int32} {v : Int32} {σ2 : SS} {M : MM} {F : State → Array Value → List Frame → State → Prop} {pc index : Nat} {ls : List (Nat × Value)} {rest : List Value} (hf : fX8_shape σ a1 = some (v, σ2))  (hl : Cond.methodLink M.1.cls index yX8_shape ∈ lw_gt) (hR : mX8_shape.2.2.2.2.frames + 1 ≤ M.2.2.2.2.frames ∧ 8 + (mX8_shape.2.2.1 + 11) + mX8_shape.2.2.2.2.locals ≤ M.2.2.2.2.locals) (hrest : (rest.map fun v => v.category).sum ≤ 8) (hd : decode M.2.1 pc = .ok (.invokevirtual index, 3)) (k : WT σ2 → RR g M F zF (pc + 3) ls (.int v :: rest) σ2) : RR g M F zF pc ls (.int a1 :: .ref (ad g 73) :: rest) σ :=
  r_callV (z := zF) (N := mX8_shape) (nn := 1) (o1 := some (.int v)) (sX8_shape hf ) (rfl : shp 73 = (8, 0)) (by decide) (shp_le (rfl : shp 73 = (8, 0)) (nle rfl)) (ci := 8) rfl rfl tw_7_62 tw_1_10 hl tw_7_60 tw_7_61 ⟨by decide, by decide, rfl⟩ hR rfl hrest hd ⟨Nat.zero_le _, Nat.zero_le _⟩ rfl (fun h => k (h rfl))

theorem dX5_spread_0 : decode cX5_spread 0 = .ok (.iconst 0, 1) := by decide +kernel
theorem dX5_spread_1 : decode cX5_spread 1 = .ok (.istore_n 3, 1) := by decide +kernel
theorem dX5_spread_2 : decode cX5_spread 2 = .ok (.iload_n 3, 1) := by decide +kernel
theorem dX5_spread_3 : decode cX5_spread 3 = .ok (.iconst 4, 1) := by decide +kernel
theorem dX5_spread_4 : decode cX5_spread 4 = .ok (.if_icmp .ge 75, 3) := by decide +kernel
theorem dX5_spread_7 : decode cX5_spread 7 = .ok (.lconst 1, 1) := by decide +kernel
theorem dX5_spread_8 : decode cX5_spread 8 = .ok (.lstore 4, 2) := by decide +kernel
theorem dX5_spread_10 : decode cX5_spread 10 = .ok (.iconst 0, 1) := by decide +kernel
theorem dX5_spread_11 : decode cX5_spread 11 = .ok (.istore 6, 2) := by decide +kernel
theorem dX5_spread_13 : decode cX5_spread 13 = .ok (.iload 6, 2) := by decide +kernel
theorem dX5_spread_15 : decode cX5_spread 15 = .ok (.iconst 4, 1) := by decide +kernel
theorem dX5_spread_16 : decode cX5_spread 16 = .ok (.if_icmp .ge 27, 3) := by decide +kernel
theorem dX5_spread_19 : decode cX5_spread 19 = .ok (.iload 6, 2) := by decide +kernel
theorem dX5_spread_21 : decode cX5_spread 21 = .ok (.iload_n 3, 1) := by decide +kernel
theorem dX5_spread_22 : decode cX5_spread 22 = .ok (.if_icmp .eq 15, 3) := by decide +kernel
theorem dX5_spread_25 : decode cX5_spread 25 = .ok (.lload 4, 2) := by decide +kernel
theorem dX5_spread_27 : decode cX5_spread 27 = .ok (.aload_n 0, 1) := by decide +kernel
theorem dX5_spread_28 : decode cX5_spread 28 = .ok (.getfield 18, 3) := by decide +kernel
theorem dX5_spread_31 : decode cX5_spread 31 = .ok (.iload 6, 2) := by decide +kernel
theorem dX5_spread_33 : decode cX5_spread 33 = .ok (.laload, 1) := by decide +kernel
theorem dX5_spread_34 : decode cX5_spread 34 = .ok (.lmul, 1) := by decide +kernel
theorem dX5_spread_35 : decode cX5_spread 35 = .ok (.lstore 4, 2) := by decide +kernel
theorem dX5_spread_37 : decode cX5_spread 37 = .ok (.iinc 6 1, 3) := by decide +kernel
theorem dX5_spread_40 : decode cX5_spread 40 = .ok (.goto (-27), 3) := by decide +kernel
theorem dX5_spread_43 : decode cX5_spread 43 = .ok (.aload_n 0, 1) := by decide +kernel
theorem dX5_spread_44 : decode cX5_spread 44 = .ok (.getfield 21, 3) := by decide +kernel
theorem dX5_spread_47 : decode cX5_spread 47 = .ok (.iload_n 3, 1) := by decide +kernel
theorem dX5_spread_48 : decode cX5_spread 48 = .ok (.aload_n 0, 1) := by decide +kernel
theorem dX5_spread_49 : decode cX5_spread 49 = .ok (.getfield 9, 3) := by decide +kernel
theorem dX5_spread_52 : decode cX5_spread 52 = .ok (.iload_n 3, 1) := by decide +kernel
theorem dX5_spread_53 : decode cX5_spread 53 = .ok (.laload, 1) := by decide +kernel
theorem dX5_spread_54 : decode cX5_spread 54 = .ok (.lload 4, 2) := by decide +kernel
theorem dX5_spread_56 : decode cX5_spread 56 = .ok (.lmul, 1) := by decide +kernel
theorem dX5_spread_57 : decode cX5_spread 57 = .ok (.lastore, 1) := by decide +kernel
theorem dX5_spread_58 : decode cX5_spread 58 = .ok (.aload_n 0, 1) := by decide +kernel
theorem dX5_spread_59 : decode cX5_spread 59 = .ok (.getfield 24, 3) := by decide +kernel
theorem dX5_spread_62 : decode cX5_spread 62 = .ok (.iload_n 3, 1) := by decide +kernel
theorem dX5_spread_63 : decode cX5_spread 63 = .ok (.aload_n 0, 1) := by decide +kernel
theorem dX5_spread_64 : decode cX5_spread 64 = .ok (.getfield 15, 3) := by decide +kernel
theorem dX5_spread_67 : decode cX5_spread 67 = .ok (.iload_n 3, 1) := by decide +kernel
theorem dX5_spread_68 : decode cX5_spread 68 = .ok (.laload, 1) := by decide +kernel
theorem dX5_spread_69 : decode cX5_spread 69 = .ok (.lload 4, 2) := by decide +kernel
theorem dX5_spread_71 : decode cX5_spread 71 = .ok (.lmul, 1) := by decide +kernel
theorem dX5_spread_72 : decode cX5_spread 72 = .ok (.lastore, 1) := by decide +kernel
theorem dX5_spread_73 : decode cX5_spread 73 = .ok (.iinc 3 1, 3) := by decide +kernel
theorem dX5_spread_76 : decode cX5_spread 76 = .ok (.goto (-74), 3) := by decide +kernel
theorem dX5_spread_79 : decode cX5_spread 79 = .ok (.aload_n 0, 1) := by decide +kernel
theorem dX5_spread_80 : decode cX5_spread 80 = .ok (.iconst 2, 1) := by decide +kernel
theorem dX5_spread_81 : decode cX5_spread 81 = .ok (.iload_n 1, 1) := by decide +kernel
theorem dX5_spread_82 : decode cX5_spread 82 = .ok (.imul, 1) := by decide +kernel
theorem dX5_spread_83 : decode cX5_spread 83 = .ok (.putfield 27, 3) := by decide +kernel
theorem dX5_spread_86 : decode cX5_spread 86 = .ok (.aload_n 0, 1) := by decide +kernel
theorem dX5_spread_87 : decode cX5_spread 87 = .ok (.iconst 2, 1) := by decide +kernel
theorem dX5_spread_88 : decode cX5_spread 88 = .ok (.iload_n 2, 1) := by decide +kernel
theorem dX5_spread_89 : decode cX5_spread 89 = .ok (.imul, 1) := by decide +kernel
theorem dX5_spread_90 : decode cX5_spread 90 = .ok (.putfield 31, 3) := by decide +kernel
theorem dX5_spread_93 : decode cX5_spread 93 = .ok (.aload_n 0, 1) := by decide +kernel
theorem dX5_spread_94 : decode cX5_spread 94 = .ok (.aload_n 0, 1) := by decide +kernel
theorem dX5_spread_95 : decode cX5_spread 95 = .ok (.getfield 18, 3) := by decide +kernel
theorem dX5_spread_98 : decode cX5_spread 98 = .ok (.iconst 0, 1) := by decide +kernel
theorem dX5_spread_99 : decode cX5_spread 99 = .ok (.laload, 1) := by decide +kernel
theorem dX5_spread_100 : decode cX5_spread 100 = .ok (.aload_n 0, 1) := by decide +kernel
theorem dX5_spread_101 : decode cX5_spread 101 = .ok (.getfield 18, 3) := by decide +kernel
theorem dX5_spread_104 : decode cX5_spread 104 = .ok (.iconst 1, 1) := by decide +kernel
theorem dX5_spread_105 : decode cX5_spread 105 = .ok (.laload, 1) := by decide +kernel
theorem dX5_spread_106 : decode cX5_spread 106 = .ok (.lmul, 1) := by decide +kernel
theorem dX5_spread_107 : decode cX5_spread 107 = .ok (.aload_n 0, 1) := by decide +kernel
theorem dX5_spread_108 : decode cX5_spread 108 = .ok (.getfield 18, 3) := by decide +kernel
theorem dX5_spread_111 : decode cX5_spread 111 = .ok (.iconst 2, 1) := by decide +kernel
theorem dX5_spread_112 : decode cX5_spread 112 = .ok (.laload, 1) := by decide +kernel
theorem dX5_spread_113 : decode cX5_spread 113 = .ok (.lmul, 1) := by decide +kernel
theorem dX5_spread_114 : decode cX5_spread 114 = .ok (.aload_n 0, 1) := by decide +kernel
theorem dX5_spread_115 : decode cX5_spread 115 = .ok (.getfield 18, 3) := by decide +kernel
theorem dX5_spread_118 : decode cX5_spread 118 = .ok (.iconst 3, 1) := by decide +kernel
theorem dX5_spread_119 : decode cX5_spread 119 = .ok (.laload, 1) := by decide +kernel
theorem dX5_spread_120 : decode cX5_spread 120 = .ok (.lmul, 1) := by decide +kernel
theorem dX5_spread_121 : decode cX5_spread 121 = .ok (.aload_n 0, 1) := by decide +kernel
theorem dX5_spread_122 : decode cX5_spread 122 = .ok (.getfield 27, 3) := by decide +kernel
theorem dX5_spread_125 : decode cX5_spread 125 = .ok (.i2l, 1) := by decide +kernel
theorem dX5_spread_126 : decode cX5_spread 126 = .ok (.lmul, 1) := by decide +kernel
theorem dX5_spread_127 : decode cX5_spread 127 = .ok (.aload_n 0, 1) := by decide +kernel
theorem dX5_spread_128 : decode cX5_spread 128 = .ok (.getfield 31, 3) := by decide +kernel
theorem dX5_spread_131 : decode cX5_spread 131 = .ok (.i2l, 1) := by decide +kernel
theorem dX5_spread_132 : decode cX5_spread 132 = .ok (.lmul, 1) := by decide +kernel
theorem dX5_spread_133 : decode cX5_spread 133 = .ok (.putfield 34, 3) := by decide +kernel
theorem dX5_spread_136 : decode cX5_spread 136 = .ok (.return_, 1) := by decide +kernel
def mX5_spread : MM := (yX5_spread, cX5_spread, 7, none, { frames := 0, cells := 0, slots := 0, locals := 0 })
def X5_spread_L13 (σ_ : SS) (u3_ : Int32) (k43 : Int64 → Option SS) : Nat → Int64 → Int32 → Option SS :=
  lp (fun _ _ => none) fun rec w4_ v6_ =>
    if (4 : Int32) ≤ v6_ then (
      k43 w4_
      ) else (
      if v6_ = u3_ then (
        rec w4_ (v6_ + (1 : Int32))
        ) else (
        grd (inb v6_ 4) <|
        vthen (w4_ * (gL σ_ 48 (Int32.toNatClampNeg v6_))) fun w2 =>
        rec w2 (v6_ + (1 : Int32))
        )
      )

def X5_spread_L2  (k79 : SS → Option SS) : Nat → Int32 → SS → Option SS :=
  lp (fun _ _ => none) fun rec v3_ σ_ =>
    if (4 : Int32) ≤ v3_ then (
      k79 σ_
      ) else (
      X5_spread_L13 σ_ v3_
      (fun w3 =>
        grd (inb v3_ 4) <|
        vthen (sL σ_ 49 (Int32.toNatClampNeg v3_) ((gL σ_ 46 (Int32.toNatClampNeg v3_)) * w3)) fun σ5 =>
        vthen (sL σ5 50 (Int32.toNatClampNeg v3_) ((gL σ5 47 (Int32.toNatClampNeg v3_)) * w3)) fun σ6 =>
        rec (v3_ + (1 : Int32)) σ6
        )
      fuel (1 : Int64) (0 : Int32)
      )

def fX5_spread (σ : SS) (a1 : Int32) (a2 : Int32) : Option SS :=
  X5_spread_L2
  (fun σ7 =>
    vthen (sI σ7 45 6 ((2 : Int32) * a1)) fun σ8 =>
    vthen (sI σ8 45 7 ((2 : Int32) * a2)) fun σ9 =>
    vthen (sL σ9 45 5 ((((((gL σ9 48 0) * (gL σ9 48 1)) * (gL σ9 48 2)) * (gL σ9 48 3)) * (Int32.toInt64 (gI σ9 45 6))) * (Int32.toInt64 (gI σ9 45 7)))) fun σ10 =>
    some σ10
    )
  fuel (0 : Int32) σ

set_option maxRecDepth 20000 in
theorem sX5_spread_L13 {g : GG} {r : SS} {σ_ : SS} {x1_ : Int32} {x2_ : Int32} {u3_ : Int32} {k43 : Int64 → Option SS} 
    (hw_ : WT σ_)
    (hk43 : ∀ (y4 : Int64), k43 y4 = some r → RR g mX5_spread (FinR g mX5_spread none NF r) zF 43 [(0, .ref (ad g 45)), (1, .int x1_), (2, .int x2_), (3, .int u3_), (4, .long y4)] [] σ_)
    (n : Nat) : ∀ (w4_ : Int64) (v6_ : Int32), X5_spread_L13 σ_ u3_ k43 n w4_ v6_ = some r → RR g mX5_spread (FinR g mX5_spread none NF r) zF 13 [(0, .ref (ad g 45)), (1, .int x1_), (2, .int x2_), (3, .int u3_), (4, .long w4_), (6, .int v6_)] [] σ_ := by
  unfold X5_spread_L13
  refine lp_ind (P := fun (rec : Int64 → Int32 → Option SS) => ∀ (w4_ : Int64) (v6_ : Int32), rec w4_ v6_ = some r → RR g mX5_spread (FinR g mX5_spread none NF r) zF 13 [(0, .ref (ad g 45)), (1, .int x1_), (2, .int x2_), (3, .int u3_), (4, .long w4_), (6, .int v6_)] [] σ_) ?_ ?_ n
  · intro w4_ v6_ hr; cases hr
  intro rec ih w4_ v6_ hr
  refine r_iload (pc := 13) (j := 5) dX5_spread_13 rfl ?_
  refine r_iconst (pc := 15) (v := (4 : Int32)) dX5_spread_15 rfl ?_
  refine r_icmp_ge (pc := 16) (tgt := 43) dX5_spread_16 rfl (fun hc => ?_) (fun hc => ?_)
  · replace hr := ite_t hc hr
    exact r_pick (ls1 := [(0, .ref (ad g 45)), (1, .int x1_), (2, .int x2_), (3, .int u3_), (4, .long w4_)]) [0, 1, 2, 3, 4] rfl (hk43 w4_ hr)
  replace hr := ite_f hc hr
  refine r_iload (pc := 19) (j := 5) dX5_spread_19 rfl ?_
  refine r_iload_n (pc := 21) (j := 3) dX5_spread_21 rfl rfl ?_
  refine r_icmp_eq (pc := 22) (tgt := 37) dX5_spread_22 rfl (fun hc => ?_) (fun hc => ?_)
  · replace hr := ite_t hc hr
    refine r_iinc (pc := 37) (j := 5) (v := (v6_ + (1 : Int32))) (ls1 := [(6, .int (v6_ + (1 : Int32))), (0, .ref (ad g 45)), (1, .int x1_), (2, .int x2_), (3, .int u3_), (4, .long w4_)]) dX5_spread_37 rfl rfl (nle rfl) rfl ?_
    refine r_goto (pc := 40) (tgt := 13) dX5_spread_40 rfl ?_
    exact r_pick (ls1 := [(0, .ref (ad g 45)), (1, .int x1_), (2, .int x2_), (3, .int u3_), (4, .long w4_), (6, .int (v6_ + (1 : Int32)))]) [1, 2, 3, 4, 5, 0] rfl (ih w4_ (v6_ + (1 : Int32)) hr)
  replace hr := ite_f hc hr
  refine r_lload (pc := 25) (j := 4) dX5_spread_25 rfl ?_
  refine r_aload_n (pc := 27) (j := 0) dX5_spread_27 rfl rfl ?_
  refine gf5_2 (pc := 28) tw_1_238 hw_ dX5_spread_28 ?_
  refine r_iload (pc := 31) (j := 5) dX5_spread_31 rfl ?_
  obtain ⟨h1, hr⟩ := grd_inv hr
  refine x_lald (pc := 33) (k := (Int32.toNatClampNeg v6_)) rfl h1 rfl dX5_spread_33 ?_
  refine r_lmul (pc := 34) dX5_spread_34 ?_
  refine r_topl fun w2 ew2 => ?_
  replace hr := vthen_inv hr w2 ew2
  refine r_lstore (pc := 35) (ls1 := [(4, .long w2), (0, .ref (ad g 45)), (1, .int x1_), (2, .int x2_), (3, .int u3_), (6, .int v6_)]) dX5_spread_35 (nle rfl) rfl ?_
  refine r_iinc (pc := 37) (j := 5) (v := (v6_ + (1 : Int32))) (ls1 := [(6, .int (v6_ + (1 : Int32))), (4, .long w2), (0, .ref (ad g 45)), (1, .int x1_), (2, .int x2_), (3, .int u3_)]) dX5_spread_37 rfl rfl (nle rfl) rfl ?_
  refine r_goto (pc := 40) (tgt := 13) dX5_spread_40 rfl ?_
  exact r_pick (ls1 := [(0, .ref (ad g 45)), (1, .int x1_), (2, .int x2_), (3, .int u3_), (4, .long w2), (6, .int (v6_ + (1 : Int32)))]) [2, 3, 4, 5, 1, 0] rfl (ih w2 (v6_ + (1 : Int32)) hr)

set_option maxRecDepth 20000 in
theorem sX5_spread_L2 {g : GG} {r : SS} {x1_ : Int32} {x2_ : Int32} {k79 : SS → Option SS} 
    (hk79 : ∀ (σ_ : SS), k79 σ_ = some r → WT σ_ → RR g mX5_spread (FinR g mX5_spread none NF r) zF 79 [(0, .ref (ad g 45)), (1, .int x1_), (2, .int x2_)] [] σ_)
    (n : Nat) : ∀ (v3_ : Int32) (σ_ : SS), X5_spread_L2 k79 n v3_ σ_ = some r → WT σ_ → RR g mX5_spread (FinR g mX5_spread none NF r) zF 2 [(0, .ref (ad g 45)), (1, .int x1_), (2, .int x2_), (3, .int v3_)] [] σ_ := by
  unfold X5_spread_L2
  refine lp_ind (P := fun (rec : Int32 → SS → Option SS) => ∀ (v3_ : Int32) (σ_ : SS), rec v3_ σ_ = some r → WT σ_ → RR g mX5_spread (FinR g mX5_spread none NF r) zF 2 [(0, .ref (ad g 45)), (1, .int x1_), (2, .int x2_), (3, .int v3_)] [] σ_) ?_ ?_ n
  · intro v3_ σ_ hr; cases hr
  intro rec ih v3_ σ_ hr hw_
  refine r_iload_n (pc := 2) (j := 3) dX5_spread_2 rfl rfl ?_
  refine r_iconst (pc := 3) (v := (4 : Int32)) dX5_spread_3 rfl ?_
  refine r_icmp_ge (pc := 4) (tgt := 79) dX5_spread_4 rfl (fun hc => ?_) (fun hc => ?_)
  · replace hr := ite_t hc hr
    exact r_pick (ls1 := [(0, .ref (ad g 45)), (1, .int x1_), (2, .int x2_)]) [0, 1, 2] rfl (hk79 σ_ hr hw_)
  replace hr := ite_f hc hr
  refine r_lconst (pc := 7) (v := (1 : Int64)) dX5_spread_7 rfl ?_
  refine r_lstore (pc := 8) (ls1 := [(4, .long (1 : Int64)), (0, .ref (ad g 45)), (1, .int x1_), (2, .int x2_), (3, .int v3_)]) dX5_spread_8 (nle rfl) rfl ?_
  refine r_iconst (pc := 10) (v := (0 : Int32)) dX5_spread_10 rfl ?_
  refine r_istore (pc := 11) (ls1 := [(6, .int (0 : Int32)), (4, .long (1 : Int64)), (0, .ref (ad g 45)), (1, .int x1_), (2, .int x2_), (3, .int v3_)]) dX5_spread_11 (nle rfl) rfl ?_
  refine r_pick (ls1 := [(0, .ref (ad g 45)), (1, .int x1_), (2, .int x2_), (3, .int v3_), (4, .long (1 : Int64)), (6, .int (0 : Int32))]) [2, 3, 4, 5, 1, 0] rfl ?_
  refine sX5_spread_L13  hw_  (fun w3 hr => ?_) fuel (1 : Int64) (0 : Int32) hr
  refine r_aload_n (pc := 43) (j := 0) dX5_spread_43 rfl rfl ?_
  refine gf5_3 (pc := 44) tw_1_239 hw_ dX5_spread_44 ?_
  refine r_iload_n (pc := 47) (j := 3) dX5_spread_47 rfl rfl ?_
  refine r_aload_n (pc := 48) (j := 0) dX5_spread_48 rfl rfl ?_
  refine gf5_0 (pc := 49) tw_1_236 hw_ dX5_spread_49 ?_
  refine r_iload_n (pc := 52) (j := 3) dX5_spread_52 rfl rfl ?_
  obtain ⟨h4, hr⟩ := grd_inv hr
  refine x_lald (pc := 53) (k := (Int32.toNatClampNeg v3_)) rfl h4 rfl dX5_spread_53 ?_
  refine r_lload (pc := 54) (j := 4) dX5_spread_54 rfl ?_
  refine r_lmul (pc := 56) dX5_spread_56 ?_
  refine x_last (pc := 57) (j := (Int32.toNatClampNeg v3_)) rfl h4 rfl dX5_spread_57 fun σ5 eσ5 => ?_
  replace hr := vthen_inv hr σ5 eσ5
  have hσ5 := wtL eσ5 hw_
  refine r_aload_n (pc := 58) (j := 0) dX5_spread_58 rfl rfl ?_
  refine gf5_4 (pc := 59) tw_2_0 hσ5 dX5_spread_59 ?_
  refine r_iload_n (pc := 62) (j := 3) dX5_spread_62 rfl rfl ?_
  refine r_aload_n (pc := 63) (j := 0) dX5_spread_63 rfl rfl ?_
  refine gf5_1 (pc := 64) tw_1_237 hσ5 dX5_spread_64 ?_
  refine r_iload_n (pc := 67) (j := 3) dX5_spread_67 rfl rfl ?_
  refine x_lald (pc := 68) (k := (Int32.toNatClampNeg v3_)) rfl h4 rfl dX5_spread_68 ?_
  refine r_lload (pc := 69) (j := 4) dX5_spread_69 rfl ?_
  refine r_lmul (pc := 71) dX5_spread_71 ?_
  refine x_last (pc := 72) (j := (Int32.toNatClampNeg v3_)) rfl h4 rfl dX5_spread_72 fun σ6 eσ6 => ?_
  replace hr := vthen_inv hr σ6 eσ6
  have hσ6 := wtL eσ6 hσ5
  refine r_iinc (pc := 73) (j := 3) (v := (v3_ + (1 : Int32))) (ls1 := [(3, .int (v3_ + (1 : Int32))), (0, .ref (ad g 45)), (1, .int x1_), (2, .int x2_), (4, .long w3)]) dX5_spread_73 rfl rfl (nle rfl) rfl ?_
  refine r_goto (pc := 76) (tgt := 2) dX5_spread_76 rfl ?_
  exact r_pick (ls1 := [(0, .ref (ad g 45)), (1, .int x1_), (2, .int x2_), (3, .int (v3_ + (1 : Int32)))]) [1, 2, 3, 0] rfl (ih (v3_ + (1 : Int32)) σ6 hr hσ6)

set_option maxRecDepth 20000 in
theorem sX5_spread {g : GG} {σ : SS} {a1 : Int32} {a2 : Int32} {r : SS} (hr : fX5_spread σ a1 a2 = some r)  : Ct g mX5_spread [.ref (ad g 45), .int a1, .int a2] NF σ none NF r := by
  refine Ct.of (by decide +kernel) (nle rfl) fun hw0 => ?_
  have hw := hw0 rfl
  unfold fX5_spread at hr
  change RR g mX5_spread (FinR g mX5_spread none NF r) zF 0 [(0, .ref (ad g 45)), (1, .int a1), (2, .int a2)] [] σ
  refine r_iconst (pc := 0) (v := (0 : Int32)) dX5_spread_0 rfl ?_
  refine r_istore_n (pc := 1) (ls1 := [(3, .int (0 : Int32)), (0, .ref (ad g 45)), (1, .int a1), (2, .int a2)]) dX5_spread_1 rfl (nle rfl) rfl ?_
  refine r_pick (ls1 := [(0, .ref (ad g 45)), (1, .int a1), (2, .int a2), (3, .int (0 : Int32))]) [1, 2, 3, 0] rfl ?_
  refine sX5_spread_L2    (fun σ7 hr hσ7 => ?_) fuel (0 : Int32) σ hr hw
  refine r_aload_n (pc := 79) (j := 0) dX5_spread_79 rfl rfl ?_
  refine r_iconst (pc := 80) (v := (2 : Int32)) dX5_spread_80 rfl ?_
  refine r_iload_n (pc := 81) (j := 1) dX5_spread_81 rfl rfl ?_
  refine r_imul (pc := 82) dX5_spread_82 ?_
  refine pf5_6 (pc := 83) tw_2_2 rfl dX5_spread_83 fun σ8 eσ8 => ?_
  replace hr := vthen_inv hr σ8 eσ8
  have hσ8 := wtI eσ8 hσ7
  refine r_aload_n (pc := 86) (j := 0) dX5_spread_86 rfl rfl ?_
  refine r_iconst (pc := 87) (v := (2 : Int32)) dX5_spread_87 rfl ?_
  refine r_iload_n (pc := 88) (j := 2) dX5_spread_88 rfl rfl ?_
  refine r_imul (pc := 89) dX5_spread_89 ?_
  refine pf5_7 (pc := 90) tw_2_3 rfl dX5_spread_90 fun σ9 eσ9 => ?_
  replace hr := vthen_inv hr σ9 eσ9
  have hσ9 := wtI eσ9 hσ8
  refine r_aload_n (pc := 93) (j := 0) dX5_spread_93 rfl rfl ?_
  refine r_aload_n (pc := 94) (j := 0) dX5_spread_94 rfl rfl ?_
  refine gf5_2 (pc := 95) tw_1_238 hσ9 dX5_spread_95 ?_
  refine r_iconst (pc := 98) (v := (0 : Int32)) dX5_spread_98 rfl ?_
  refine x_lald (pc := 99) (k := 0) rfl (by decide) rfl dX5_spread_99 ?_
  refine r_aload_n (pc := 100) (j := 0) dX5_spread_100 rfl rfl ?_
  refine gf5_2 (pc := 101) tw_1_238 hσ9 dX5_spread_101 ?_
  refine r_iconst (pc := 104) (v := (1 : Int32)) dX5_spread_104 rfl ?_
  refine x_lald (pc := 105) (k := 1) rfl (by decide) rfl dX5_spread_105 ?_
  refine r_lmul (pc := 106) dX5_spread_106 ?_
  refine r_aload_n (pc := 107) (j := 0) dX5_spread_107 rfl rfl ?_
  refine gf5_2 (pc := 108) tw_1_238 hσ9 dX5_spread_108 ?_
  refine r_iconst (pc := 111) (v := (2 : Int32)) dX5_spread_111 rfl ?_
  refine x_lald (pc := 112) (k := 2) rfl (by decide) rfl dX5_spread_112 ?_
  refine r_lmul (pc := 113) dX5_spread_113 ?_
  refine r_aload_n (pc := 114) (j := 0) dX5_spread_114 rfl rfl ?_
  refine gf5_2 (pc := 115) tw_1_238 hσ9 dX5_spread_115 ?_
  refine r_iconst (pc := 118) (v := (3 : Int32)) dX5_spread_118 rfl ?_
  refine x_lald (pc := 119) (k := 3) rfl (by decide) rfl dX5_spread_119 ?_
  refine r_lmul (pc := 120) dX5_spread_120 ?_
  refine r_aload_n (pc := 121) (j := 0) dX5_spread_121 rfl rfl ?_
  refine gf5_6 (pc := 122) tw_2_2 rfl dX5_spread_122 ?_
  refine r_i2l (pc := 125) dX5_spread_125 ?_
  refine r_lmul (pc := 126) dX5_spread_126 ?_
  refine r_aload_n (pc := 127) (j := 0) dX5_spread_127 rfl rfl ?_
  refine gf5_7 (pc := 128) tw_2_3 rfl dX5_spread_128 ?_
  refine r_i2l (pc := 131) dX5_spread_131 ?_
  refine r_lmul (pc := 132) dX5_spread_132 ?_
  refine pf5_5 (pc := 133) tw_2_1 rfl dX5_spread_133 fun σ10 eσ10 => ?_
  replace hr := vthen_inv hr σ10 eσ10
  have hσ10 := wtL eσ10 hσ9
  exact l_ov hr (r_vret (pc := 136) rfl rfl ⟨Nat.le_refl _, Nat.le_refl _⟩ dX5_spread_136)

theorem kX5_spread {g : GG} {σ : SS} {a1 : Int32} {a2 : Int32} {σ2 : SS} {M : MM} {F : State → Array Value → List Frame → State → Prop} {pc index : Nat} {ls : List (Nat × Value)} {rest : List Value} (hf : fX5_spread σ a1 a2 = some σ2)  (hl : Cond.methodLink M.1.cls index yX5_spread ∈ lw_gt) (hR : mX5_spread.2.2.2.2.frames + 1 ≤ M.2.2.2.2.frames ∧ 8 + (mX5_spread.2.2.1 + 11) + mX5_spread.2.2.2.2.locals ≤ M.2.2.2.2.locals) (hrest : (rest.map fun v => v.category).sum ≤ 8) (hd : decode M.2.1 pc = .ok (.invokevirtual index, 3)) (k : WT σ2 → RR g M F zF (pc + 3) ls rest σ2) : RR g M F zF pc ls (.int a2 :: .int a1 :: .ref (ad g 45) :: rest) σ :=
  r_callV (z := zF) (N := mX5_spread) (nn := 2) (o1 := none) (sX5_spread hf ) (rfl : shp 45 = (5, 0)) (by decide) (shp_le (rfl : shp 45 = (5, 0)) (nle rfl)) (ci := 5) rfl rfl tw_4_82 tw_1_7 hl tw_4_80 tw_4_81 ⟨by decide, by decide, rfl⟩ hR rfl hrest hd ⟨Nat.zero_le _, Nat.zero_le _⟩ rfl (fun h => k (h rfl))

theorem dX5_weighed_0 : decode cX5_weighed 0 = .ok (.aload_n 1, 1) := by decide +kernel
theorem dX5_weighed_1 : decode cX5_weighed 1 = .ok (.iconst 0, 1) := by decide +kernel
theorem dX5_weighed_2 : decode cX5_weighed 2 = .ok (.laload, 1) := by decide +kernel
theorem dX5_weighed_3 : decode cX5_weighed 3 = .ok (.aload_n 0, 1) := by decide +kernel
theorem dX5_weighed_4 : decode cX5_weighed 4 = .ok (.getfield 27, 3) := by decide +kernel
theorem dX5_weighed_7 : decode cX5_weighed 7 = .ok (.iload_n 2, 1) := by decide +kernel
theorem dX5_weighed_8 : decode cX5_weighed 8 = .ok (.isub, 1) := by decide +kernel
theorem dX5_weighed_9 : decode cX5_weighed 9 = .ok (.aload_n 0, 1) := by decide +kernel
theorem dX5_weighed_10 : decode cX5_weighed 10 = .ok (.getfield 31, 3) := by decide +kernel
theorem dX5_weighed_13 : decode cX5_weighed 13 = .ok (.iload_n 3, 1) := by decide +kernel
theorem dX5_weighed_14 : decode cX5_weighed 14 = .ok (.isub, 1) := by decide +kernel
theorem dX5_weighed_15 : decode cX5_weighed 15 = .ok (.imul, 1) := by decide +kernel
theorem dX5_weighed_16 : decode cX5_weighed 16 = .ok (.i2l, 1) := by decide +kernel
theorem dX5_weighed_17 : decode cX5_weighed 17 = .ok (.lmul, 1) := by decide +kernel
theorem dX5_weighed_18 : decode cX5_weighed 18 = .ok (.aload_n 1, 1) := by decide +kernel
theorem dX5_weighed_19 : decode cX5_weighed 19 = .ok (.iconst 1, 1) := by decide +kernel
theorem dX5_weighed_20 : decode cX5_weighed 20 = .ok (.laload, 1) := by decide +kernel
theorem dX5_weighed_21 : decode cX5_weighed 21 = .ok (.iload_n 2, 1) := by decide +kernel
theorem dX5_weighed_22 : decode cX5_weighed 22 = .ok (.aload_n 0, 1) := by decide +kernel
theorem dX5_weighed_23 : decode cX5_weighed 23 = .ok (.getfield 31, 3) := by decide +kernel
theorem dX5_weighed_26 : decode cX5_weighed 26 = .ok (.iload_n 3, 1) := by decide +kernel
theorem dX5_weighed_27 : decode cX5_weighed 27 = .ok (.isub, 1) := by decide +kernel
theorem dX5_weighed_28 : decode cX5_weighed 28 = .ok (.imul, 1) := by decide +kernel
theorem dX5_weighed_29 : decode cX5_weighed 29 = .ok (.i2l, 1) := by decide +kernel
theorem dX5_weighed_30 : decode cX5_weighed 30 = .ok (.lmul, 1) := by decide +kernel
theorem dX5_weighed_31 : decode cX5_weighed 31 = .ok (.ladd, 1) := by decide +kernel
theorem dX5_weighed_32 : decode cX5_weighed 32 = .ok (.aload_n 1, 1) := by decide +kernel
theorem dX5_weighed_33 : decode cX5_weighed 33 = .ok (.iconst 2, 1) := by decide +kernel
theorem dX5_weighed_34 : decode cX5_weighed 34 = .ok (.laload, 1) := by decide +kernel
theorem dX5_weighed_35 : decode cX5_weighed 35 = .ok (.aload_n 0, 1) := by decide +kernel
theorem dX5_weighed_36 : decode cX5_weighed 36 = .ok (.getfield 27, 3) := by decide +kernel
theorem dX5_weighed_39 : decode cX5_weighed 39 = .ok (.iload_n 2, 1) := by decide +kernel
theorem dX5_weighed_40 : decode cX5_weighed 40 = .ok (.isub, 1) := by decide +kernel
theorem dX5_weighed_41 : decode cX5_weighed 41 = .ok (.iload_n 3, 1) := by decide +kernel
theorem dX5_weighed_42 : decode cX5_weighed 42 = .ok (.imul, 1) := by decide +kernel
theorem dX5_weighed_43 : decode cX5_weighed 43 = .ok (.i2l, 1) := by decide +kernel
theorem dX5_weighed_44 : decode cX5_weighed 44 = .ok (.lmul, 1) := by decide +kernel
theorem dX5_weighed_45 : decode cX5_weighed 45 = .ok (.ladd, 1) := by decide +kernel
theorem dX5_weighed_46 : decode cX5_weighed 46 = .ok (.aload_n 1, 1) := by decide +kernel
theorem dX5_weighed_47 : decode cX5_weighed 47 = .ok (.iconst 3, 1) := by decide +kernel
theorem dX5_weighed_48 : decode cX5_weighed 48 = .ok (.laload, 1) := by decide +kernel
theorem dX5_weighed_49 : decode cX5_weighed 49 = .ok (.iload_n 2, 1) := by decide +kernel
theorem dX5_weighed_50 : decode cX5_weighed 50 = .ok (.iload_n 3, 1) := by decide +kernel
theorem dX5_weighed_51 : decode cX5_weighed 51 = .ok (.imul, 1) := by decide +kernel
theorem dX5_weighed_52 : decode cX5_weighed 52 = .ok (.i2l, 1) := by decide +kernel
theorem dX5_weighed_53 : decode cX5_weighed 53 = .ok (.lmul, 1) := by decide +kernel
theorem dX5_weighed_54 : decode cX5_weighed 54 = .ok (.ladd, 1) := by decide +kernel
theorem dX5_weighed_55 : decode cX5_weighed 55 = .ok (.lreturn, 1) := by decide +kernel
def mX5_weighed : MM := (yX5_weighed, cX5_weighed, 4, Option.some Jvm.ClassFile.FieldType.long, { frames := 0, cells := 0, slots := 0, locals := 0 })
def fX5_weighed (σ0 : SS) (a1 : Nat) (a2 : Int32) (a3 : Int32) : Option Int64 :=
  some (((((gL σ0 a1 0) * (Int32.toInt64 (((gI σ0 45 6) - a2) * ((gI σ0 45 7) - a3)))) + ((gL σ0 a1 1) * (Int32.toInt64 (a2 * ((gI σ0 45 7) - a3))))) + ((gL σ0 a1 2) * (Int32.toInt64 (((gI σ0 45 6) - a2) * a3)))) + ((gL σ0 a1 3) * (Int32.toInt64 (a2 * a3))))

set_option maxRecDepth 20000 in
theorem sX5_weighed {g : GG} {σ0 : SS} {a1 : Nat} {a2 : Int32} {a3 : Int32} {r : Int64} (hr : fX5_weighed σ0 a1 a2 a3 = some r) (hs1 : shp a1 = (23, 4)) : Ct g mX5_weighed [.ref (ad g 45), .ref (ad g a1), .int a2, .int a3] NF σ0 (some (.long r)) NF σ0 := by
  refine Ct.of (by decide +kernel) (nle rfl) fun hw0 => ?_
  have hw := hw0 rfl
  unfold fX5_weighed at hr
  change RR g mX5_weighed (FinR g mX5_weighed (some (.long r)) NF σ0) zF 0 [(0, .ref (ad g 45)), (1, .ref (ad g a1)), (2, .int a2), (3, .int a3)] [] σ0
  refine r_aload_n (pc := 0) (j := 1) dX5_weighed_0 rfl rfl ?_
  refine r_iconst (pc := 1) (v := (0 : Int32)) dX5_weighed_1 rfl ?_
  refine x_lald (pc := 2) (k := 0) hs1 (by decide) rfl dX5_weighed_2 ?_
  refine r_aload_n (pc := 3) (j := 0) dX5_weighed_3 rfl rfl ?_
  refine gf5_6 (pc := 4) tw_2_2 rfl dX5_weighed_4 ?_
  refine r_iload_n (pc := 7) (j := 2) dX5_weighed_7 rfl rfl ?_
  refine r_isub (pc := 8) dX5_weighed_8 ?_
  refine r_aload_n (pc := 9) (j := 0) dX5_weighed_9 rfl rfl ?_
  refine gf5_7 (pc := 10) tw_2_3 rfl dX5_weighed_10 ?_
  refine r_iload_n (pc := 13) (j := 3) dX5_weighed_13 rfl rfl ?_
  refine r_isub (pc := 14) dX5_weighed_14 ?_
  refine r_imul (pc := 15) dX5_weighed_15 ?_
  refine r_i2l (pc := 16) dX5_weighed_16 ?_
  refine r_lmul (pc := 17) dX5_weighed_17 ?_
  refine r_aload_n (pc := 18) (j := 1) dX5_weighed_18 rfl rfl ?_
  refine r_iconst (pc := 19) (v := (1 : Int32)) dX5_weighed_19 rfl ?_
  refine x_lald (pc := 20) (k := 1) hs1 (by decide) rfl dX5_weighed_20 ?_
  refine r_iload_n (pc := 21) (j := 2) dX5_weighed_21 rfl rfl ?_
  refine r_aload_n (pc := 22) (j := 0) dX5_weighed_22 rfl rfl ?_
  refine gf5_7 (pc := 23) tw_2_3 rfl dX5_weighed_23 ?_
  refine r_iload_n (pc := 26) (j := 3) dX5_weighed_26 rfl rfl ?_
  refine r_isub (pc := 27) dX5_weighed_27 ?_
  refine r_imul (pc := 28) dX5_weighed_28 ?_
  refine r_i2l (pc := 29) dX5_weighed_29 ?_
  refine r_lmul (pc := 30) dX5_weighed_30 ?_
  refine r_ladd (pc := 31) dX5_weighed_31 ?_
  refine r_aload_n (pc := 32) (j := 1) dX5_weighed_32 rfl rfl ?_
  refine r_iconst (pc := 33) (v := (2 : Int32)) dX5_weighed_33 rfl ?_
  refine x_lald (pc := 34) (k := 2) hs1 (by decide) rfl dX5_weighed_34 ?_
  refine r_aload_n (pc := 35) (j := 0) dX5_weighed_35 rfl rfl ?_
  refine gf5_6 (pc := 36) tw_2_2 rfl dX5_weighed_36 ?_
  refine r_iload_n (pc := 39) (j := 2) dX5_weighed_39 rfl rfl ?_
  refine r_isub (pc := 40) dX5_weighed_40 ?_
  refine r_iload_n (pc := 41) (j := 3) dX5_weighed_41 rfl rfl ?_
  refine r_imul (pc := 42) dX5_weighed_42 ?_
  refine r_i2l (pc := 43) dX5_weighed_43 ?_
  refine r_lmul (pc := 44) dX5_weighed_44 ?_
  refine r_ladd (pc := 45) dX5_weighed_45 ?_
  refine r_aload_n (pc := 46) (j := 1) dX5_weighed_46 rfl rfl ?_
  refine r_iconst (pc := 47) (v := (3 : Int32)) dX5_weighed_47 rfl ?_
  refine x_lald (pc := 48) (k := 3) hs1 (by decide) rfl dX5_weighed_48 ?_
  refine r_iload_n (pc := 49) (j := 2) dX5_weighed_49 rfl rfl ?_
  refine r_iload_n (pc := 50) (j := 3) dX5_weighed_50 rfl rfl ?_
  refine r_imul (pc := 51) dX5_weighed_51 ?_
  refine r_i2l (pc := 52) dX5_weighed_52 ?_
  refine r_lmul (pc := 53) dX5_weighed_53 ?_
  refine r_ladd (pc := 54) dX5_weighed_54 ?_
  exact l_opl hr (r_lret (pc := 55) (v := (((((gL σ0 a1 0) * (Int32.toInt64 (((gI σ0 45 6) - a2) * ((gI σ0 45 7) - a3)))) + ((gL σ0 a1 1) * (Int32.toInt64 (a2 * ((gI σ0 45 7) - a3))))) + ((gL σ0 a1 2) * (Int32.toInt64 (((gI σ0 45 6) - a2) * a3)))) + ((gL σ0 a1 3) * (Int32.toInt64 (a2 * a3))))) rfl rfl ⟨Nat.le_refl _, Nat.le_refl _⟩ dX5_weighed_55)

theorem kX5_weighed {g : GG} {σ0 : SS} {a1 : Nat} {a2 : Int32} {a3 : Int32} {v : Int64} {M : MM} {F : State → Array Value → List Frame → State → Prop} {pc index : Nat} {ls : List (Nat × Value)} {rest : List Value} (hf : fX5_weighed σ0 a1 a2 a3 = some v) (hs1 : shp a1 = (23, 4)) (hl : Cond.methodLink M.1.cls index yX5_weighed ∈ lw_gt) (hR : mX5_weighed.2.2.2.2.frames + 1 ≤ M.2.2.2.2.frames ∧ 8 + (mX5_weighed.2.2.1 + 11) + mX5_weighed.2.2.2.2.locals ≤ M.2.2.2.2.locals) (hrest : (rest.map fun v => v.category).sum ≤ 8) (hd : decode M.2.1 pc = .ok (.invokevirtual index, 3)) (k : RR g M F zF (pc + 3) ls (.long v :: rest) σ0) : RR g M F zF pc ls (.int a3 :: .int a2 :: .ref (ad g a1) :: .ref (ad g 45) :: rest) σ0 :=
  r_callV (z := zF) (N := mX5_weighed) (nn := 3) (o1 := some (.long v)) (sX5_weighed hf hs1) (rfl : shp 45 = (5, 0)) (by decide) (shp_le (rfl : shp 45 = (5, 0)) (nle rfl)) (ci := 5) rfl rfl tw_4_90 tw_1_7 hl tw_4_89 tp_24 ⟨by decide, by decide, rfl⟩ hR rfl hrest hd ⟨Nat.zero_le _, Nat.zero_le _⟩ rfl (fun h => k)

theorem dX5_rounded_0 : decode cX5_rounded 0 = .ok (.aload_n 0, 1) := by decide +kernel
theorem dX5_rounded_1 : decode cX5_rounded 1 = .ok (.getfield 34, 3) := by decide +kernel
theorem dX5_rounded_4 : decode cX5_rounded 4 = .ok (.lconst 0, 1) := by decide +kernel
theorem dX5_rounded_5 : decode cX5_rounded 5 = .ok (.lcmp, 1) := by decide +kernel
theorem dX5_rounded_6 : decode cX5_rounded 6 = .ok (.ifCond .le 26, 3) := by decide +kernel
theorem dX5_rounded_9 : decode cX5_rounded 9 = .ok (.ldc2_w 38, 3) := by decide +kernel
theorem dX5_rounded_12 : decode cX5_rounded 12 = .ok (.lload_n 1, 1) := by decide +kernel
theorem dX5_rounded_13 : decode cX5_rounded 13 = .ok (.lmul, 1) := by decide +kernel
theorem dX5_rounded_14 : decode cX5_rounded 14 = .ok (.aload_n 0, 1) := by decide +kernel
theorem dX5_rounded_15 : decode cX5_rounded 15 = .ok (.getfield 34, 3) := by decide +kernel
theorem dX5_rounded_18 : decode cX5_rounded 18 = .ok (.ladd, 1) := by decide +kernel
theorem dX5_rounded_19 : decode cX5_rounded 19 = .ok (.ldc2_w 38, 3) := by decide +kernel
theorem dX5_rounded_22 : decode cX5_rounded 22 = .ok (.aload_n 0, 1) := by decide +kernel
theorem dX5_rounded_23 : decode cX5_rounded 23 = .ok (.getfield 34, 3) := by decide +kernel
theorem dX5_rounded_26 : decode cX5_rounded 26 = .ok (.lmul, 1) := by decide +kernel
theorem dX5_rounded_27 : decode cX5_rounded 27 = .ok (.ldiv, 1) := by decide +kernel
theorem dX5_rounded_28 : decode cX5_rounded 28 = .ok (.l2i, 1) := by decide +kernel
theorem dX5_rounded_29 : decode cX5_rounded 29 = .ok (.goto 4, 3) := by decide +kernel
theorem dX5_rounded_32 : decode cX5_rounded 32 = .ok (.iconst 0, 1) := by decide +kernel
theorem dX5_rounded_33 : decode cX5_rounded 33 = .ok (.ireturn, 1) := by decide +kernel
def mX5_rounded : MM := (yX5_rounded, cX5_rounded, 3, Option.some Jvm.ClassFile.FieldType.int, { frames := 0, cells := 0, slots := 0, locals := 0 })
def fX5_rounded (σ0 : SS) (a1 : Int64) : Option Int32 :=
  if (lg_cmp (gL σ0 45 5) (0 : Int64)) ≤ 0 then (
    some (0 : Int32)
    ) else (
    grd (nzl ((2 : Int64) * (gL σ0 45 5))) <|
    some (Int64.toInt32 ((((2 : Int64) * a1) + (gL σ0 45 5)) / ((2 : Int64) * (gL σ0 45 5))))
    )

set_option maxRecDepth 20000 in
theorem sX5_rounded {g : GG} {σ0 : SS} {a1 : Int64} {r : Int32} (hr : fX5_rounded σ0 a1 = some r)  : Ct g mX5_rounded [.ref (ad g 45), .long a1] NF σ0 (some (.int r)) NF σ0 := by
  refine Ct.of (by decide +kernel) (nle rfl) fun hw0 => ?_
  have hw := hw0 rfl
  unfold fX5_rounded at hr
  change RR g mX5_rounded (FinR g mX5_rounded (some (.int r)) NF σ0) zF 0 [(0, .ref (ad g 45)), (1, .long a1)] [] σ0
  refine r_aload_n (pc := 0) (j := 0) dX5_rounded_0 rfl rfl ?_
  refine gf5_5 (pc := 1) tw_2_1 rfl dX5_rounded_1 ?_
  refine r_lconst (pc := 4) (v := (0 : Int64)) dX5_rounded_4 rfl ?_
  refine r_lcmp (pc := 5) dX5_rounded_5 ?_
  refine r_if_le (pc := 6) (tgt := 32) dX5_rounded_6 rfl (fun hc => ?_) (fun hc => ?_)
  · replace hr := ite_t hc hr
    refine r_iconst (pc := 32) (v := (0 : Int32)) dX5_rounded_32 rfl ?_
    exact l_opi hr (r_iret (pc := 33) (v := (0 : Int32)) rfl rfl ⟨Nat.le_refl _, Nat.le_refl _⟩ dX5_rounded_33)
  replace hr := ite_f hc hr
  refine r_ldc2 (pc := 9) (v := (2 : Int64)) dX5_rounded_9 tw_4_67 ?_
  refine r_lload_n (pc := 12) (j := 1) dX5_rounded_12 rfl rfl ?_
  refine r_lmul (pc := 13) dX5_rounded_13 ?_
  refine r_aload_n (pc := 14) (j := 0) dX5_rounded_14 rfl rfl ?_
  refine gf5_5 (pc := 15) tw_2_1 rfl dX5_rounded_15 ?_
  refine r_ladd (pc := 18) dX5_rounded_18 ?_
  refine r_ldc2 (pc := 19) (v := (2 : Int64)) dX5_rounded_19 tw_4_67 ?_
  refine r_aload_n (pc := 22) (j := 0) dX5_rounded_22 rfl rfl ?_
  refine gf5_5 (pc := 23) tw_2_1 rfl dX5_rounded_23 ?_
  refine r_lmul (pc := 26) dX5_rounded_26 ?_
  obtain ⟨h1, hr⟩ := grd_inv hr
  refine r_ldiv (pc := 27) dX5_rounded_27 (nzl_ne h1) ?_
  refine r_l2i (pc := 28) dX5_rounded_28 ?_
  refine r_goto (pc := 29) (tgt := 33) dX5_rounded_29 rfl ?_
  exact l_opi hr (r_iret (pc := 33) (v := (Int64.toInt32 ((((2 : Int64) * a1) + (gL σ0 45 5)) / ((2 : Int64) * (gL σ0 45 5))))) rfl rfl ⟨Nat.le_refl _, Nat.le_refl _⟩ dX5_rounded_33)

theorem kX5_rounded {g : GG} {σ0 : SS} {a1 : Int64} {v : Int32} {M : MM} {F : State → Array Value → List Frame → State → Prop} {pc index : Nat} {ls : List (Nat × Value)} {rest : List Value} (hf : fX5_rounded σ0 a1 = some v)  (hl : Cond.methodLink M.1.cls index yX5_rounded ∈ lw_gt) (hR : mX5_rounded.2.2.2.2.frames + 1 ≤ M.2.2.2.2.frames ∧ 8 + (mX5_rounded.2.2.1 + 11) + mX5_rounded.2.2.2.2.locals ≤ M.2.2.2.2.locals) (hrest : (rest.map fun v => v.category).sum ≤ 8) (hd : decode M.2.1 pc = .ok (.invokevirtual index, 3)) (k : RR g M F zF (pc + 3) ls (.int v :: rest) σ0) : RR g M F zF pc ls (.long a1 :: .ref (ad g 45) :: rest) σ0 :=
  r_callV (z := zF) (N := mX5_rounded) (nn := 1) (o1 := some (.int v)) (sX5_rounded hf ) (rfl : shp 45 = (5, 0)) (by decide) (shp_le (rfl : shp 45 = (5, 0)) (nle rfl)) (ci := 5) rfl rfl tw_4_94 tw_1_7 hl tw_4_93 tp_25 ⟨by decide, by decide, rfl⟩ hR rfl hrest hd ⟨Nat.zero_le _, Nat.zero_le _⟩ rfl (fun h => k)

theorem dX5_dotX_0 : decode cX5_dotX 0 = .ok (.aload_n 0, 1) := by decide +kernel
theorem dX5_dotX_1 : decode cX5_dotX 1 = .ok (.aload_n 0, 1) := by decide +kernel
theorem dX5_dotX_2 : decode cX5_dotX 2 = .ok (.aload_n 0, 1) := by decide +kernel
theorem dX5_dotX_3 : decode cX5_dotX 3 = .ok (.getfield 21, 3) := by decide +kernel
theorem dX5_dotX_6 : decode cX5_dotX 6 = .ok (.iload_n 1, 1) := by decide +kernel
theorem dX5_dotX_7 : decode cX5_dotX 7 = .ok (.iload_n 2, 1) := by decide +kernel
theorem dX5_dotX_8 : decode cX5_dotX 8 = .ok (.invokevirtual 42, 3) := by decide +kernel
theorem dX5_dotX_11 : decode cX5_dotX 11 = .ok (.invokevirtual 46, 3) := by decide +kernel
theorem dX5_dotX_14 : decode cX5_dotX 14 = .ok (.ireturn, 1) := by decide +kernel
def mX5_dotX : MM := (yX5_dotX, cX5_dotX, 3, Option.some Jvm.ClassFile.FieldType.int, { frames := 1, cells := 0, slots := 0, locals := 23 })
def fX5_dotX (σ0 : SS) (a1 : Int32) (a2 : Int32) : Option Int32 :=
  bnd1 (fX5_weighed σ0 49 a1 a2) fun w3 =>
  bnd1 (fX5_rounded σ0 w3) fun v4 =>
  some v4

set_option maxRecDepth 20000 in
theorem sX5_dotX {g : GG} {σ0 : SS} {a1 : Int32} {a2 : Int32} {r : Int32} (hr : fX5_dotX σ0 a1 a2 = some r)  : Ct g mX5_dotX [.ref (ad g 45), .int a1, .int a2] NF σ0 (some (.int r)) NF σ0 := by
  refine Ct.of (by decide +kernel) (nle rfl) fun hw0 => ?_
  have hw := hw0 rfl
  unfold fX5_dotX at hr
  change RR g mX5_dotX (FinR g mX5_dotX (some (.int r)) NF σ0) zF 0 [(0, .ref (ad g 45)), (1, .int a1), (2, .int a2)] [] σ0
  refine r_aload_n (pc := 0) (j := 0) dX5_dotX_0 rfl rfl ?_
  refine r_aload_n (pc := 1) (j := 0) dX5_dotX_1 rfl rfl ?_
  refine r_aload_n (pc := 2) (j := 0) dX5_dotX_2 rfl rfl ?_
  refine gf5_3 (pc := 3) tw_1_239 hw dX5_dotX_3 ?_
  refine r_iload_n (pc := 6) (j := 1) dX5_dotX_6 rfl rfl ?_
  refine r_iload_n (pc := 7) (j := 2) dX5_dotX_7 rfl rfl ?_
  obtain ⟨w3, hw3, hr⟩ := bnd1_inv hr
  refine kX5_weighed (pc := 8) hw3 rfl tw_4_87 ⟨nle rfl, nle rfl⟩ (nle rfl) dX5_dotX_8 ?_
  obtain ⟨v4, hv4, hr⟩ := bnd1_inv hr
  refine kX5_rounded (pc := 11) hv4 tw_4_91 ⟨nle rfl, nle rfl⟩ (nle rfl) dX5_dotX_11 ?_
  exact l_opi hr (r_iret (pc := 14) (v := v4) rfl rfl ⟨Nat.le_refl _, Nat.le_refl _⟩ dX5_dotX_14)

theorem kX5_dotX {g : GG} {σ0 : SS} {a1 : Int32} {a2 : Int32} {v : Int32} {M : MM} {F : State → Array Value → List Frame → State → Prop} {pc index : Nat} {ls : List (Nat × Value)} {rest : List Value} (hf : fX5_dotX σ0 a1 a2 = some v)  (hl : Cond.methodLink M.1.cls index yX5_dotX ∈ lw_gt) (hR : mX5_dotX.2.2.2.2.frames + 1 ≤ M.2.2.2.2.frames ∧ 8 + (mX5_dotX.2.2.1 + 11) + mX5_dotX.2.2.2.2.locals ≤ M.2.2.2.2.locals) (hrest : (rest.map fun v => v.category).sum ≤ 8) (hd : decode M.2.1 pc = .ok (.invokevirtual index, 3)) (k : RR g M F zF (pc + 3) ls (.int v :: rest) σ0) : RR g M F zF pc ls (.int a2 :: .int a1 :: .ref (ad g 45) :: rest) σ0 :=
  r_callV (z := zF) (N := mX5_dotX) (nn := 2) (o1 := some (.int v)) (sX5_dotX hf ) (rfl : shp 45 = (5, 0)) (by decide) (shp_le (rfl : shp 45 = (5, 0)) (nle rfl)) (ci := 5) rfl rfl tw_4_86 tw_1_7 hl tw_4_84 tw_4_85 ⟨by decide, by decide, rfl⟩ hR rfl hrest hd ⟨Nat.zero_le _, Nat.zero_le _⟩ rfl (fun h => k)

theorem dX5_dotY_0 : decode cX5_dotY 0 = .ok (.aload_n 0, 1) := by decide +kernel
theorem dX5_dotY_1 : decode cX5_dotY 1 = .ok (.aload_n 0, 1) := by decide +kernel
theorem dX5_dotY_2 : decode cX5_dotY 2 = .ok (.aload_n 0, 1) := by decide +kernel
theorem dX5_dotY_3 : decode cX5_dotY 3 = .ok (.getfield 24, 3) := by decide +kernel
theorem dX5_dotY_6 : decode cX5_dotY 6 = .ok (.iload_n 1, 1) := by decide +kernel
theorem dX5_dotY_7 : decode cX5_dotY 7 = .ok (.iload_n 2, 1) := by decide +kernel
theorem dX5_dotY_8 : decode cX5_dotY 8 = .ok (.invokevirtual 42, 3) := by decide +kernel
theorem dX5_dotY_11 : decode cX5_dotY 11 = .ok (.invokevirtual 46, 3) := by decide +kernel
theorem dX5_dotY_14 : decode cX5_dotY 14 = .ok (.ireturn, 1) := by decide +kernel
def mX5_dotY : MM := (yX5_dotY, cX5_dotY, 3, Option.some Jvm.ClassFile.FieldType.int, { frames := 1, cells := 0, slots := 0, locals := 23 })
def fX5_dotY (σ0 : SS) (a1 : Int32) (a2 : Int32) : Option Int32 :=
  bnd1 (fX5_weighed σ0 50 a1 a2) fun w3 =>
  bnd1 (fX5_rounded σ0 w3) fun v4 =>
  some v4

set_option maxRecDepth 20000 in
theorem sX5_dotY {g : GG} {σ0 : SS} {a1 : Int32} {a2 : Int32} {r : Int32} (hr : fX5_dotY σ0 a1 a2 = some r)  : Ct g mX5_dotY [.ref (ad g 45), .int a1, .int a2] NF σ0 (some (.int r)) NF σ0 := by
  refine Ct.of (by decide +kernel) (nle rfl) fun hw0 => ?_
  have hw := hw0 rfl
  unfold fX5_dotY at hr
  change RR g mX5_dotY (FinR g mX5_dotY (some (.int r)) NF σ0) zF 0 [(0, .ref (ad g 45)), (1, .int a1), (2, .int a2)] [] σ0
  refine r_aload_n (pc := 0) (j := 0) dX5_dotY_0 rfl rfl ?_
  refine r_aload_n (pc := 1) (j := 0) dX5_dotY_1 rfl rfl ?_
  refine r_aload_n (pc := 2) (j := 0) dX5_dotY_2 rfl rfl ?_
  refine gf5_4 (pc := 3) tw_2_0 hw dX5_dotY_3 ?_
  refine r_iload_n (pc := 6) (j := 1) dX5_dotY_6 rfl rfl ?_
  refine r_iload_n (pc := 7) (j := 2) dX5_dotY_7 rfl rfl ?_
  obtain ⟨w3, hw3, hr⟩ := bnd1_inv hr
  refine kX5_weighed (pc := 8) hw3 rfl tw_4_87 ⟨nle rfl, nle rfl⟩ (nle rfl) dX5_dotY_8 ?_
  obtain ⟨v4, hv4, hr⟩ := bnd1_inv hr
  refine kX5_rounded (pc := 11) hv4 tw_4_91 ⟨nle rfl, nle rfl⟩ (nle rfl) dX5_dotY_11 ?_
  exact l_opi hr (r_iret (pc := 14) (v := v4) rfl rfl ⟨Nat.le_refl _, Nat.le_refl _⟩ dX5_dotY_14)

theorem kX5_dotY {g : GG} {σ0 : SS} {a1 : Int32} {a2 : Int32} {v : Int32} {M : MM} {F : State → Array Value → List Frame → State → Prop} {pc index : Nat} {ls : List (Nat × Value)} {rest : List Value} (hf : fX5_dotY σ0 a1 a2 = some v)  (hl : Cond.methodLink M.1.cls index yX5_dotY ∈ lw_gt) (hR : mX5_dotY.2.2.2.2.frames + 1 ≤ M.2.2.2.2.frames ∧ 8 + (mX5_dotY.2.2.1 + 11) + mX5_dotY.2.2.2.2.locals ≤ M.2.2.2.2.locals) (hrest : (rest.map fun v => v.category).sum ≤ 8) (hd : decode M.2.1 pc = .ok (.invokevirtual index, 3)) (k : RR g M F zF (pc + 3) ls (.int v :: rest) σ0) : RR g M F zF pc ls (.int a2 :: .int a1 :: .ref (ad g 45) :: rest) σ0 :=
  r_callV (z := zF) (N := mX5_dotY) (nn := 2) (o1 := some (.int v)) (sX5_dotY hf ) (rfl : shp 45 = (5, 0)) (by decide) (shp_le (rfl : shp 45 = (5, 0)) (nle rfl)) (ci := 5) rfl rfl tw_4_98 tw_1_7 hl tw_4_96 tw_4_97 ⟨by decide, by decide, rfl⟩ hR rfl hrest hd ⟨Nat.zero_le _, Nat.zero_le _⟩ rfl (fun h => k)

theorem dX5_hundredths_0 : decode cX5_hundredths 0 = .ok (.aload_n 0, 1) := by decide +kernel
theorem dX5_hundredths_1 : decode cX5_hundredths 1 = .ok (.getfield 34, 3) := by decide +kernel
theorem dX5_hundredths_4 : decode cX5_hundredths 4 = .ok (.lconst 0, 1) := by decide +kernel
theorem dX5_hundredths_5 : decode cX5_hundredths 5 = .ok (.lcmp, 1) := by decide +kernel
theorem dX5_hundredths_6 : decode cX5_hundredths 6 = .ok (.ifCond .le 17, 3) := by decide +kernel
theorem dX5_hundredths_9 : decode cX5_hundredths 9 = .ok (.ldc2_w 40, 3) := by decide +kernel
theorem dX5_hundredths_12 : decode cX5_hundredths 12 = .ok (.lload_n 1, 1) := by decide +kernel
theorem dX5_hundredths_13 : decode cX5_hundredths 13 = .ok (.lmul, 1) := by decide +kernel
theorem dX5_hundredths_14 : decode cX5_hundredths 14 = .ok (.aload_n 0, 1) := by decide +kernel
theorem dX5_hundredths_15 : decode cX5_hundredths 15 = .ok (.getfield 34, 3) := by decide +kernel
theorem dX5_hundredths_18 : decode cX5_hundredths 18 = .ok (.ldiv, 1) := by decide +kernel
theorem dX5_hundredths_19 : decode cX5_hundredths 19 = .ok (.l2i, 1) := by decide +kernel
theorem dX5_hundredths_20 : decode cX5_hundredths 20 = .ok (.goto 4, 3) := by decide +kernel
theorem dX5_hundredths_23 : decode cX5_hundredths 23 = .ok (.iconst 0, 1) := by decide +kernel
theorem dX5_hundredths_24 : decode cX5_hundredths 24 = .ok (.ireturn, 1) := by decide +kernel
def mX5_hundredths : MM := (yX5_hundredths, cX5_hundredths, 3, Option.some Jvm.ClassFile.FieldType.int, { frames := 0, cells := 0, slots := 0, locals := 0 })
def fX5_hundredths (σ0 : SS) (a1 : Int64) : Option Int32 :=
  if (lg_cmp (gL σ0 45 5) (0 : Int64)) ≤ 0 then (
    some (0 : Int32)
    ) else (
    grd (nzl (gL σ0 45 5)) <|
    some (Int64.toInt32 (((100 : Int64) * a1) / (gL σ0 45 5)))
    )

set_option maxRecDepth 20000 in
theorem sX5_hundredths {g : GG} {σ0 : SS} {a1 : Int64} {r : Int32} (hr : fX5_hundredths σ0 a1 = some r)  : Ct g mX5_hundredths [.ref (ad g 45), .long a1] NF σ0 (some (.int r)) NF σ0 := by
  refine Ct.of (by decide +kernel) (nle rfl) fun hw0 => ?_
  have hw := hw0 rfl
  unfold fX5_hundredths at hr
  change RR g mX5_hundredths (FinR g mX5_hundredths (some (.int r)) NF σ0) zF 0 [(0, .ref (ad g 45)), (1, .long a1)] [] σ0
  refine r_aload_n (pc := 0) (j := 0) dX5_hundredths_0 rfl rfl ?_
  refine gf5_5 (pc := 1) tw_2_1 rfl dX5_hundredths_1 ?_
  refine r_lconst (pc := 4) (v := (0 : Int64)) dX5_hundredths_4 rfl ?_
  refine r_lcmp (pc := 5) dX5_hundredths_5 ?_
  refine r_if_le (pc := 6) (tgt := 23) dX5_hundredths_6 rfl (fun hc => ?_) (fun hc => ?_)
  · replace hr := ite_t hc hr
    refine r_iconst (pc := 23) (v := (0 : Int32)) dX5_hundredths_23 rfl ?_
    exact l_opi hr (r_iret (pc := 24) (v := (0 : Int32)) rfl rfl ⟨Nat.le_refl _, Nat.le_refl _⟩ dX5_hundredths_24)
  replace hr := ite_f hc hr
  refine r_ldc2 (pc := 9) (v := (100 : Int64)) dX5_hundredths_9 tw_4_107 ?_
  refine r_lload_n (pc := 12) (j := 1) dX5_hundredths_12 rfl rfl ?_
  refine r_lmul (pc := 13) dX5_hundredths_13 ?_
  refine r_aload_n (pc := 14) (j := 0) dX5_hundredths_14 rfl rfl ?_
  refine gf5_5 (pc := 15) tw_2_1 rfl dX5_hundredths_15 ?_
  obtain ⟨h1, hr⟩ := grd_inv hr
  refine r_ldiv (pc := 18) dX5_hundredths_18 (nzl_ne h1) ?_
  refine r_l2i (pc := 19) dX5_hundredths_19 ?_
  refine r_goto (pc := 20) (tgt := 24) dX5_hundredths_20 rfl ?_
  exact l_opi hr (r_iret (pc := 24) (v := (Int64.toInt32 (((100 : Int64) * a1) / (gL σ0 45 5)))) rfl rfl ⟨Nat.le_refl _, Nat.le_refl _⟩ dX5_hundredths_24)

theorem kX5_hundredths {g : GG} {σ0 : SS} {a1 : Int64} {v : Int32} {M : MM} {F : State → Array Value → List Frame → State → Prop} {pc index : Nat} {ls : List (Nat × Value)} {rest : List Value} (hf : fX5_hundredths σ0 a1 = some v)  (hl : Cond.methodLink M.1.cls index yX5_hundredths ∈ lw_gt) (hR : mX5_hundredths.2.2.2.2.frames + 1 ≤ M.2.2.2.2.frames ∧ 8 + (mX5_hundredths.2.2.1 + 11) + mX5_hundredths.2.2.2.2.locals ≤ M.2.2.2.2.locals) (hrest : (rest.map fun v => v.category).sum ≤ 8) (hd : decode M.2.1 pc = .ok (.invokevirtual index, 3)) (k : RR g M F zF (pc + 3) ls (.int v :: rest) σ0) : RR g M F zF pc ls (.long a1 :: .ref (ad g 45) :: rest) σ0 :=
  r_callV (z := zF) (N := mX5_hundredths) (nn := 1) (o1 := some (.int v)) (sX5_hundredths hf ) (rfl : shp 45 = (5, 0)) (by decide) (shp_le (rfl : shp 45 = (5, 0)) (nle rfl)) (ci := 5) rfl rfl tw_4_106 tw_1_7 hl tw_4_105 tp_26 ⟨by decide, by decide, rfl⟩ hR rfl hrest hd ⟨Nat.zero_le _, Nat.zero_le _⟩ rfl (fun h => k)

theorem dX5_hundredthsX_0 : decode cX5_hundredthsX 0 = .ok (.aload_n 0, 1) := by decide +kernel
theorem dX5_hundredthsX_1 : decode cX5_hundredthsX 1 = .ok (.aload_n 0, 1) := by decide +kernel
theorem dX5_hundredthsX_2 : decode cX5_hundredthsX 2 = .ok (.aload_n 0, 1) := by decide +kernel
theorem dX5_hundredthsX_3 : decode cX5_hundredthsX 3 = .ok (.getfield 21, 3) := by decide +kernel
theorem dX5_hundredthsX_6 : decode cX5_hundredthsX 6 = .ok (.iload_n 1, 1) := by decide +kernel
theorem dX5_hundredthsX_7 : decode cX5_hundredthsX 7 = .ok (.iload_n 2, 1) := by decide +kernel
theorem dX5_hundredthsX_8 : decode cX5_hundredthsX 8 = .ok (.invokevirtual 42, 3) := by decide +kernel
theorem dX5_hundredthsX_11 : decode cX5_hundredthsX 11 = .ok (.invokevirtual 50, 3) := by decide +kernel
theorem dX5_hundredthsX_14 : decode cX5_hundredthsX 14 = .ok (.ireturn, 1) := by decide +kernel
def mX5_hundredthsX : MM := (yX5_hundredthsX, cX5_hundredthsX, 3, Option.some Jvm.ClassFile.FieldType.int, { frames := 1, cells := 0, slots := 0, locals := 23 })
def fX5_hundredthsX (σ0 : SS) (a1 : Int32) (a2 : Int32) : Option Int32 :=
  bnd1 (fX5_weighed σ0 49 a1 a2) fun w3 =>
  bnd1 (fX5_hundredths σ0 w3) fun v4 =>
  some v4

set_option maxRecDepth 20000 in
theorem sX5_hundredthsX {g : GG} {σ0 : SS} {a1 : Int32} {a2 : Int32} {r : Int32} (hr : fX5_hundredthsX σ0 a1 a2 = some r)  : Ct g mX5_hundredthsX [.ref (ad g 45), .int a1, .int a2] NF σ0 (some (.int r)) NF σ0 := by
  refine Ct.of (by decide +kernel) (nle rfl) fun hw0 => ?_
  have hw := hw0 rfl
  unfold fX5_hundredthsX at hr
  change RR g mX5_hundredthsX (FinR g mX5_hundredthsX (some (.int r)) NF σ0) zF 0 [(0, .ref (ad g 45)), (1, .int a1), (2, .int a2)] [] σ0
  refine r_aload_n (pc := 0) (j := 0) dX5_hundredthsX_0 rfl rfl ?_
  refine r_aload_n (pc := 1) (j := 0) dX5_hundredthsX_1 rfl rfl ?_
  refine r_aload_n (pc := 2) (j := 0) dX5_hundredthsX_2 rfl rfl ?_
  refine gf5_3 (pc := 3) tw_1_239 hw dX5_hundredthsX_3 ?_
  refine r_iload_n (pc := 6) (j := 1) dX5_hundredthsX_6 rfl rfl ?_
  refine r_iload_n (pc := 7) (j := 2) dX5_hundredthsX_7 rfl rfl ?_
  obtain ⟨w3, hw3, hr⟩ := bnd1_inv hr
  refine kX5_weighed (pc := 8) hw3 rfl tw_4_87 ⟨nle rfl, nle rfl⟩ (nle rfl) dX5_hundredthsX_8 ?_
  obtain ⟨v4, hv4, hr⟩ := bnd1_inv hr
  refine kX5_hundredths (pc := 11) hv4 tw_4_103 ⟨nle rfl, nle rfl⟩ (nle rfl) dX5_hundredthsX_11 ?_
  exact l_opi hr (r_iret (pc := 14) (v := v4) rfl rfl ⟨Nat.le_refl _, Nat.le_refl _⟩ dX5_hundredthsX_14)

theorem kX5_hundredthsX {g : GG} {σ0 : SS} {a1 : Int32} {a2 : Int32} {v : Int32} {M : MM} {F : State → Array Value → List Frame → State → Prop} {pc index : Nat} {ls : List (Nat × Value)} {rest : List Value} (hf : fX5_hundredthsX σ0 a1 a2 = some v)  (hl : Cond.methodLink M.1.cls index yX5_hundredthsX ∈ lw_gt) (hR : mX5_hundredthsX.2.2.2.2.frames + 1 ≤ M.2.2.2.2.frames ∧ 8 + (mX5_hundredthsX.2.2.1 + 11) + mX5_hundredthsX.2.2.2.2.locals ≤ M.2.2.2.2.locals) (hrest : (rest.map fun v => v.category).sum ≤ 8) (hd : decode M.2.1 pc = .ok (.invokevirtual index, 3)) (k : RR g M F zF (pc + 3) ls (.int v :: rest) σ0) : RR g M F zF pc ls (.int a2 :: .int a1 :: .ref (ad g 45) :: rest) σ0 :=
  r_callV (z := zF) (N := mX5_hundredthsX) (nn := 2) (o1 := some (.int v)) (sX5_hundredthsX hf ) (rfl : shp 45 = (5, 0)) (by decide) (shp_le (rfl : shp 45 = (5, 0)) (nle rfl)) (ci := 5) rfl rfl tw_4_102 tw_1_7 hl tw_4_100 tw_4_101 ⟨by decide, by decide, rfl⟩ hR rfl hrest hd ⟨Nat.zero_le _, Nat.zero_le _⟩ rfl (fun h => k)

theorem dX5_hundredthsY_0 : decode cX5_hundredthsY 0 = .ok (.aload_n 0, 1) := by decide +kernel
theorem dX5_hundredthsY_1 : decode cX5_hundredthsY 1 = .ok (.aload_n 0, 1) := by decide +kernel
theorem dX5_hundredthsY_2 : decode cX5_hundredthsY 2 = .ok (.aload_n 0, 1) := by decide +kernel
theorem dX5_hundredthsY_3 : decode cX5_hundredthsY 3 = .ok (.getfield 24, 3) := by decide +kernel
theorem dX5_hundredthsY_6 : decode cX5_hundredthsY 6 = .ok (.iload_n 1, 1) := by decide +kernel
theorem dX5_hundredthsY_7 : decode cX5_hundredthsY 7 = .ok (.iload_n 2, 1) := by decide +kernel
theorem dX5_hundredthsY_8 : decode cX5_hundredthsY 8 = .ok (.invokevirtual 42, 3) := by decide +kernel
theorem dX5_hundredthsY_11 : decode cX5_hundredthsY 11 = .ok (.invokevirtual 50, 3) := by decide +kernel
theorem dX5_hundredthsY_14 : decode cX5_hundredthsY 14 = .ok (.ireturn, 1) := by decide +kernel
def mX5_hundredthsY : MM := (yX5_hundredthsY, cX5_hundredthsY, 3, Option.some Jvm.ClassFile.FieldType.int, { frames := 1, cells := 0, slots := 0, locals := 23 })
def fX5_hundredthsY (σ0 : SS) (a1 : Int32) (a2 : Int32) : Option Int32 :=
  bnd1 (fX5_weighed σ0 50 a1 a2) fun w3 =>
  bnd1 (fX5_hundredths σ0 w3) fun v4 =>
  some v4

set_option maxRecDepth 20000 in
theorem sX5_hundredthsY {g : GG} {σ0 : SS} {a1 : Int32} {a2 : Int32} {r : Int32} (hr : fX5_hundredthsY σ0 a1 a2 = some r)  : Ct g mX5_hundredthsY [.ref (ad g 45), .int a1, .int a2] NF σ0 (some (.int r)) NF σ0 := by
  refine Ct.of (by decide +kernel) (nle rfl) fun hw0 => ?_
  have hw := hw0 rfl
  unfold fX5_hundredthsY at hr
  change RR g mX5_hundredthsY (FinR g mX5_hundredthsY (some (.int r)) NF σ0) zF 0 [(0, .ref (ad g 45)), (1, .int a1), (2, .int a2)] [] σ0
  refine r_aload_n (pc := 0) (j := 0) dX5_hundredthsY_0 rfl rfl ?_
  refine r_aload_n (pc := 1) (j := 0) dX5_hundredthsY_1 rfl rfl ?_
  refine r_aload_n (pc := 2) (j := 0) dX5_hundredthsY_2 rfl rfl ?_
  refine gf5_4 (pc := 3) tw_2_0 hw dX5_hundredthsY_3 ?_
  refine r_iload_n (pc := 6) (j := 1) dX5_hundredthsY_6 rfl rfl ?_
  refine r_iload_n (pc := 7) (j := 2) dX5_hundredthsY_7 rfl rfl ?_
  obtain ⟨w3, hw3, hr⟩ := bnd1_inv hr
  refine kX5_weighed (pc := 8) hw3 rfl tw_4_87 ⟨nle rfl, nle rfl⟩ (nle rfl) dX5_hundredthsY_8 ?_
  obtain ⟨v4, hv4, hr⟩ := bnd1_inv hr
  refine kX5_hundredths (pc := 11) hv4 tw_4_103 ⟨nle rfl, nle rfl⟩ (nle rfl) dX5_hundredthsY_11 ?_
  exact l_opi hr (r_iret (pc := 14) (v := v4) rfl rfl ⟨Nat.le_refl _, Nat.le_refl _⟩ dX5_hundredthsY_14)

theorem kX5_hundredthsY {g : GG} {σ0 : SS} {a1 : Int32} {a2 : Int32} {v : Int32} {M : MM} {F : State → Array Value → List Frame → State → Prop} {pc index : Nat} {ls : List (Nat × Value)} {rest : List Value} (hf : fX5_hundredthsY σ0 a1 a2 = some v)  (hl : Cond.methodLink M.1.cls index yX5_hundredthsY ∈ lw_gt) (hR : mX5_hundredthsY.2.2.2.2.frames + 1 ≤ M.2.2.2.2.frames ∧ 8 + (mX5_hundredthsY.2.2.1 + 11) + mX5_hundredthsY.2.2.2.2.locals ≤ M.2.2.2.2.locals) (hrest : (rest.map fun v => v.category).sum ≤ 8) (hd : decode M.2.1 pc = .ok (.invokevirtual index, 3)) (k : RR g M F zF (pc + 3) ls (.int v :: rest) σ0) : RR g M F zF pc ls (.int a2 :: .int a1 :: .ref (ad g 45) :: rest) σ0 :=
  r_callV (z := zF) (N := mX5_hundredthsY) (nn := 2) (o1 := some (.int v)) (sX5_hundredthsY hf ) (rfl : shp 45 = (5, 0)) (by decide) (shp_le (rfl : shp 45 = (5, 0)) (nle rfl)) (ci := 5) rfl rfl tw_4_111 tw_1_7 hl tw_4_109 tw_4_110 ⟨by decide, by decide, rfl⟩ hR rfl hrest hd ⟨Nat.zero_le _, Nat.zero_le _⟩ rfl (fun h => k)

theorem dX7_map_0 : decode cX7_map 0 = .ok (.aload_n 0, 1) := by decide +kernel
theorem dX7_map_1 : decode cX7_map 1 = .ok (.getfield 32, 3) := by decide +kernel
theorem dX7_map_4 : decode cX7_map 4 = .ok (.getfield 274, 3) := by decide +kernel
theorem dX7_map_7 : decode cX7_map 7 = .ok (.ifCond .eq 12, 3) := by decide +kernel
theorem dX7_map_10 : decode cX7_map 10 = .ok (.iload_n 3, 1) := by decide +kernel
theorem dX7_map_11 : decode cX7_map 11 = .ok (.ifCond .lt 8, 3) := by decide +kernel
theorem dX7_map_14 : decode cX7_map 14 = .ok (.iload_n 3, 1) := by decide +kernel
theorem dX7_map_15 : decode cX7_map 15 = .ok (.iconst 3, 1) := by decide +kernel
theorem dX7_map_16 : decode cX7_map 16 = .ok (.if_icmp .le 5, 3) := by decide +kernel
theorem dX7_map_19 : decode cX7_map 19 = .ok (.iconst (-1), 1) := by decide +kernel
theorem dX7_map_20 : decode cX7_map 20 = .ok (.ireturn, 1) := by decide +kernel
theorem dX7_map_21 : decode cX7_map 21 = .ok (.iload_n 1, 1) := by decide +kernel
theorem dX7_map_22 : decode cX7_map 22 = .ok (.ifCond .lt 33, 3) := by decide +kernel
theorem dX7_map_25 : decode cX7_map 25 = .ok (.iload_n 1, 1) := by decide +kernel
theorem dX7_map_26 : decode cX7_map 26 = .ok (.iconst 2, 1) := by decide +kernel
theorem dX7_map_27 : decode cX7_map 27 = .ok (.aload_n 0, 1) := by decide +kernel
theorem dX7_map_28 : decode cX7_map 28 = .ok (.getfield 32, 3) := by decide +kernel
theorem dX7_map_31 : decode cX7_map 31 = .ok (.getfield 109, 3) := by decide +kernel
theorem dX7_map_34 : decode cX7_map 34 = .ok (.imul, 1) := by decide +kernel
theorem dX7_map_35 : decode cX7_map 35 = .ok (.if_icmp .gt 20, 3) := by decide +kernel
theorem dX7_map_38 : decode cX7_map 38 = .ok (.iload_n 2, 1) := by decide +kernel
theorem dX7_map_39 : decode cX7_map 39 = .ok (.ifCond .lt 16, 3) := by decide +kernel
theorem dX7_map_42 : decode cX7_map 42 = .ok (.iload_n 2, 1) := by decide +kernel
theorem dX7_map_43 : decode cX7_map 43 = .ok (.iconst 2, 1) := by decide +kernel
theorem dX7_map_44 : decode cX7_map 44 = .ok (.aload_n 0, 1) := by decide +kernel
theorem dX7_map_45 : decode cX7_map 45 = .ok (.getfield 32, 3) := by decide +kernel
theorem dX7_map_48 : decode cX7_map 48 = .ok (.getfield 110, 3) := by decide +kernel
theorem dX7_map_51 : decode cX7_map 51 = .ok (.imul, 1) := by decide +kernel
theorem dX7_map_52 : decode cX7_map 52 = .ok (.if_icmp .le 5, 3) := by decide +kernel
theorem dX7_map_55 : decode cX7_map 55 = .ok (.iconst (-1), 1) := by decide +kernel
theorem dX7_map_56 : decode cX7_map 56 = .ok (.ireturn, 1) := by decide +kernel
theorem dX7_map_57 : decode cX7_map 57 = .ok (.aload_n 0, 1) := by decide +kernel
theorem dX7_map_58 : decode cX7_map 58 = .ok (.getfield 62, 3) := by decide +kernel
theorem dX7_map_61 : decode cX7_map 61 = .ok (.aload_n 0, 1) := by decide +kernel
theorem dX7_map_62 : decode cX7_map 62 = .ok (.getfield 18, 3) := by decide +kernel
theorem dX7_map_65 : decode cX7_map 65 = .ok (.invokevirtual 252, 3) := by decide +kernel
theorem dX7_map_68 : decode cX7_map 68 = .ok (.ifCond .ne 6, 3) := by decide +kernel
theorem dX7_map_71 : decode cX7_map 71 = .ok (.bipush (-2), 2) := by decide +kernel
theorem dX7_map_73 : decode cX7_map 73 = .ok (.ireturn, 1) := by decide +kernel
theorem dX7_map_74 : decode cX7_map 74 = .ok (.aload_n 0, 1) := by decide +kernel
theorem dX7_map_75 : decode cX7_map 75 = .ok (.getfield 62, 3) := by decide +kernel
theorem dX7_map_78 : decode cX7_map 78 = .ok (.getfield 259, 3) := by decide +kernel
theorem dX7_map_81 : decode cX7_map 81 = .ok (.astore 4, 2) := by decide +kernel
theorem dX7_map_83 : decode cX7_map 83 = .ok (.aload 4, 2) := by decide +kernel
theorem dX7_map_85 : decode cX7_map 85 = .ok (.aload_n 0, 1) := by decide +kernel
theorem dX7_map_86 : decode cX7_map 86 = .ok (.getfield 32, 3) := by decide +kernel
theorem dX7_map_89 : decode cX7_map 89 = .ok (.getfield 109, 3) := by decide +kernel
theorem dX7_map_92 : decode cX7_map 92 = .ok (.aload_n 0, 1) := by decide +kernel
theorem dX7_map_93 : decode cX7_map 93 = .ok (.getfield 32, 3) := by decide +kernel
theorem dX7_map_96 : decode cX7_map 96 = .ok (.getfield 110, 3) := by decide +kernel
theorem dX7_map_99 : decode cX7_map 99 = .ok (.invokevirtual 277, 3) := by decide +kernel
theorem dX7_map_102 : decode cX7_map 102 = .ok (.iload_n 3, 1) := by decide +kernel
theorem dX7_map_103 : decode cX7_map 103 = .ok (.tableswitch 49 0 2 #[25, 33, 41], 25) := by decide +kernel
theorem dX7_map_128 : decode cX7_map 128 = .ok (.aload 4, 2) := by decide +kernel
theorem dX7_map_130 : decode cX7_map 130 = .ok (.iload_n 1, 1) := by decide +kernel
theorem dX7_map_131 : decode cX7_map 131 = .ok (.iload_n 2, 1) := by decide +kernel
theorem dX7_map_132 : decode cX7_map 132 = .ok (.invokevirtual 280, 3) := by decide +kernel
theorem dX7_map_135 : decode cX7_map 135 = .ok (.ireturn, 1) := by decide +kernel
theorem dX7_map_136 : decode cX7_map 136 = .ok (.aload 4, 2) := by decide +kernel
theorem dX7_map_138 : decode cX7_map 138 = .ok (.iload_n 1, 1) := by decide +kernel
theorem dX7_map_139 : decode cX7_map 139 = .ok (.iload_n 2, 1) := by decide +kernel
theorem dX7_map_140 : decode cX7_map 140 = .ok (.invokevirtual 283, 3) := by decide +kernel
theorem dX7_map_143 : decode cX7_map 143 = .ok (.ireturn, 1) := by decide +kernel
theorem dX7_map_144 : decode cX7_map 144 = .ok (.aload 4, 2) := by decide +kernel
theorem dX7_map_146 : decode cX7_map 146 = .ok (.iload_n 1, 1) := by decide +kernel
theorem dX7_map_147 : decode cX7_map 147 = .ok (.iload_n 2, 1) := by decide +kernel
theorem dX7_map_148 : decode cX7_map 148 = .ok (.invokevirtual 286, 3) := by decide +kernel
theorem dX7_map_151 : decode cX7_map 151 = .ok (.ireturn, 1) := by decide +kernel
theorem dX7_map_152 : decode cX7_map 152 = .ok (.aload 4, 2) := by decide +kernel
theorem dX7_map_154 : decode cX7_map 154 = .ok (.iload_n 1, 1) := by decide +kernel
theorem dX7_map_155 : decode cX7_map 155 = .ok (.iload_n 2, 1) := by decide +kernel
theorem dX7_map_156 : decode cX7_map 156 = .ok (.invokevirtual 289, 3) := by decide +kernel
theorem dX7_map_159 : decode cX7_map 159 = .ok (.ireturn, 1) := by decide +kernel
def mX7_map : MM := (yX7_map, cX7_map, 5, Option.some Jvm.ClassFile.FieldType.int, { frames := 4, cells := 0, slots := 0, locals := 102 })
def fX7_map (σ : SS) (a1 : Int32) (a2 : Int32) (a3 : Int32) : Option (Int32 × SS) :=
  if (gI σ (gR σ 1 5) 0) = 0 then (
    some ((-1 : Int32), σ)
    ) else (
    if a3 < 0 then (
      some ((-1 : Int32), σ)
      ) else (
      if a3 ≤ (3 : Int32) then (
        if a1 < 0 then (
          some ((-1 : Int32), σ)
          ) else (
          if ((2 : Int32) * (gI σ (gR σ 1 5) 1)) < a1 then (
            some ((-1 : Int32), σ)
            ) else (
            if a2 < 0 then (
              some ((-1 : Int32), σ)
              ) else (
              if a2 ≤ ((2 : Int32) * (gI σ (gR σ 1 5) 2)) then (
                bnd (fX3_locate σ (gR σ 1 2)) fun b2 σ4 =>
                if b2 = true then (
                  bnd1 (fX5_spread σ4 (gI σ4 (gR σ4 1 5) 1) (gI σ4 (gR σ4 1 5) 2)) fun σ5 =>
                  if a3 = (0 : Int32) then (
                    bnd1 (fX5_dotX σ5 a1 a2) fun v6 =>
                    some (v6, σ5)
                    ) else
                  if a3 = (1 : Int32) then (
                    bnd1 (fX5_dotY σ5 a1 a2) fun v9 =>
                    some (v9, σ5)
                    ) else
                  if a3 = (2 : Int32) then (
                    bnd1 (fX5_hundredthsX σ5 a1 a2) fun v12 =>
                    some (v12, σ5)
                    ) else
                  bnd1 (fX5_hundredthsY σ5 a1 a2) fun v15 =>
                  some (v15, σ5)
                  ) else (
                  some ((-2 : Int32), σ4)
                  )
                ) else (
                some ((-1 : Int32), σ)
                )
              )
            )
          )
        ) else (
        some ((-1 : Int32), σ)
        )
      )
    )

set_option maxRecDepth 20000 in
theorem sX7_map {g : GG} {σ : SS} {a1 : Int32} {a2 : Int32} {a3 : Int32} {r : Int32 × SS} (hr : fX7_map σ a1 a2 a3 = some r)  : Ct g mX7_map [.ref (ad g 1), .int a1, .int a2, .int a3] NF σ (some (.int r.1)) NF r.2 := by
  refine Ct.of (by decide +kernel) (nle rfl) fun hw0 => ?_
  have hw := hw0 rfl
  unfold fX7_map at hr
  change RR g mX7_map (FinR g mX7_map (some (.int r.1)) NF r.2) zF 0 [(0, .ref (ad g 1)), (1, .int a1), (2, .int a2), (3, .int a3)] [] σ
  refine r_aload_n (pc := 0) (j := 0) dX7_map_0 rfl rfl ?_
  refine gf7_5 (pc := 1) tw_2_114 hw dX7_map_1 ?_
  refine gf1_0 (pc := 4) tw_1_61 (wt_fo hw).1 dX7_map_4 ?_
  refine r_if_eq (pc := 7) (tgt := 19) dX7_map_7 rfl (fun hc => ?_) (fun hc => ?_)
  · replace hr := ite_t hc hr
    refine r_iconst (pc := 19) (v := (-1 : Int32)) dX7_map_19 rfl ?_
    exact l_osi hr (r_iret (pc := 20) (v := (-1 : Int32)) rfl rfl ⟨Nat.le_refl _, Nat.le_refl _⟩ dX7_map_20)
  replace hr := ite_f hc hr
  refine r_iload_n (pc := 10) (j := 3) dX7_map_10 rfl rfl ?_
  refine r_if_lt (pc := 11) (tgt := 19) dX7_map_11 rfl (fun hc => ?_) (fun hc => ?_)
  · replace hr := ite_t hc hr
    refine r_iconst (pc := 19) (v := (-1 : Int32)) dX7_map_19 rfl ?_
    exact l_osi hr (r_iret (pc := 20) (v := (-1 : Int32)) rfl rfl ⟨Nat.le_refl _, Nat.le_refl _⟩ dX7_map_20)
  replace hr := ite_f hc hr
  refine r_iload_n (pc := 14) (j := 3) dX7_map_14 rfl rfl ?_
  refine r_iconst (pc := 15) (v := (3 : Int32)) dX7_map_15 rfl ?_
  refine r_icmp_le (pc := 16) (tgt := 21) dX7_map_16 rfl (fun hc => ?_) (fun hc => ?_)
  · replace hr := ite_t hc hr
    refine r_iload_n (pc := 21) (j := 1) dX7_map_21 rfl rfl ?_
    refine r_if_lt (pc := 22) (tgt := 55) dX7_map_22 rfl (fun hc => ?_) (fun hc => ?_)
    · replace hr := ite_t hc hr
      refine r_iconst (pc := 55) (v := (-1 : Int32)) dX7_map_55 rfl ?_
      exact l_osi hr (r_iret (pc := 56) (v := (-1 : Int32)) rfl rfl ⟨Nat.le_refl _, Nat.le_refl _⟩ dX7_map_56)
    replace hr := ite_f hc hr
    refine r_iload_n (pc := 25) (j := 1) dX7_map_25 rfl rfl ?_
    refine r_iconst (pc := 26) (v := (2 : Int32)) dX7_map_26 rfl ?_
    refine r_aload_n (pc := 27) (j := 0) dX7_map_27 rfl rfl ?_
    refine gf7_5 (pc := 28) tw_2_114 hw dX7_map_28 ?_
    refine gf1_1 (pc := 31) tw_1_65 (wt_fo hw).1 dX7_map_31 ?_
    refine r_imul (pc := 34) dX7_map_34 ?_
    refine r_icmp_gt (pc := 35) (tgt := 55) dX7_map_35 rfl (fun hc => ?_) (fun hc => ?_)
    · replace hr := ite_t hc hr
      refine r_iconst (pc := 55) (v := (-1 : Int32)) dX7_map_55 rfl ?_
      exact l_osi hr (r_iret (pc := 56) (v := (-1 : Int32)) rfl rfl ⟨Nat.le_refl _, Nat.le_refl _⟩ dX7_map_56)
    replace hr := ite_f hc hr
    refine r_iload_n (pc := 38) (j := 2) dX7_map_38 rfl rfl ?_
    refine r_if_lt (pc := 39) (tgt := 55) dX7_map_39 rfl (fun hc => ?_) (fun hc => ?_)
    · replace hr := ite_t hc hr
      refine r_iconst (pc := 55) (v := (-1 : Int32)) dX7_map_55 rfl ?_
      exact l_osi hr (r_iret (pc := 56) (v := (-1 : Int32)) rfl rfl ⟨Nat.le_refl _, Nat.le_refl _⟩ dX7_map_56)
    replace hr := ite_f hc hr
    refine r_iload_n (pc := 42) (j := 2) dX7_map_42 rfl rfl ?_
    refine r_iconst (pc := 43) (v := (2 : Int32)) dX7_map_43 rfl ?_
    refine r_aload_n (pc := 44) (j := 0) dX7_map_44 rfl rfl ?_
    refine gf7_5 (pc := 45) tw_2_114 hw dX7_map_45 ?_
    refine gf1_2 (pc := 48) tw_1_69 (wt_fo hw).1 dX7_map_48 ?_
    refine r_imul (pc := 51) dX7_map_51 ?_
    refine r_icmp_le (pc := 52) (tgt := 57) dX7_map_52 rfl (fun hc => ?_) (fun hc => ?_)
    · replace hr := ite_t hc hr
      refine r_aload_n (pc := 57) (j := 0) dX7_map_57 rfl rfl ?_
      refine gf7_12 (pc := 58) tw_2_121 hw dX7_map_58 ?_
      refine r_aload_n (pc := 61) (j := 0) dX7_map_61 rfl rfl ?_
      refine gf7_2 (pc := 62) tw_2_111 hw dX7_map_62 ?_
      obtain ⟨b2, σ4, eσ4, hr⟩ := bnd_inv hr
      refine kX3_locate (pc := 65) eσ4 (wt_sc hw).1 tw_4_28 ⟨nle rfl, nle rfl⟩ (nle rfl) dX7_map_65 fun hσ4 => ?_
      refine r_ifB_ne (pc := 68) (tgt := 74) dX7_map_68 rfl (fun hc => ?_) (fun hc => ?_)
      · replace hr := ite_t hc hr
        refine r_aload_n (pc := 74) (j := 0) dX7_map_74 rfl rfl ?_
        refine gf7_12 (pc := 75) tw_2_121 hσ4 dX7_map_75 ?_
        refine gf3_3 (pc := 78) tw_2_29 hσ4 dX7_map_78 ?_
        refine r_astore (pc := 81) (ls1 := [(4, .ref (ad g 45)), (0, .ref (ad g 1)), (1, .int a1), (2, .int a2), (3, .int a3)]) dX7_map_81 (nle rfl) rfl ?_
        refine r_aload (pc := 83) (j := 0) dX7_map_83 rfl ?_
        refine r_aload_n (pc := 85) (j := 1) dX7_map_85 rfl rfl ?_
        refine gf7_5 (pc := 86) tw_2_114 hσ4 dX7_map_86 ?_
        refine gf1_1 (pc := 89) tw_1_65 (wt_fo hσ4).1 dX7_map_89 ?_
        refine r_aload_n (pc := 92) (j := 1) dX7_map_92 rfl rfl ?_
        refine gf7_5 (pc := 93) tw_2_114 hσ4 dX7_map_93 ?_
        refine gf1_2 (pc := 96) tw_1_69 (wt_fo hσ4).1 dX7_map_96 ?_
        obtain ⟨σ5, eσ5, hr⟩ := bnd1_inv hr
        refine kX5_spread (pc := 99) eσ5 tw_4_79 ⟨nle rfl, nle rfl⟩ (nle rfl) dX7_map_99 fun hσ5 => ?_
        refine r_iload_n (pc := 102) (j := 4) dX7_map_102 rfl rfl ?_
        by_cases hc0 : a3 = (0 : Int32)
        · replace hr := ite_t hc0 hr
          refine r_tabIn (pc := 103) (off := 25) (tgt := 128) dX7_map_103 (by rw [hc0]; decide) (by rw [hc0]; decide) (by rw [hc0]; rfl) rfl ?_
          refine r_aload (pc := 128) (j := 0) dX7_map_128 rfl ?_
          refine r_iload_n (pc := 130) (j := 2) dX7_map_130 rfl rfl ?_
          refine r_iload_n (pc := 131) (j := 3) dX7_map_131 rfl rfl ?_
          obtain ⟨v6, hv6, hr⟩ := bnd1_inv hr
          refine kX5_dotX (pc := 132) hv6 tw_4_83 ⟨nle rfl, nle rfl⟩ (nle rfl) dX7_map_132 ?_
          exact l_osi hr (r_iret (pc := 135) (v := v6) rfl rfl ⟨Nat.le_refl _, Nat.le_refl _⟩ dX7_map_135)
        replace hr := ite_f hc0 hr
        by_cases hc1 : a3 = (1 : Int32)
        · replace hr := ite_t hc1 hr
          refine r_tabIn (pc := 103) (off := 33) (tgt := 136) dX7_map_103 (by rw [hc1]; decide) (by rw [hc1]; decide) (by rw [hc1]; rfl) rfl ?_
          refine r_aload (pc := 136) (j := 0) dX7_map_136 rfl ?_
          refine r_iload_n (pc := 138) (j := 2) dX7_map_138 rfl rfl ?_
          refine r_iload_n (pc := 139) (j := 3) dX7_map_139 rfl rfl ?_
          obtain ⟨v9, hv9, hr⟩ := bnd1_inv hr
          refine kX5_dotY (pc := 140) hv9 tw_4_95 ⟨nle rfl, nle rfl⟩ (nle rfl) dX7_map_140 ?_
          exact l_osi hr (r_iret (pc := 143) (v := v9) rfl rfl ⟨Nat.le_refl _, Nat.le_refl _⟩ dX7_map_143)
        replace hr := ite_f hc1 hr
        by_cases hc2 : a3 = (2 : Int32)
        · replace hr := ite_t hc2 hr
          refine r_tabIn (pc := 103) (off := 41) (tgt := 144) dX7_map_103 (by rw [hc2]; decide) (by rw [hc2]; decide) (by rw [hc2]; rfl) rfl ?_
          refine r_aload (pc := 144) (j := 0) dX7_map_144 rfl ?_
          refine r_iload_n (pc := 146) (j := 2) dX7_map_146 rfl rfl ?_
          refine r_iload_n (pc := 147) (j := 3) dX7_map_147 rfl rfl ?_
          obtain ⟨v12, hv12, hr⟩ := bnd1_inv hr
          refine kX5_hundredthsX (pc := 148) hv12 tw_4_99 ⟨nle rfl, nle rfl⟩ (nle rfl) dX7_map_148 ?_
          exact l_osi hr (r_iret (pc := 151) (v := v12) rfl rfl ⟨Nat.le_refl _, Nat.le_refl _⟩ dX7_map_151)
        replace hr := ite_f hc2 hr
        refine r_tabOut (pc := 103) (tgt := 152) dX7_map_103 (tab_out (by decide) (by decide) fun k h1 h2 => ?_) rfl ?_
        · rcases (show k = 0 ∨ k = 1 ∨ k = 2 by omega) with rfl | rfl | rfl
          · exact hc0
          · exact hc1
          · exact hc2
        refine r_aload (pc := 152) (j := 0) dX7_map_152 rfl ?_
        refine r_iload_n (pc := 154) (j := 2) dX7_map_154 rfl rfl ?_
        refine r_iload_n (pc := 155) (j := 3) dX7_map_155 rfl rfl ?_
        obtain ⟨v15, hv15, hr⟩ := bnd1_inv hr
        refine kX5_hundredthsY (pc := 156) hv15 tw_4_108 ⟨nle rfl, nle rfl⟩ (nle rfl) dX7_map_156 ?_
        exact l_osi hr (r_iret (pc := 159) (v := v15) rfl rfl ⟨Nat.le_refl _, Nat.le_refl _⟩ dX7_map_159)
      replace hr := ite_f hc hr
      refine r_bipush (pc := 71) (v := (-2 : Int32)) dX7_map_71 rfl ?_
      exact l_osi hr (r_iret (pc := 73) (v := (-2 : Int32)) rfl rfl ⟨Nat.le_refl _, Nat.le_refl _⟩ dX7_map_73)
    replace hr := ite_f hc hr
    refine r_iconst (pc := 55) (v := (-1 : Int32)) dX7_map_55 rfl ?_
    exact l_osi hr (r_iret (pc := 56) (v := (-1 : Int32)) rfl rfl ⟨Nat.le_refl _, Nat.le_refl _⟩ dX7_map_56)
  replace hr := ite_f hc hr
  refine r_iconst (pc := 19) (v := (-1 : Int32)) dX7_map_19 rfl ?_
  exact l_osi hr (r_iret (pc := 20) (v := (-1 : Int32)) rfl rfl ⟨Nat.le_refl _, Nat.le_refl _⟩ dX7_map_20)

theorem kX7_map {g : GG} {σ : SS} {a1 : Int32} {a2 : Int32} {a3 : Int32} {v : Int32} {σ2 : SS} {M : MM} {F : State → Array Value → List Frame → State → Prop} {pc index : Nat} {ls : List (Nat × Value)} {rest : List Value} (hf : fX7_map σ a1 a2 a3 = some (v, σ2))  (hl : Cond.methodLink M.1.cls index yX7_map ∈ lw_gt) (hR : mX7_map.2.2.2.2.frames + 1 ≤ M.2.2.2.2.frames ∧ 8 + (mX7_map.2.2.1 + 11) + mX7_map.2.2.2.2.locals ≤ M.2.2.2.2.locals) (hrest : (rest.map fun v => v.category).sum ≤ 8) (hd : decode M.2.1 pc = .ok (.invokevirtual index, 3)) (k : WT σ2 → RR g M F zF (pc + 3) ls (.int v :: rest) σ2) : RR g M F zF pc ls (.int a3 :: .int a2 :: .int a1 :: .ref (ad g 1) :: rest) σ :=
  r_callV (z := zF) (N := mX7_map) (nn := 3) (o1 := some (.int v)) (sX7_map hf ) (rfl : shp 1 = (7, 0)) (by decide) (shp_le (rfl : shp 1 = (7, 0)) (nle rfl)) (ci := 7) rfl rfl tw_4_78 tw_1_1 hl tw_4_76 tw_4_77 ⟨by decide, by decide, rfl⟩ hR rfl hrest hd ⟨Nat.zero_le _, Nat.zero_le _⟩ rfl (fun h => k (h rfl))

