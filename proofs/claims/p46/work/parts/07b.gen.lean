/-! Walks written by a program out of the bytecode: each method as a function over the store, and its contract. -/
theorem dX3_gainOf_0 : decode cX3_gainOf 0 = .ok (.aload_n 1, 1) := by decide +kernel
theorem dX3_gainOf_1 : decode cX3_gainOf 1 = .ok (.getfield 164, 3) := by decide +kernel
theorem dX3_gainOf_4 : decode cX3_gainOf 4 = .ok (.iload_n 2, 1) := by decide +kernel
theorem dX3_gainOf_5 : decode cX3_gainOf 5 = .ok (.iaload, 1) := by decide +kernel
theorem dX3_gainOf_6 : decode cX3_gainOf 6 = .ok (.ifCond .eq 12, 3) := by decide +kernel
theorem dX3_gainOf_9 : decode cX3_gainOf 9 = .ok (.aload_n 0, 1) := by decide +kernel
theorem dX3_gainOf_10 : decode cX3_gainOf 10 = .ok (.getfield 41, 3) := by decide +kernel
theorem dX3_gainOf_13 : decode cX3_gainOf 13 = .ok (.iload_n 2, 1) := by decide +kernel
theorem dX3_gainOf_14 : decode cX3_gainOf 14 = .ok (.iaload, 1) := by decide +kernel
theorem dX3_gainOf_15 : decode cX3_gainOf 15 = .ok (.ifCond .eq 5, 3) := by decide +kernel
theorem dX3_gainOf_18 : decode cX3_gainOf 18 = .ok (.iconst 0, 1) := by decide +kernel
theorem dX3_gainOf_19 : decode cX3_gainOf 19 = .ok (.ireturn, 1) := by decide +kernel
theorem dX3_gainOf_20 : decode cX3_gainOf 20 = .ok (.aload_n 0, 1) := by decide +kernel
theorem dX3_gainOf_21 : decode cX3_gainOf 21 = .ok (.getfield 38, 3) := by decide +kernel
theorem dX3_gainOf_24 : decode cX3_gainOf 24 = .ok (.iload_n 2, 1) := by decide +kernel
theorem dX3_gainOf_25 : decode cX3_gainOf 25 = .ok (.iaload, 1) := by decide +kernel
theorem dX3_gainOf_26 : decode cX3_gainOf 26 = .ok (.aload_n 1, 1) := by decide +kernel
theorem dX3_gainOf_27 : decode cX3_gainOf 27 = .ok (.getfield 164, 3) := by decide +kernel
theorem dX3_gainOf_30 : decode cX3_gainOf 30 = .ok (.iload_n 2, 1) := by decide +kernel
theorem dX3_gainOf_31 : decode cX3_gainOf 31 = .ok (.iaload, 1) := by decide +kernel
theorem dX3_gainOf_32 : decode cX3_gainOf 32 = .ok (.if_icmp .ne 10, 3) := by decide +kernel
theorem dX3_gainOf_35 : decode cX3_gainOf 35 = .ok (.aload_n 1, 1) := by decide +kernel
theorem dX3_gainOf_36 : decode cX3_gainOf 36 = .ok (.getfield 167, 3) := by decide +kernel
theorem dX3_gainOf_39 : decode cX3_gainOf 39 = .ok (.iload_n 2, 1) := by decide +kernel
theorem dX3_gainOf_40 : decode cX3_gainOf 40 = .ok (.iaload, 1) := by decide +kernel
theorem dX3_gainOf_41 : decode cX3_gainOf 41 = .ok (.ireturn, 1) := by decide +kernel
theorem dX3_gainOf_42 : decode cX3_gainOf 42 = .ok (.aload_n 0, 1) := by decide +kernel
theorem dX3_gainOf_43 : decode cX3_gainOf 43 = .ok (.getfield 38, 3) := by decide +kernel
theorem dX3_gainOf_46 : decode cX3_gainOf 46 = .ok (.iload_n 2, 1) := by decide +kernel
theorem dX3_gainOf_47 : decode cX3_gainOf 47 = .ok (.iaload, 1) := by decide +kernel
theorem dX3_gainOf_48 : decode cX3_gainOf 48 = .ok (.ifCond .ne 7, 3) := by decide +kernel
theorem dX3_gainOf_51 : decode cX3_gainOf 51 = .ok (.iconst 0, 1) := by decide +kernel
theorem dX3_gainOf_52 : decode cX3_gainOf 52 = .ok (.goto 11, 3) := by decide +kernel
theorem dX3_gainOf_55 : decode cX3_gainOf 55 = .ok (.aload_n 0, 1) := by decide +kernel
theorem dX3_gainOf_56 : decode cX3_gainOf 56 = .ok (.getfield 9, 3) := by decide +kernel
theorem dX3_gainOf_59 : decode cX3_gainOf 59 = .ok (.bipush 6, 2) := by decide +kernel
theorem dX3_gainOf_61 : decode cX3_gainOf 61 = .ok (.iaload, 1) := by decide +kernel
theorem dX3_gainOf_62 : decode cX3_gainOf 62 = .ok (.ineg, 1) := by decide +kernel
theorem dX3_gainOf_63 : decode cX3_gainOf 63 = .ok (.ireturn, 1) := by decide +kernel
def mX3_gainOf : MM := (yX3_gainOf, cX3_gainOf, 3, Option.some Jvm.ClassFile.FieldType.int, { frames := 0, cells := 0, slots := 0, locals := 0 })
def fX3_gainOf (σ0 : SS) (a1 : Nat) (a2 : Int32) : Option Int32 :=
  grd (inb a2 12) <|
  if (gI σ0 (a1 + 4) (Int32.toNatClampNeg a2)) = 0 then (
    some (0 : Int32)
    ) else (
    if (gI σ0 54 (Int32.toNatClampNeg a2)) = 0 then (
      if (gI σ0 53 (Int32.toNatClampNeg a2)) = (gI σ0 (a1 + 4) (Int32.toNatClampNeg a2)) then (
        some (gI σ0 (a1 + 5) (Int32.toNatClampNeg a2))
        ) else (
        if (gI σ0 53 (Int32.toNatClampNeg a2)) = 0 then (
          some (0 : Int32)
          ) else (
          some (-(gI σ0 32 6))
          )
        )
      ) else (
      some (0 : Int32)
      )
    )

set_option maxRecDepth 20000 in
theorem sX3_gainOf {g : GG} {σ0 : SS} {a1 : Nat} {a2 : Int32} {r : Int32} (hr : fX3_gainOf σ0 a1 a2 = some r) (hs1 : shp a1 = (1, 0)) : Ct g mX3_gainOf [.ref (ad g 31), .ref (ad g a1), .int a2] NF σ0 (some (.int r)) NF σ0 := by
  refine Ct.of (by decide +kernel) (nle rfl) fun hw0 => ?_
  have hw := hw0 rfl
  unfold fX3_gainOf at hr
  change RR g mX3_gainOf (FinR g mX3_gainOf (some (.int r)) NF σ0) zF 0 [(0, .ref (ad g 31)), (1, .ref (ad g a1)), (2, .int a2)] [] σ0
  refine r_aload_n (pc := 0) (j := 1) dX3_gainOf_0 rfl rfl ?_
  refine gf1_10 (pc := 1) tw_1_97 hw hs1 dX3_gainOf_1 ?_
  refine r_iload_n (pc := 4) (j := 2) dX3_gainOf_4 rfl rfl ?_
  obtain ⟨h1, hr⟩ := grd_inv hr
  refine x_iald (pc := 5) (k := (Int32.toNatClampNeg a2)) (sh1_10 hs1) h1 rfl dX3_gainOf_5 ?_
  refine r_if_eq (pc := 6) (tgt := 18) dX3_gainOf_6 rfl (fun hc => ?_) (fun hc => ?_)
  · replace hr := ite_t hc hr
    refine r_iconst (pc := 18) (v := (0 : Int32)) dX3_gainOf_18 rfl ?_
    exact l_opi hr (r_iret (pc := 19) (v := (0 : Int32)) rfl rfl ⟨Nat.le_refl _, Nat.le_refl _⟩ dX3_gainOf_19)
  replace hr := ite_f hc hr
  refine r_aload_n (pc := 9) (j := 0) dX3_gainOf_9 rfl rfl ?_
  refine gf3_8 (pc := 10) tw_2_36 hw dX3_gainOf_10 ?_
  refine r_iload_n (pc := 13) (j := 2) dX3_gainOf_13 rfl rfl ?_
  refine x_iald (pc := 14) (k := (Int32.toNatClampNeg a2)) rfl h1 rfl dX3_gainOf_14 ?_
  refine r_if_eq (pc := 15) (tgt := 20) dX3_gainOf_15 rfl (fun hc => ?_) (fun hc => ?_)
  · replace hr := ite_t hc hr
    refine r_aload_n (pc := 20) (j := 0) dX3_gainOf_20 rfl rfl ?_
    refine gf3_7 (pc := 21) tw_2_33 hw dX3_gainOf_21 ?_
    refine r_iload_n (pc := 24) (j := 2) dX3_gainOf_24 rfl rfl ?_
    refine x_iald (pc := 25) (k := (Int32.toNatClampNeg a2)) rfl h1 rfl dX3_gainOf_25 ?_
    refine r_aload_n (pc := 26) (j := 1) dX3_gainOf_26 rfl rfl ?_
    refine gf1_10 (pc := 27) tw_1_97 hw hs1 dX3_gainOf_27 ?_
    refine r_iload_n (pc := 30) (j := 2) dX3_gainOf_30 rfl rfl ?_
    refine x_iald (pc := 31) (k := (Int32.toNatClampNeg a2)) (sh1_10 hs1) h1 rfl dX3_gainOf_31 ?_
    refine r_icmp_ne (pc := 32) (tgt := 42) dX3_gainOf_32 rfl (fun hc => ?_) (fun hc => ?_)
    · replace hr := ite_f hc hr
      refine r_aload_n (pc := 42) (j := 0) dX3_gainOf_42 rfl rfl ?_
      refine gf3_7 (pc := 43) tw_2_33 hw dX3_gainOf_43 ?_
      refine r_iload_n (pc := 46) (j := 2) dX3_gainOf_46 rfl rfl ?_
      refine x_iald (pc := 47) (k := (Int32.toNatClampNeg a2)) rfl h1 rfl dX3_gainOf_47 ?_
      refine r_if_ne (pc := 48) (tgt := 55) dX3_gainOf_48 rfl (fun hc => ?_) (fun hc => ?_)
      · replace hr := ite_f hc hr
        refine r_aload_n (pc := 55) (j := 0) dX3_gainOf_55 rfl rfl ?_
        refine gf3_0 (pc := 56) tw_2_20 hw dX3_gainOf_56 ?_
        refine r_bipush (pc := 59) (v := (6 : Int32)) dX3_gainOf_59 rfl ?_
        refine x_iald (pc := 61) (k := 6) rfl (by decide) rfl dX3_gainOf_61 ?_
        refine r_ineg (pc := 62) dX3_gainOf_62 ?_
        exact l_opi hr (r_iret (pc := 63) (v := (-(gI σ0 32 6))) rfl rfl ⟨Nat.le_refl _, Nat.le_refl _⟩ dX3_gainOf_63)
      replace hr := ite_t hc hr
      refine r_iconst (pc := 51) (v := (0 : Int32)) dX3_gainOf_51 rfl ?_
      refine r_goto (pc := 52) (tgt := 63) dX3_gainOf_52 rfl ?_
      exact l_opi hr (r_iret (pc := 63) (v := (0 : Int32)) rfl rfl ⟨Nat.le_refl _, Nat.le_refl _⟩ dX3_gainOf_63)
    replace hr := ite_t hc hr
    refine r_aload_n (pc := 35) (j := 1) dX3_gainOf_35 rfl rfl ?_
    refine gf1_11 (pc := 36) tw_1_101 hw hs1 dX3_gainOf_36 ?_
    refine r_iload_n (pc := 39) (j := 2) dX3_gainOf_39 rfl rfl ?_
    refine x_iald (pc := 40) (k := (Int32.toNatClampNeg a2)) (sh1_11 hs1) h1 rfl dX3_gainOf_40 ?_
    exact l_opi hr (r_iret (pc := 41) (v := (gI σ0 (a1 + 5) (Int32.toNatClampNeg a2))) rfl rfl ⟨Nat.le_refl _, Nat.le_refl _⟩ dX3_gainOf_41)
  replace hr := ite_f hc hr
  refine r_iconst (pc := 18) (v := (0 : Int32)) dX3_gainOf_18 rfl ?_
  exact l_opi hr (r_iret (pc := 19) (v := (0 : Int32)) rfl rfl ⟨Nat.le_refl _, Nat.le_refl _⟩ dX3_gainOf_19)

theorem kX3_gainOf {g : GG} {σ0 : SS} {a1 : Nat} {a2 : Int32} {v : Int32} {M : MM} {F : State → Array Value → List Frame → State → Prop} {pc index : Nat} {ls : List (Nat × Value)} {rest : List Value} (hf : fX3_gainOf σ0 a1 a2 = some v) (hs1 : shp a1 = (1, 0)) (hl : Cond.methodLink M.1.cls index yX3_gainOf ∈ lw_gt) (hR : mX3_gainOf.2.2.2.2.frames + 1 ≤ M.2.2.2.2.frames ∧ 8 + (mX3_gainOf.2.2.1 + 11) + mX3_gainOf.2.2.2.2.locals ≤ M.2.2.2.2.locals) (hrest : (rest.map fun v => v.category).sum ≤ 8) (hd : decode M.2.1 pc = .ok (.invokevirtual index, 3)) (k : RR g M F zF (pc + 3) ls (.int v :: rest) σ0) : RR g M F zF pc ls (.int a2 :: .ref (ad g a1) :: .ref (ad g 31) :: rest) σ0 :=
  r_callV (z := zF) (N := mX3_gainOf) (nn := 2) (o1 := some (.int v)) (sX3_gainOf hf hs1) (rfl : shp 31 = (3, 0)) (by decide) (shp_le (rfl : shp 31 = (3, 0)) (nle rfl)) (ci := 3) rfl rfl tw_3_57 tw_1_5 hl tw_3_56 tp_10 ⟨by decide, by decide, rfl⟩ hR rfl hrest hd ⟨Nat.zero_le _, Nat.zero_le _⟩ rfl (fun h => k)

theorem dX3_read_0 : decode cX3_read 0 = .ok (.aload_n 0, 1) := by decide +kernel
theorem dX3_read_1 : decode cX3_read 1 = .ok (.aload_n 1, 1) := by decide +kernel
theorem dX3_read_2 : decode cX3_read 2 = .ok (.aload_n 2, 1) := by decide +kernel
theorem dX3_read_3 : decode cX3_read 3 = .ok (.invokevirtual 136, 3) := by decide +kernel
theorem dX3_read_6 : decode cX3_read 6 = .ok (.ifCond .ne 5, 3) := by decide +kernel
theorem dX3_read_9 : decode cX3_read 9 = .ok (.iconst 0, 1) := by decide +kernel
theorem dX3_read_10 : decode cX3_read 10 = .ok (.ireturn, 1) := by decide +kernel
theorem dX3_read_11 : decode cX3_read 11 = .ok (.iconst 0, 1) := by decide +kernel
theorem dX3_read_12 : decode cX3_read 12 = .ok (.istore_n 3, 1) := by decide +kernel
theorem dX3_read_13 : decode cX3_read 13 = .ok (.iload_n 3, 1) := by decide +kernel
theorem dX3_read_14 : decode cX3_read 14 = .ok (.aload_n 2, 1) := by decide +kernel
theorem dX3_read_15 : decode cX3_read 15 = .ok (.getfield 140, 3) := by decide +kernel
theorem dX3_read_18 : decode cX3_read 18 = .ok (.if_icmp .ge 27, 3) := by decide +kernel
theorem dX3_read_21 : decode cX3_read 21 = .ok (.aload_n 0, 1) := by decide +kernel
theorem dX3_read_22 : decode cX3_read 22 = .ok (.aload_n 2, 1) := by decide +kernel
theorem dX3_read_23 : decode cX3_read 23 = .ok (.iload_n 3, 1) := by decide +kernel
theorem dX3_read_24 : decode cX3_read 24 = .ok (.invokevirtual 143, 3) := by decide +kernel
theorem dX3_read_27 : decode cX3_read 27 = .ok (.aload_n 0, 1) := by decide +kernel
theorem dX3_read_28 : decode cX3_read 28 = .ok (.getfield 50, 3) := by decide +kernel
theorem dX3_read_31 : decode cX3_read 31 = .ok (.iload_n 3, 1) := by decide +kernel
theorem dX3_read_32 : decode cX3_read 32 = .ok (.aload_n 0, 1) := by decide +kernel
theorem dX3_read_33 : decode cX3_read 33 = .ok (.aload_n 2, 1) := by decide +kernel
theorem dX3_read_34 : decode cX3_read 34 = .ok (.iload_n 3, 1) := by decide +kernel
theorem dX3_read_35 : decode cX3_read 35 = .ok (.invokevirtual 147, 3) := by decide +kernel
theorem dX3_read_38 : decode cX3_read 38 = .ok (.iastore, 1) := by decide +kernel
theorem dX3_read_39 : decode cX3_read 39 = .ok (.iinc 3 1, 3) := by decide +kernel
theorem dX3_read_42 : decode cX3_read 42 = .ok (.goto (-29), 3) := by decide +kernel
theorem dX3_read_45 : decode cX3_read 45 = .ok (.iconst 1, 1) := by decide +kernel
theorem dX3_read_46 : decode cX3_read 46 = .ok (.ireturn, 1) := by decide +kernel
def mX3_read : MM := (yX3_read, cX3_read, 4, Option.some Jvm.ClassFile.FieldType.boolean, { frames := 5, cells := 0, slots := 0, locals := 125 })
def X3_read_L13 (o2_ : Nat)  : Nat → Int32 → SS → Option (Bool × SS) :=
  lp (fun _ _ => none) fun rec v3_ σ_ =>
    if (gI σ_ o2_ 5) ≤ v3_ then (
      some (true, σ_)
      ) else (
      bnd1 (fX3_judgeQuestion σ_ o2_ v3_) fun σ5 =>
      bnd1 (fX3_gainOf σ5 o2_ v3_) fun v6 =>
      grd (inb v3_ 12) <|
      vthen (sI σ5 57 (Int32.toNatClampNeg v3_) v6) fun σ10 =>
      rec (v3_ + (1 : Int32)) σ10
      )

def fX3_read (σ : SS) (a1 : Nat) (a2 : Nat) : Option (Bool × SS) :=
  bnd (fX3_measure σ a1 a2) fun b2 σ4 =>
  if b2 = true then (
    X3_read_L13 a2
    fuel (0 : Int32) σ4
    ) else (
    some (false, σ4)
    )

set_option maxRecDepth 20000 in
theorem sX3_read_L13 {g : GG} {r : Bool × SS} {o2_ : Nat}  (hs2_ : shp o2_ = (1, 0))
    (n : Nat) : ∀ (v3_ : Int32) (σ_ : SS), X3_read_L13 o2_ n v3_ σ_ = some r → WT σ_ → RR g mX3_read (FinR g mX3_read (some (.int (b2i r.1))) NF r.2) zF 13 [(0, .ref (ad g 31)), (2, .ref (ad g o2_)), (3, .int v3_)] [] σ_ := by
  unfold X3_read_L13
  refine lp_ind (P := fun (rec : Int32 → SS → Option (Bool × SS)) => ∀ (v3_ : Int32) (σ_ : SS), rec v3_ σ_ = some r → WT σ_ → RR g mX3_read (FinR g mX3_read (some (.int (b2i r.1))) NF r.2) zF 13 [(0, .ref (ad g 31)), (2, .ref (ad g o2_)), (3, .int v3_)] [] σ_) ?_ ?_ n
  · intro v3_ σ_ hr; cases hr
  intro rec ih v3_ σ_ hr hw_
  refine r_iload_n (pc := 13) (j := 2) dX3_read_13 rfl rfl ?_
  refine r_aload_n (pc := 14) (j := 1) dX3_read_14 rfl rfl ?_
  refine gf1_5 (pc := 15) tw_1_80 hs2_ dX3_read_15 ?_
  refine r_icmp_ge (pc := 18) (tgt := 45) dX3_read_18 rfl (fun hc => ?_) (fun hc => ?_)
  · replace hr := ite_t hc hr
    refine r_iconst (pc := 45) (v := (1 : Int32)) dX3_read_45 rfl ?_
    exact l_osz hr (r_zret (pc := 46) (v := b2i true) (ty := .boolean) rfl (b2i_nar _) rfl ⟨Nat.le_refl _, Nat.le_refl _⟩ dX3_read_46)
  replace hr := ite_f hc hr
  refine r_aload_n (pc := 21) (j := 0) dX3_read_21 rfl rfl ?_
  refine r_aload_n (pc := 22) (j := 1) dX3_read_22 rfl rfl ?_
  refine r_iload_n (pc := 23) (j := 2) dX3_read_23 rfl rfl ?_
  obtain ⟨σ5, eσ5, hr⟩ := bnd1_inv hr
  refine kX3_judgeQuestion (pc := 24) eσ5 hs2_ tw_3_46 ⟨nle rfl, nle rfl⟩ (nle rfl) dX3_read_24 fun hσ5 => ?_
  refine r_aload_n (pc := 27) (j := 0) dX3_read_27 rfl rfl ?_
  refine gf3_11 (pc := 28) tw_2_43 hσ5 dX3_read_28 ?_
  refine r_iload_n (pc := 31) (j := 2) dX3_read_31 rfl rfl ?_
  refine r_aload_n (pc := 32) (j := 0) dX3_read_32 rfl rfl ?_
  refine r_aload_n (pc := 33) (j := 1) dX3_read_33 rfl rfl ?_
  refine r_iload_n (pc := 34) (j := 2) dX3_read_34 rfl rfl ?_
  obtain ⟨v6, hv6, hr⟩ := bnd1_inv hr
  refine kX3_gainOf (pc := 35) hv6 hs2_ tw_3_54 ⟨nle rfl, nle rfl⟩ (nle rfl) dX3_read_35 ?_
  obtain ⟨h9, hr⟩ := grd_inv hr
  refine x_iast (pc := 38) (j := (Int32.toNatClampNeg v3_)) rfl h9 rfl dX3_read_38 fun σ10 eσ10 => ?_
  replace hr := vthen_inv hr σ10 eσ10
  have hσ10 := wtI eσ10 hσ5
  refine r_iinc (pc := 39) (j := 2) (v := (v3_ + (1 : Int32))) (ls1 := [(3, .int (v3_ + (1 : Int32))), (0, .ref (ad g 31)), (2, .ref (ad g o2_))]) dX3_read_39 rfl rfl (nle rfl) rfl ?_
  refine r_goto (pc := 42) (tgt := 13) dX3_read_42 rfl ?_
  exact r_pick (ls1 := [(0, .ref (ad g 31)), (2, .ref (ad g o2_)), (3, .int (v3_ + (1 : Int32)))]) [1, 2, 0] rfl (ih (v3_ + (1 : Int32)) σ10 hr hσ10)

set_option maxRecDepth 20000 in
theorem sX3_read {g : GG} {σ : SS} {a1 : Nat} {a2 : Nat} {r : Bool × SS} (hr : fX3_read σ a1 a2 = some r) (hs1 : shp a1 = (6, 0)) (hs2 : shp a2 = (1, 0)) : Ct g mX3_read [.ref (ad g 31), .ref (ad g a1), .ref (ad g a2)] NF σ (some (.int (b2i r.1))) NF r.2 := by
  refine Ct.of (by decide +kernel) (nle rfl) fun hw0 => ?_
  have hw := hw0 rfl
  unfold fX3_read at hr
  change RR g mX3_read (FinR g mX3_read (some (.int (b2i r.1))) NF r.2) zF 0 [(0, .ref (ad g 31)), (1, .ref (ad g a1)), (2, .ref (ad g a2))] [] σ
  refine r_aload_n (pc := 0) (j := 0) dX3_read_0 rfl rfl ?_
  refine r_aload_n (pc := 1) (j := 1) dX3_read_1 rfl rfl ?_
  refine r_aload_n (pc := 2) (j := 2) dX3_read_2 rfl rfl ?_
  obtain ⟨b2, σ4, eσ4, hr⟩ := bnd_inv hr
  refine kX3_measure (pc := 3) eσ4 hs1 hs2 tw_3_14 ⟨nle rfl, nle rfl⟩ (nle rfl) dX3_read_3 fun hσ4 => ?_
  refine r_ifB_ne (pc := 6) (tgt := 11) dX3_read_6 rfl (fun hc => ?_) (fun hc => ?_)
  · replace hr := ite_t hc hr
    refine r_iconst (pc := 11) (v := (0 : Int32)) dX3_read_11 rfl ?_
    refine r_istore_n (pc := 12) (ls1 := [(3, .int (0 : Int32)), (0, .ref (ad g 31)), (1, .ref (ad g a1)), (2, .ref (ad g a2))]) dX3_read_12 rfl (nle rfl) rfl ?_
    refine r_pick (ls1 := [(0, .ref (ad g 31)), (2, .ref (ad g a2)), (3, .int (0 : Int32))]) [1, 3, 0] rfl ?_
    refine sX3_read_L13 hs2    fuel (0 : Int32) σ4 hr hσ4
  replace hr := ite_f hc hr
  refine r_iconst (pc := 9) (v := (0 : Int32)) dX3_read_9 rfl ?_
  exact l_osz hr (r_zret (pc := 10) (v := b2i false) (ty := .boolean) rfl (b2i_nar _) rfl ⟨Nat.le_refl _, Nat.le_refl _⟩ dX3_read_10)

theorem kX3_read {g : GG} {σ : SS} {a1 : Nat} {a2 : Nat} {v : Bool} {σ2 : SS} {M : MM} {F : State → Array Value → List Frame → State → Prop} {pc index : Nat} {ls : List (Nat × Value)} {rest : List Value} (hf : fX3_read σ a1 a2 = some (v, σ2)) (hs1 : shp a1 = (6, 0)) (hs2 : shp a2 = (1, 0)) (hl : Cond.methodLink M.1.cls index yX3_read ∈ lw_gt) (hR : mX3_read.2.2.2.2.frames + 1 ≤ M.2.2.2.2.frames ∧ 8 + (mX3_read.2.2.1 + 11) + mX3_read.2.2.2.2.locals ≤ M.2.2.2.2.locals) (hrest : (rest.map fun v => v.category).sum ≤ 8) (hd : decode M.2.1 pc = .ok (.invokevirtual index, 3)) (k : WT σ2 → RR g M F zF (pc + 3) ls (.int (b2i v) :: rest) σ2) : RR g M F zF pc ls (.ref (ad g a2) :: .ref (ad g a1) :: .ref (ad g 31) :: rest) σ :=
  r_callV (z := zF) (N := mX3_read) (nn := 2) (o1 := some (.int (b2i v))) (sX3_read hf hs1 hs2) (rfl : shp 31 = (3, 0)) (by decide) (shp_le (rfl : shp 31 = (3, 0)) (nle rfl)) (ci := 3) rfl rfl tw_3_13 tw_1_5 hl tw_3_11 tw_3_12 ⟨by decide, by decide, rfl⟩ hR rfl hrest hd ⟨Nat.zero_le _, Nat.zero_le _⟩ rfl (fun h => k (h rfl))

theorem dX3_allGains_0 : decode cX3_allGains 0 = .ok (.iconst 0, 1) := by decide +kernel
theorem dX3_allGains_1 : decode cX3_allGains 1 = .ok (.istore_n 2, 1) := by decide +kernel
theorem dX3_allGains_2 : decode cX3_allGains 2 = .ok (.iconst 0, 1) := by decide +kernel
theorem dX3_allGains_3 : decode cX3_allGains 3 = .ok (.istore_n 3, 1) := by decide +kernel
theorem dX3_allGains_4 : decode cX3_allGains 4 = .ok (.iload_n 3, 1) := by decide +kernel
theorem dX3_allGains_5 : decode cX3_allGains 5 = .ok (.aload_n 1, 1) := by decide +kernel
theorem dX3_allGains_6 : decode cX3_allGains 6 = .ok (.getfield 140, 3) := by decide +kernel
theorem dX3_allGains_9 : decode cX3_allGains 9 = .ok (.if_icmp .ge 18, 3) := by decide +kernel
theorem dX3_allGains_12 : decode cX3_allGains 12 = .ok (.iload_n 2, 1) := by decide +kernel
theorem dX3_allGains_13 : decode cX3_allGains 13 = .ok (.aload_n 0, 1) := by decide +kernel
theorem dX3_allGains_14 : decode cX3_allGains 14 = .ok (.getfield 50, 3) := by decide +kernel
theorem dX3_allGains_17 : decode cX3_allGains 17 = .ok (.iload_n 3, 1) := by decide +kernel
theorem dX3_allGains_18 : decode cX3_allGains 18 = .ok (.iaload, 1) := by decide +kernel
theorem dX3_allGains_19 : decode cX3_allGains 19 = .ok (.iadd, 1) := by decide +kernel
theorem dX3_allGains_20 : decode cX3_allGains 20 = .ok (.istore_n 2, 1) := by decide +kernel
theorem dX3_allGains_21 : decode cX3_allGains 21 = .ok (.iinc 3 1, 3) := by decide +kernel
theorem dX3_allGains_24 : decode cX3_allGains 24 = .ok (.goto (-20), 3) := by decide +kernel
theorem dX3_allGains_27 : decode cX3_allGains 27 = .ok (.iload_n 2, 1) := by decide +kernel
theorem dX3_allGains_28 : decode cX3_allGains 28 = .ok (.ireturn, 1) := by decide +kernel
def mX3_allGains : MM := (yX3_allGains, cX3_allGains, 4, Option.some Jvm.ClassFile.FieldType.int, { frames := 0, cells := 0, slots := 0, locals := 0 })
def X3_allGains_L4 (σ_ : SS) (o1_ : Nat)  : Nat → Int32 → Int32 → Option Int32 :=
  lp (fun _ _ => none) fun rec v2_ v3_ =>
    if (gI σ_ o1_ 5) ≤ v3_ then (
      some v2_
      ) else (
      grd (inb v3_ 12) <|
      vthen (v2_ + (gI σ_ 57 (Int32.toNatClampNeg v3_))) fun v2 =>
      rec v2 (v3_ + (1 : Int32))
      )

def fX3_allGains (σ0 : SS) (a1 : Nat) : Option Int32 :=
  X3_allGains_L4 σ0 a1
  fuel (0 : Int32) (0 : Int32)

set_option maxRecDepth 20000 in
theorem sX3_allGains_L4 {g : GG} {r : Int32} {σ_ : SS} {σ0 : SS} {o1_ : Nat}  (hs1_ : shp o1_ = (1, 0))
    (hw_ : WT σ_)
    (h0_ : σ_ = σ0)
    (n : Nat) : ∀ (v2_ : Int32) (v3_ : Int32), X3_allGains_L4 σ_ o1_ n v2_ v3_ = some r → RR g mX3_allGains (FinR g mX3_allGains (some (.int r)) NF σ0) zF 4 [(0, .ref (ad g 31)), (1, .ref (ad g o1_)), (2, .int v2_), (3, .int v3_)] [] σ_ := by
  unfold X3_allGains_L4
  refine lp_ind (P := fun (rec : Int32 → Int32 → Option Int32) => ∀ (v2_ : Int32) (v3_ : Int32), rec v2_ v3_ = some r → RR g mX3_allGains (FinR g mX3_allGains (some (.int r)) NF σ0) zF 4 [(0, .ref (ad g 31)), (1, .ref (ad g o1_)), (2, .int v2_), (3, .int v3_)] [] σ_) ?_ ?_ n
  · intro v2_ v3_ hr; cases hr
  intro rec ih v2_ v3_ hr
  subst h0_
  refine r_iload_n (pc := 4) (j := 3) dX3_allGains_4 rfl rfl ?_
  refine r_aload_n (pc := 5) (j := 1) dX3_allGains_5 rfl rfl ?_
  refine gf1_5 (pc := 6) tw_1_80 hs1_ dX3_allGains_6 ?_
  refine r_icmp_ge (pc := 9) (tgt := 27) dX3_allGains_9 rfl (fun hc => ?_) (fun hc => ?_)
  · replace hr := ite_t hc hr
    refine r_iload_n (pc := 27) (j := 2) dX3_allGains_27 rfl rfl ?_
    exact l_opi hr (r_iret (pc := 28) (v := v2_) rfl rfl ⟨Nat.le_refl _, Nat.le_refl _⟩ dX3_allGains_28)
  replace hr := ite_f hc hr
  refine r_iload_n (pc := 12) (j := 2) dX3_allGains_12 rfl rfl ?_
  refine r_aload_n (pc := 13) (j := 0) dX3_allGains_13 rfl rfl ?_
  refine gf3_11 (pc := 14) tw_2_43 hw_ dX3_allGains_14 ?_
  refine r_iload_n (pc := 17) (j := 3) dX3_allGains_17 rfl rfl ?_
  obtain ⟨h1, hr⟩ := grd_inv hr
  refine x_iald (pc := 18) (k := (Int32.toNatClampNeg v3_)) rfl h1 rfl dX3_allGains_18 ?_
  refine r_iadd (pc := 19) dX3_allGains_19 ?_
  refine r_topi fun v2 ev2 => ?_
  replace hr := vthen_inv hr v2 ev2
  refine r_istore_n (pc := 20) (ls1 := [(2, .int v2), (0, .ref (ad g 31)), (1, .ref (ad g o1_)), (3, .int v3_)]) dX3_allGains_20 rfl (nle rfl) rfl ?_
  refine r_iinc (pc := 21) (j := 3) (v := (v3_ + (1 : Int32))) (ls1 := [(3, .int (v3_ + (1 : Int32))), (2, .int v2), (0, .ref (ad g 31)), (1, .ref (ad g o1_))]) dX3_allGains_21 rfl rfl (nle rfl) rfl ?_
  refine r_goto (pc := 24) (tgt := 4) dX3_allGains_24 rfl ?_
  exact r_pick (ls1 := [(0, .ref (ad g 31)), (1, .ref (ad g o1_)), (2, .int v2), (3, .int (v3_ + (1 : Int32)))]) [2, 3, 1, 0] rfl (ih v2 (v3_ + (1 : Int32)) hr)

set_option maxRecDepth 20000 in
theorem sX3_allGains {g : GG} {σ0 : SS} {a1 : Nat} {r : Int32} (hr : fX3_allGains σ0 a1 = some r) (hs1 : shp a1 = (1, 0)) : Ct g mX3_allGains [.ref (ad g 31), .ref (ad g a1)] NF σ0 (some (.int r)) NF σ0 := by
  refine Ct.of (by decide +kernel) (nle rfl) fun hw0 => ?_
  have hw := hw0 rfl
  unfold fX3_allGains at hr
  change RR g mX3_allGains (FinR g mX3_allGains (some (.int r)) NF σ0) zF 0 [(0, .ref (ad g 31)), (1, .ref (ad g a1))] [] σ0
  refine r_iconst (pc := 0) (v := (0 : Int32)) dX3_allGains_0 rfl ?_
  refine r_istore_n (pc := 1) (ls1 := [(2, .int (0 : Int32)), (0, .ref (ad g 31)), (1, .ref (ad g a1))]) dX3_allGains_1 rfl (nle rfl) rfl ?_
  refine r_iconst (pc := 2) (v := (0 : Int32)) dX3_allGains_2 rfl ?_
  refine r_istore_n (pc := 3) (ls1 := [(3, .int (0 : Int32)), (2, .int (0 : Int32)), (0, .ref (ad g 31)), (1, .ref (ad g a1))]) dX3_allGains_3 rfl (nle rfl) rfl ?_
  refine r_pick (ls1 := [(0, .ref (ad g 31)), (1, .ref (ad g a1)), (2, .int (0 : Int32)), (3, .int (0 : Int32))]) [2, 3, 1, 0] rfl ?_
  refine sX3_allGains_L4 hs1 hw rfl  fuel (0 : Int32) (0 : Int32) hr

theorem kX3_allGains {g : GG} {σ0 : SS} {a1 : Nat} {v : Int32} {M : MM} {F : State → Array Value → List Frame → State → Prop} {pc index : Nat} {ls : List (Nat × Value)} {rest : List Value} (hf : fX3_allGains σ0 a1 = some v) (hs1 : shp a1 = (1, 0)) (hl : Cond.methodLink M.1.cls index yX3_allGains ∈ lw_gt) (hR : mX3_allGains.2.2.2.2.frames + 1 ≤ M.2.2.2.2.frames ∧ 8 + (mX3_allGains.2.2.1 + 11) + mX3_allGains.2.2.2.2.locals ≤ M.2.2.2.2.locals) (hrest : (rest.map fun v => v.category).sum ≤ 8) (hd : decode M.2.1 pc = .ok (.invokevirtual index, 3)) (k : RR g M F zF (pc + 3) ls (.int v :: rest) σ0) : RR g M F zF pc ls (.ref (ad g a1) :: .ref (ad g 31) :: rest) σ0 :=
  r_callV (z := zF) (N := mX3_allGains) (nn := 1) (o1 := some (.int v)) (sX3_allGains hf hs1) (rfl : shp 31 = (3, 0)) (by decide) (shp_le (rfl : shp 31 = (3, 0)) (nle rfl)) (ci := 3) rfl rfl tw_3_62 tw_1_5 hl tw_3_60 tw_3_61 ⟨by decide, by decide, rfl⟩ hR rfl hrest hd ⟨Nat.zero_le _, Nat.zero_le _⟩ rfl (fun h => k)

theorem dX3_inState_0 : decode cX3_inState 0 = .ok (.iconst 0, 1) := by decide +kernel
theorem dX3_inState_1 : decode cX3_inState 1 = .ok (.istore_n 3, 1) := by decide +kernel
theorem dX3_inState_2 : decode cX3_inState 2 = .ok (.iconst 0, 1) := by decide +kernel
theorem dX3_inState_3 : decode cX3_inState 3 = .ok (.istore 4, 2) := by decide +kernel
theorem dX3_inState_5 : decode cX3_inState 5 = .ok (.iload 4, 2) := by decide +kernel
theorem dX3_inState_7 : decode cX3_inState 7 = .ok (.aload_n 1, 1) := by decide +kernel
theorem dX3_inState_8 : decode cX3_inState 8 = .ok (.getfield 140, 3) := by decide +kernel
theorem dX3_inState_11 : decode cX3_inState 11 = .ok (.if_icmp .ge 23, 3) := by decide +kernel
theorem dX3_inState_14 : decode cX3_inState 14 = .ok (.aload_n 0, 1) := by decide +kernel
theorem dX3_inState_15 : decode cX3_inState 15 = .ok (.getfield 41, 3) := by decide +kernel
theorem dX3_inState_18 : decode cX3_inState 18 = .ok (.iload 4, 2) := by decide +kernel
theorem dX3_inState_20 : decode cX3_inState 20 = .ok (.iaload, 1) := by decide +kernel
theorem dX3_inState_21 : decode cX3_inState 21 = .ok (.iload_n 2, 1) := by decide +kernel
theorem dX3_inState_22 : decode cX3_inState 22 = .ok (.if_icmp .ne 6, 3) := by decide +kernel
theorem dX3_inState_25 : decode cX3_inState 25 = .ok (.iinc 3 1, 3) := by decide +kernel
theorem dX3_inState_28 : decode cX3_inState 28 = .ok (.iinc 4 1, 3) := by decide +kernel
theorem dX3_inState_31 : decode cX3_inState 31 = .ok (.goto (-26), 3) := by decide +kernel
theorem dX3_inState_34 : decode cX3_inState 34 = .ok (.iload_n 3, 1) := by decide +kernel
theorem dX3_inState_35 : decode cX3_inState 35 = .ok (.ireturn, 1) := by decide +kernel
def mX3_inState : MM := (yX3_inState, cX3_inState, 5, Option.some Jvm.ClassFile.FieldType.int, { frames := 0, cells := 0, slots := 0, locals := 0 })
def X3_inState_L5 (σ_ : SS) (o1_ : Nat) (u2_ : Int32)  : Nat → Int32 → Int32 → Option Int32 :=
  lp (fun _ _ => none) fun rec v3_ v4_ =>
    if (gI σ_ o1_ 5) ≤ v4_ then (
      some v3_
      ) else (
      grd (inb v4_ 12) <|
      if (gI σ_ 54 (Int32.toNatClampNeg v4_)) = u2_ then (
        rec (v3_ + (1 : Int32)) (v4_ + (1 : Int32))
        ) else (
        rec v3_ (v4_ + (1 : Int32))
        )
      )

def fX3_inState (σ0 : SS) (a1 : Nat) (a2 : Int32) : Option Int32 :=
  X3_inState_L5 σ0 a1 a2
  fuel (0 : Int32) (0 : Int32)

set_option maxRecDepth 20000 in
theorem sX3_inState_L5 {g : GG} {r : Int32} {σ_ : SS} {σ0 : SS} {o1_ : Nat} {u2_ : Int32}  (hs1_ : shp o1_ = (1, 0))
    (hw_ : WT σ_)
    (h0_ : σ_ = σ0)
    (n : Nat) : ∀ (v3_ : Int32) (v4_ : Int32), X3_inState_L5 σ_ o1_ u2_ n v3_ v4_ = some r → RR g mX3_inState (FinR g mX3_inState (some (.int r)) NF σ0) zF 5 [(0, .ref (ad g 31)), (1, .ref (ad g o1_)), (2, .int u2_), (3, .int v3_), (4, .int v4_)] [] σ_ := by
  unfold X3_inState_L5
  refine lp_ind (P := fun (rec : Int32 → Int32 → Option Int32) => ∀ (v3_ : Int32) (v4_ : Int32), rec v3_ v4_ = some r → RR g mX3_inState (FinR g mX3_inState (some (.int r)) NF σ0) zF 5 [(0, .ref (ad g 31)), (1, .ref (ad g o1_)), (2, .int u2_), (3, .int v3_), (4, .int v4_)] [] σ_) ?_ ?_ n
  · intro v3_ v4_ hr; cases hr
  intro rec ih v3_ v4_ hr
  subst h0_
  refine r_iload (pc := 5) (j := 4) dX3_inState_5 rfl ?_
  refine r_aload_n (pc := 7) (j := 1) dX3_inState_7 rfl rfl ?_
  refine gf1_5 (pc := 8) tw_1_80 hs1_ dX3_inState_8 ?_
  refine r_icmp_ge (pc := 11) (tgt := 34) dX3_inState_11 rfl (fun hc => ?_) (fun hc => ?_)
  · replace hr := ite_t hc hr
    refine r_iload_n (pc := 34) (j := 3) dX3_inState_34 rfl rfl ?_
    exact l_opi hr (r_iret (pc := 35) (v := v3_) rfl rfl ⟨Nat.le_refl _, Nat.le_refl _⟩ dX3_inState_35)
  replace hr := ite_f hc hr
  refine r_aload_n (pc := 14) (j := 0) dX3_inState_14 rfl rfl ?_
  refine gf3_8 (pc := 15) tw_2_36 hw_ dX3_inState_15 ?_
  refine r_iload (pc := 18) (j := 4) dX3_inState_18 rfl ?_
  obtain ⟨h1, hr⟩ := grd_inv hr
  refine x_iald (pc := 20) (k := (Int32.toNatClampNeg v4_)) rfl h1 rfl dX3_inState_20 ?_
  refine r_iload_n (pc := 21) (j := 2) dX3_inState_21 rfl rfl ?_
  refine r_icmp_ne (pc := 22) (tgt := 28) dX3_inState_22 rfl (fun hc => ?_) (fun hc => ?_)
  · replace hr := ite_f hc hr
    refine r_iinc (pc := 28) (j := 4) (v := (v4_ + (1 : Int32))) (ls1 := [(4, .int (v4_ + (1 : Int32))), (0, .ref (ad g 31)), (1, .ref (ad g o1_)), (2, .int u2_), (3, .int v3_)]) dX3_inState_28 rfl rfl (nle rfl) rfl ?_
    refine r_goto (pc := 31) (tgt := 5) dX3_inState_31 rfl ?_
    exact r_pick (ls1 := [(0, .ref (ad g 31)), (1, .ref (ad g o1_)), (2, .int u2_), (3, .int v3_), (4, .int (v4_ + (1 : Int32)))]) [1, 2, 3, 4, 0] rfl (ih v3_ (v4_ + (1 : Int32)) hr)
  replace hr := ite_t hc hr
  refine r_iinc (pc := 25) (j := 3) (v := (v3_ + (1 : Int32))) (ls1 := [(3, .int (v3_ + (1 : Int32))), (0, .ref (ad g 31)), (1, .ref (ad g o1_)), (2, .int u2_), (4, .int v4_)]) dX3_inState_25 rfl rfl (nle rfl) rfl ?_
  refine r_iinc (pc := 28) (j := 4) (v := (v4_ + (1 : Int32))) (ls1 := [(4, .int (v4_ + (1 : Int32))), (3, .int (v3_ + (1 : Int32))), (0, .ref (ad g 31)), (1, .ref (ad g o1_)), (2, .int u2_)]) dX3_inState_28 rfl rfl (nle rfl) rfl ?_
  refine r_goto (pc := 31) (tgt := 5) dX3_inState_31 rfl ?_
  exact r_pick (ls1 := [(0, .ref (ad g 31)), (1, .ref (ad g o1_)), (2, .int u2_), (3, .int (v3_ + (1 : Int32))), (4, .int (v4_ + (1 : Int32)))]) [2, 3, 4, 1, 0] rfl (ih (v3_ + (1 : Int32)) (v4_ + (1 : Int32)) hr)

set_option maxRecDepth 20000 in
theorem sX3_inState {g : GG} {σ0 : SS} {a1 : Nat} {a2 : Int32} {r : Int32} (hr : fX3_inState σ0 a1 a2 = some r) (hs1 : shp a1 = (1, 0)) : Ct g mX3_inState [.ref (ad g 31), .ref (ad g a1), .int a2] NF σ0 (some (.int r)) NF σ0 := by
  refine Ct.of (by decide +kernel) (nle rfl) fun hw0 => ?_
  have hw := hw0 rfl
  unfold fX3_inState at hr
  change RR g mX3_inState (FinR g mX3_inState (some (.int r)) NF σ0) zF 0 [(0, .ref (ad g 31)), (1, .ref (ad g a1)), (2, .int a2)] [] σ0
  refine r_iconst (pc := 0) (v := (0 : Int32)) dX3_inState_0 rfl ?_
  refine r_istore_n (pc := 1) (ls1 := [(3, .int (0 : Int32)), (0, .ref (ad g 31)), (1, .ref (ad g a1)), (2, .int a2)]) dX3_inState_1 rfl (nle rfl) rfl ?_
  refine r_iconst (pc := 2) (v := (0 : Int32)) dX3_inState_2 rfl ?_
  refine r_istore (pc := 3) (ls1 := [(4, .int (0 : Int32)), (3, .int (0 : Int32)), (0, .ref (ad g 31)), (1, .ref (ad g a1)), (2, .int a2)]) dX3_inState_3 (nle rfl) rfl ?_
  refine r_pick (ls1 := [(0, .ref (ad g 31)), (1, .ref (ad g a1)), (2, .int a2), (3, .int (0 : Int32)), (4, .int (0 : Int32))]) [2, 3, 4, 1, 0] rfl ?_
  refine sX3_inState_L5 hs1 hw rfl  fuel (0 : Int32) (0 : Int32) hr

theorem kX3_inState {g : GG} {σ0 : SS} {a1 : Nat} {a2 : Int32} {v : Int32} {M : MM} {F : State → Array Value → List Frame → State → Prop} {pc index : Nat} {ls : List (Nat × Value)} {rest : List Value} (hf : fX3_inState σ0 a1 a2 = some v) (hs1 : shp a1 = (1, 0)) (hl : Cond.methodLink M.1.cls index yX3_inState ∈ lw_gt) (hR : mX3_inState.2.2.2.2.frames + 1 ≤ M.2.2.2.2.frames ∧ 8 + (mX3_inState.2.2.1 + 11) + mX3_inState.2.2.2.2.locals ≤ M.2.2.2.2.locals) (hrest : (rest.map fun v => v.category).sum ≤ 8) (hd : decode M.2.1 pc = .ok (.invokevirtual index, 3)) (k : RR g M F zF (pc + 3) ls (.int v :: rest) σ0) : RR g M F zF pc ls (.int a2 :: .ref (ad g a1) :: .ref (ad g 31) :: rest) σ0 :=
  r_callV (z := zF) (N := mX3_inState) (nn := 2) (o1 := some (.int v)) (sX3_inState hf hs1) (rfl : shp 31 = (3, 0)) (by decide) (shp_le (rfl : shp 31 = (3, 0)) (nle rfl)) (ci := 3) rfl rfl tw_3_66 tw_1_5 hl tw_3_64 tw_3_65 ⟨by decide, by decide, rfl⟩ hR rfl hrest hd ⟨Nat.zero_le _, Nat.zero_le _⟩ rfl (fun h => k)

theorem dX3_leftEmpty_0 : decode cX3_leftEmpty 0 = .ok (.iconst 0, 1) := by decide +kernel
theorem dX3_leftEmpty_1 : decode cX3_leftEmpty 1 = .ok (.istore_n 2, 1) := by decide +kernel
theorem dX3_leftEmpty_2 : decode cX3_leftEmpty 2 = .ok (.iconst 0, 1) := by decide +kernel
theorem dX3_leftEmpty_3 : decode cX3_leftEmpty 3 = .ok (.istore_n 3, 1) := by decide +kernel
theorem dX3_leftEmpty_4 : decode cX3_leftEmpty 4 = .ok (.iload_n 3, 1) := by decide +kernel
theorem dX3_leftEmpty_5 : decode cX3_leftEmpty 5 = .ok (.aload_n 1, 1) := by decide +kernel
theorem dX3_leftEmpty_6 : decode cX3_leftEmpty 6 = .ok (.getfield 140, 3) := by decide +kernel
theorem dX3_leftEmpty_9 : decode cX3_leftEmpty 9 = .ok (.if_icmp .ge 30, 3) := by decide +kernel
theorem dX3_leftEmpty_12 : decode cX3_leftEmpty 12 = .ok (.aload_n 0, 1) := by decide +kernel
theorem dX3_leftEmpty_13 : decode cX3_leftEmpty 13 = .ok (.getfield 41, 3) := by decide +kernel
theorem dX3_leftEmpty_16 : decode cX3_leftEmpty 16 = .ok (.iload_n 3, 1) := by decide +kernel
theorem dX3_leftEmpty_17 : decode cX3_leftEmpty 17 = .ok (.iaload, 1) := by decide +kernel
theorem dX3_leftEmpty_18 : decode cX3_leftEmpty 18 = .ok (.ifCond .ne 15, 3) := by decide +kernel
theorem dX3_leftEmpty_21 : decode cX3_leftEmpty 21 = .ok (.aload_n 0, 1) := by decide +kernel
theorem dX3_leftEmpty_22 : decode cX3_leftEmpty 22 = .ok (.getfield 38, 3) := by decide +kernel
theorem dX3_leftEmpty_25 : decode cX3_leftEmpty 25 = .ok (.iload_n 3, 1) := by decide +kernel
theorem dX3_leftEmpty_26 : decode cX3_leftEmpty 26 = .ok (.iaload, 1) := by decide +kernel
theorem dX3_leftEmpty_27 : decode cX3_leftEmpty 27 = .ok (.ifCond .ne 6, 3) := by decide +kernel
theorem dX3_leftEmpty_30 : decode cX3_leftEmpty 30 = .ok (.iinc 2 1, 3) := by decide +kernel
theorem dX3_leftEmpty_33 : decode cX3_leftEmpty 33 = .ok (.iinc 3 1, 3) := by decide +kernel
theorem dX3_leftEmpty_36 : decode cX3_leftEmpty 36 = .ok (.goto (-32), 3) := by decide +kernel
theorem dX3_leftEmpty_39 : decode cX3_leftEmpty 39 = .ok (.iload_n 2, 1) := by decide +kernel
theorem dX3_leftEmpty_40 : decode cX3_leftEmpty 40 = .ok (.ireturn, 1) := by decide +kernel
def mX3_leftEmpty : MM := (yX3_leftEmpty, cX3_leftEmpty, 4, Option.some Jvm.ClassFile.FieldType.int, { frames := 0, cells := 0, slots := 0, locals := 0 })
def X3_leftEmpty_L4 (σ_ : SS) (o1_ : Nat)  : Nat → Int32 → Int32 → Option Int32 :=
  lp (fun _ _ => none) fun rec v2_ v3_ =>
    if (gI σ_ o1_ 5) ≤ v3_ then (
      some v2_
      ) else (
      grd (inb v3_ 12) <|
      if (gI σ_ 54 (Int32.toNatClampNeg v3_)) = 0 then (
        if (gI σ_ 53 (Int32.toNatClampNeg v3_)) = 0 then (
          rec (v2_ + (1 : Int32)) (v3_ + (1 : Int32))
          ) else (
          rec v2_ (v3_ + (1 : Int32))
          )
        ) else (
        rec v2_ (v3_ + (1 : Int32))
        )
      )

def fX3_leftEmpty (σ0 : SS) (a1 : Nat) : Option Int32 :=
  X3_leftEmpty_L4 σ0 a1
  fuel (0 : Int32) (0 : Int32)

set_option maxRecDepth 20000 in
theorem sX3_leftEmpty_L4 {g : GG} {r : Int32} {σ_ : SS} {σ0 : SS} {o1_ : Nat}  (hs1_ : shp o1_ = (1, 0))
    (hw_ : WT σ_)
    (h0_ : σ_ = σ0)
    (n : Nat) : ∀ (v2_ : Int32) (v3_ : Int32), X3_leftEmpty_L4 σ_ o1_ n v2_ v3_ = some r → RR g mX3_leftEmpty (FinR g mX3_leftEmpty (some (.int r)) NF σ0) zF 4 [(0, .ref (ad g 31)), (1, .ref (ad g o1_)), (2, .int v2_), (3, .int v3_)] [] σ_ := by
  unfold X3_leftEmpty_L4
  refine lp_ind (P := fun (rec : Int32 → Int32 → Option Int32) => ∀ (v2_ : Int32) (v3_ : Int32), rec v2_ v3_ = some r → RR g mX3_leftEmpty (FinR g mX3_leftEmpty (some (.int r)) NF σ0) zF 4 [(0, .ref (ad g 31)), (1, .ref (ad g o1_)), (2, .int v2_), (3, .int v3_)] [] σ_) ?_ ?_ n
  · intro v2_ v3_ hr; cases hr
  intro rec ih v2_ v3_ hr
  subst h0_
  refine r_iload_n (pc := 4) (j := 3) dX3_leftEmpty_4 rfl rfl ?_
  refine r_aload_n (pc := 5) (j := 1) dX3_leftEmpty_5 rfl rfl ?_
  refine gf1_5 (pc := 6) tw_1_80 hs1_ dX3_leftEmpty_6 ?_
  refine r_icmp_ge (pc := 9) (tgt := 39) dX3_leftEmpty_9 rfl (fun hc => ?_) (fun hc => ?_)
  · replace hr := ite_t hc hr
    refine r_iload_n (pc := 39) (j := 2) dX3_leftEmpty_39 rfl rfl ?_
    exact l_opi hr (r_iret (pc := 40) (v := v2_) rfl rfl ⟨Nat.le_refl _, Nat.le_refl _⟩ dX3_leftEmpty_40)
  replace hr := ite_f hc hr
  refine r_aload_n (pc := 12) (j := 0) dX3_leftEmpty_12 rfl rfl ?_
  refine gf3_8 (pc := 13) tw_2_36 hw_ dX3_leftEmpty_13 ?_
  refine r_iload_n (pc := 16) (j := 3) dX3_leftEmpty_16 rfl rfl ?_
  obtain ⟨h1, hr⟩ := grd_inv hr
  refine x_iald (pc := 17) (k := (Int32.toNatClampNeg v3_)) rfl h1 rfl dX3_leftEmpty_17 ?_
  refine r_if_ne (pc := 18) (tgt := 33) dX3_leftEmpty_18 rfl (fun hc => ?_) (fun hc => ?_)
  · replace hr := ite_f hc hr
    refine r_iinc (pc := 33) (j := 3) (v := (v3_ + (1 : Int32))) (ls1 := [(3, .int (v3_ + (1 : Int32))), (0, .ref (ad g 31)), (1, .ref (ad g o1_)), (2, .int v2_)]) dX3_leftEmpty_33 rfl rfl (nle rfl) rfl ?_
    refine r_goto (pc := 36) (tgt := 4) dX3_leftEmpty_36 rfl ?_
    exact r_pick (ls1 := [(0, .ref (ad g 31)), (1, .ref (ad g o1_)), (2, .int v2_), (3, .int (v3_ + (1 : Int32)))]) [1, 2, 3, 0] rfl (ih v2_ (v3_ + (1 : Int32)) hr)
  replace hr := ite_t hc hr
  refine r_aload_n (pc := 21) (j := 0) dX3_leftEmpty_21 rfl rfl ?_
  refine gf3_7 (pc := 22) tw_2_33 hw_ dX3_leftEmpty_22 ?_
  refine r_iload_n (pc := 25) (j := 3) dX3_leftEmpty_25 rfl rfl ?_
  refine x_iald (pc := 26) (k := (Int32.toNatClampNeg v3_)) rfl h1 rfl dX3_leftEmpty_26 ?_
  refine r_if_ne (pc := 27) (tgt := 33) dX3_leftEmpty_27 rfl (fun hc => ?_) (fun hc => ?_)
  · replace hr := ite_f hc hr
    refine r_iinc (pc := 33) (j := 3) (v := (v3_ + (1 : Int32))) (ls1 := [(3, .int (v3_ + (1 : Int32))), (0, .ref (ad g 31)), (1, .ref (ad g o1_)), (2, .int v2_)]) dX3_leftEmpty_33 rfl rfl (nle rfl) rfl ?_
    refine r_goto (pc := 36) (tgt := 4) dX3_leftEmpty_36 rfl ?_
    exact r_pick (ls1 := [(0, .ref (ad g 31)), (1, .ref (ad g o1_)), (2, .int v2_), (3, .int (v3_ + (1 : Int32)))]) [1, 2, 3, 0] rfl (ih v2_ (v3_ + (1 : Int32)) hr)
  replace hr := ite_t hc hr
  refine r_iinc (pc := 30) (j := 2) (v := (v2_ + (1 : Int32))) (ls1 := [(2, .int (v2_ + (1 : Int32))), (0, .ref (ad g 31)), (1, .ref (ad g o1_)), (3, .int v3_)]) dX3_leftEmpty_30 rfl rfl (nle rfl) rfl ?_
  refine r_iinc (pc := 33) (j := 3) (v := (v3_ + (1 : Int32))) (ls1 := [(3, .int (v3_ + (1 : Int32))), (2, .int (v2_ + (1 : Int32))), (0, .ref (ad g 31)), (1, .ref (ad g o1_))]) dX3_leftEmpty_33 rfl rfl (nle rfl) rfl ?_
  refine r_goto (pc := 36) (tgt := 4) dX3_leftEmpty_36 rfl ?_
  exact r_pick (ls1 := [(0, .ref (ad g 31)), (1, .ref (ad g o1_)), (2, .int (v2_ + (1 : Int32))), (3, .int (v3_ + (1 : Int32)))]) [2, 3, 1, 0] rfl (ih (v2_ + (1 : Int32)) (v3_ + (1 : Int32)) hr)

set_option maxRecDepth 20000 in
theorem sX3_leftEmpty {g : GG} {σ0 : SS} {a1 : Nat} {r : Int32} (hr : fX3_leftEmpty σ0 a1 = some r) (hs1 : shp a1 = (1, 0)) : Ct g mX3_leftEmpty [.ref (ad g 31), .ref (ad g a1)] NF σ0 (some (.int r)) NF σ0 := by
  refine Ct.of (by decide +kernel) (nle rfl) fun hw0 => ?_
  have hw := hw0 rfl
  unfold fX3_leftEmpty at hr
  change RR g mX3_leftEmpty (FinR g mX3_leftEmpty (some (.int r)) NF σ0) zF 0 [(0, .ref (ad g 31)), (1, .ref (ad g a1))] [] σ0
  refine r_iconst (pc := 0) (v := (0 : Int32)) dX3_leftEmpty_0 rfl ?_
  refine r_istore_n (pc := 1) (ls1 := [(2, .int (0 : Int32)), (0, .ref (ad g 31)), (1, .ref (ad g a1))]) dX3_leftEmpty_1 rfl (nle rfl) rfl ?_
  refine r_iconst (pc := 2) (v := (0 : Int32)) dX3_leftEmpty_2 rfl ?_
  refine r_istore_n (pc := 3) (ls1 := [(3, .int (0 : Int32)), (2, .int (0 : Int32)), (0, .ref (ad g 31)), (1, .ref (ad g a1))]) dX3_leftEmpty_3 rfl (nle rfl) rfl ?_
  refine r_pick (ls1 := [(0, .ref (ad g 31)), (1, .ref (ad g a1)), (2, .int (0 : Int32)), (3, .int (0 : Int32))]) [2, 3, 1, 0] rfl ?_
  refine sX3_leftEmpty_L4 hs1 hw rfl  fuel (0 : Int32) (0 : Int32) hr

theorem kX3_leftEmpty {g : GG} {σ0 : SS} {a1 : Nat} {v : Int32} {M : MM} {F : State → Array Value → List Frame → State → Prop} {pc index : Nat} {ls : List (Nat × Value)} {rest : List Value} (hf : fX3_leftEmpty σ0 a1 = some v) (hs1 : shp a1 = (1, 0)) (hl : Cond.methodLink M.1.cls index yX3_leftEmpty ∈ lw_gt) (hR : mX3_leftEmpty.2.2.2.2.frames + 1 ≤ M.2.2.2.2.frames ∧ 8 + (mX3_leftEmpty.2.2.1 + 11) + mX3_leftEmpty.2.2.2.2.locals ≤ M.2.2.2.2.locals) (hrest : (rest.map fun v => v.category).sum ≤ 8) (hd : decode M.2.1 pc = .ok (.invokevirtual index, 3)) (k : RR g M F zF (pc + 3) ls (.int v :: rest) σ0) : RR g M F zF pc ls (.ref (ad g a1) :: .ref (ad g 31) :: rest) σ0 :=
  r_callV (z := zF) (N := mX3_leftEmpty) (nn := 1) (o1 := some (.int v)) (sX3_leftEmpty hf hs1) (rfl : shp 31 = (3, 0)) (by decide) (shp_le (rfl : shp 31 = (3, 0)) (nle rfl)) (ci := 3) rfl rfl tw_3_70 tw_1_5 hl tw_3_68 tw_3_69 ⟨by decide, by decide, rfl⟩ hR rfl hrest hd ⟨Nat.zero_le _, Nat.zero_le _⟩ rfl (fun h => k)

theorem dJ6_bitCount_0f7a4_0 : decode cJ6_bitCount_0f7a4 0 = .ok (.iload_n 0, 1) := by decide +kernel
theorem dJ6_bitCount_0f7a4_1 : decode cJ6_bitCount_0f7a4 1 = .ok (.iload_n 0, 1) := by decide +kernel
theorem dJ6_bitCount_0f7a4_2 : decode cJ6_bitCount_0f7a4 2 = .ok (.iconst 1, 1) := by decide +kernel
theorem dJ6_bitCount_0f7a4_3 : decode cJ6_bitCount_0f7a4 3 = .ok (.iushr, 1) := by decide +kernel
theorem dJ6_bitCount_0f7a4_4 : decode cJ6_bitCount_0f7a4 4 = .ok (.ldc_w 265, 3) := by decide +kernel
theorem dJ6_bitCount_0f7a4_7 : decode cJ6_bitCount_0f7a4 7 = .ok (.iand, 1) := by decide +kernel
theorem dJ6_bitCount_0f7a4_8 : decode cJ6_bitCount_0f7a4 8 = .ok (.isub, 1) := by decide +kernel
theorem dJ6_bitCount_0f7a4_9 : decode cJ6_bitCount_0f7a4 9 = .ok (.istore_n 0, 1) := by decide +kernel
theorem dJ6_bitCount_0f7a4_10 : decode cJ6_bitCount_0f7a4 10 = .ok (.iload_n 0, 1) := by decide +kernel
theorem dJ6_bitCount_0f7a4_11 : decode cJ6_bitCount_0f7a4 11 = .ok (.ldc_w 266, 3) := by decide +kernel
theorem dJ6_bitCount_0f7a4_14 : decode cJ6_bitCount_0f7a4 14 = .ok (.iand, 1) := by decide +kernel
theorem dJ6_bitCount_0f7a4_15 : decode cJ6_bitCount_0f7a4 15 = .ok (.iload_n 0, 1) := by decide +kernel
theorem dJ6_bitCount_0f7a4_16 : decode cJ6_bitCount_0f7a4 16 = .ok (.iconst 2, 1) := by decide +kernel
theorem dJ6_bitCount_0f7a4_17 : decode cJ6_bitCount_0f7a4 17 = .ok (.iushr, 1) := by decide +kernel
theorem dJ6_bitCount_0f7a4_18 : decode cJ6_bitCount_0f7a4 18 = .ok (.ldc_w 266, 3) := by decide +kernel
theorem dJ6_bitCount_0f7a4_21 : decode cJ6_bitCount_0f7a4 21 = .ok (.iand, 1) := by decide +kernel
theorem dJ6_bitCount_0f7a4_22 : decode cJ6_bitCount_0f7a4 22 = .ok (.iadd, 1) := by decide +kernel
theorem dJ6_bitCount_0f7a4_23 : decode cJ6_bitCount_0f7a4 23 = .ok (.istore_n 0, 1) := by decide +kernel
theorem dJ6_bitCount_0f7a4_24 : decode cJ6_bitCount_0f7a4 24 = .ok (.iload_n 0, 1) := by decide +kernel
theorem dJ6_bitCount_0f7a4_25 : decode cJ6_bitCount_0f7a4 25 = .ok (.iload_n 0, 1) := by decide +kernel
theorem dJ6_bitCount_0f7a4_26 : decode cJ6_bitCount_0f7a4 26 = .ok (.iconst 4, 1) := by decide +kernel
theorem dJ6_bitCount_0f7a4_27 : decode cJ6_bitCount_0f7a4 27 = .ok (.iushr, 1) := by decide +kernel
theorem dJ6_bitCount_0f7a4_28 : decode cJ6_bitCount_0f7a4 28 = .ok (.iadd, 1) := by decide +kernel
theorem dJ6_bitCount_0f7a4_29 : decode cJ6_bitCount_0f7a4 29 = .ok (.ldc_w 267, 3) := by decide +kernel
theorem dJ6_bitCount_0f7a4_32 : decode cJ6_bitCount_0f7a4 32 = .ok (.iand, 1) := by decide +kernel
theorem dJ6_bitCount_0f7a4_33 : decode cJ6_bitCount_0f7a4 33 = .ok (.istore_n 0, 1) := by decide +kernel
theorem dJ6_bitCount_0f7a4_34 : decode cJ6_bitCount_0f7a4 34 = .ok (.iload_n 0, 1) := by decide +kernel
theorem dJ6_bitCount_0f7a4_35 : decode cJ6_bitCount_0f7a4 35 = .ok (.iload_n 0, 1) := by decide +kernel
theorem dJ6_bitCount_0f7a4_36 : decode cJ6_bitCount_0f7a4 36 = .ok (.bipush 8, 2) := by decide +kernel
theorem dJ6_bitCount_0f7a4_38 : decode cJ6_bitCount_0f7a4 38 = .ok (.iushr, 1) := by decide +kernel
theorem dJ6_bitCount_0f7a4_39 : decode cJ6_bitCount_0f7a4 39 = .ok (.iadd, 1) := by decide +kernel
theorem dJ6_bitCount_0f7a4_40 : decode cJ6_bitCount_0f7a4 40 = .ok (.istore_n 0, 1) := by decide +kernel
theorem dJ6_bitCount_0f7a4_41 : decode cJ6_bitCount_0f7a4 41 = .ok (.iload_n 0, 1) := by decide +kernel
theorem dJ6_bitCount_0f7a4_42 : decode cJ6_bitCount_0f7a4 42 = .ok (.iload_n 0, 1) := by decide +kernel
theorem dJ6_bitCount_0f7a4_43 : decode cJ6_bitCount_0f7a4 43 = .ok (.bipush 16, 2) := by decide +kernel
theorem dJ6_bitCount_0f7a4_45 : decode cJ6_bitCount_0f7a4 45 = .ok (.iushr, 1) := by decide +kernel
theorem dJ6_bitCount_0f7a4_46 : decode cJ6_bitCount_0f7a4 46 = .ok (.iadd, 1) := by decide +kernel
theorem dJ6_bitCount_0f7a4_47 : decode cJ6_bitCount_0f7a4 47 = .ok (.istore_n 0, 1) := by decide +kernel
theorem dJ6_bitCount_0f7a4_48 : decode cJ6_bitCount_0f7a4 48 = .ok (.iload_n 0, 1) := by decide +kernel
theorem dJ6_bitCount_0f7a4_49 : decode cJ6_bitCount_0f7a4 49 = .ok (.bipush 63, 2) := by decide +kernel
theorem dJ6_bitCount_0f7a4_51 : decode cJ6_bitCount_0f7a4 51 = .ok (.iand, 1) := by decide +kernel
theorem dJ6_bitCount_0f7a4_52 : decode cJ6_bitCount_0f7a4 52 = .ok (.ireturn, 1) := by decide +kernel
def mJ6_bitCount_0f7a4 : MM := (yJ6_bitCount_0f7a4, cJ6_bitCount_0f7a4, 1, Option.some Jvm.ClassFile.FieldType.int, { frames := 0, cells := 0, slots := 0, locals := 0 })
def fJ6_bitCount_0f7a4 (σ0 : SS) (a0 : Int32) : Int32 :=
  vthen (a0 - (((Int32.toUInt32 a0 >>> (Int32.toUInt32 (1 : Int32) &&& Int32.toUInt32 31)).toInt32) &&& (1431655765 : Int32))) fun v1 =>
  vthen ((v1 &&& (858993459 : Int32)) + (((Int32.toUInt32 v1 >>> (Int32.toUInt32 (2 : Int32) &&& Int32.toUInt32 31)).toInt32) &&& (858993459 : Int32))) fun v2 =>
  vthen ((v2 + ((Int32.toUInt32 v2 >>> (Int32.toUInt32 (4 : Int32) &&& Int32.toUInt32 31)).toInt32)) &&& (252645135 : Int32)) fun v3 =>
  vthen (v3 + ((Int32.toUInt32 v3 >>> (Int32.toUInt32 (8 : Int32) &&& Int32.toUInt32 31)).toInt32)) fun v4 =>
  vthen (v4 + ((Int32.toUInt32 v4 >>> (Int32.toUInt32 (16 : Int32) &&& Int32.toUInt32 31)).toInt32)) fun v5 =>
  (v5 &&& (63 : Int32))

set_option maxRecDepth 20000 in
theorem sJ6_bitCount_0f7a4 {g : GG} {σ0 : SS} {a0 : Int32} {r : Int32} (hr : fJ6_bitCount_0f7a4 σ0 a0 = r)  : Ct g mJ6_bitCount_0f7a4 [.int a0] NF σ0 (some (.int r)) NF σ0 := by
  refine Ct.of (by decide +kernel) (nle rfl) fun hw0 => ?_
  have hw := hw0 rfl
  unfold fJ6_bitCount_0f7a4 at hr
  change RR g mJ6_bitCount_0f7a4 (FinR g mJ6_bitCount_0f7a4 (some (.int r)) NF σ0) zF 0 [(0, .int a0)] [] σ0
  refine r_iload_n (pc := 0) (j := 0) dJ6_bitCount_0f7a4_0 rfl rfl ?_
  refine r_iload_n (pc := 1) (j := 0) dJ6_bitCount_0f7a4_1 rfl rfl ?_
  refine r_iconst (pc := 2) (v := (1 : Int32)) dJ6_bitCount_0f7a4_2 rfl ?_
  refine r_iushr (pc := 3) dJ6_bitCount_0f7a4_3 ?_
  refine r_ldcw (pc := 4) (v := (1431655765 : Int32)) dJ6_bitCount_0f7a4_4 tw_3_78 ?_
  refine r_iand (pc := 7) dJ6_bitCount_0f7a4_7 ?_
  refine r_isub (pc := 8) dJ6_bitCount_0f7a4_8 ?_
  refine r_topi fun v1 ev1 => ?_
  replace hr := vthen_inv hr v1 ev1
  refine r_istore_n (pc := 9) (ls1 := [(0, .int v1)]) dJ6_bitCount_0f7a4_9 rfl (nle rfl) rfl ?_
  refine r_iload_n (pc := 10) (j := 0) dJ6_bitCount_0f7a4_10 rfl rfl ?_
  refine r_ldcw (pc := 11) (v := (858993459 : Int32)) dJ6_bitCount_0f7a4_11 tw_3_79 ?_
  refine r_iand (pc := 14) dJ6_bitCount_0f7a4_14 ?_
  refine r_iload_n (pc := 15) (j := 0) dJ6_bitCount_0f7a4_15 rfl rfl ?_
  refine r_iconst (pc := 16) (v := (2 : Int32)) dJ6_bitCount_0f7a4_16 rfl ?_
  refine r_iushr (pc := 17) dJ6_bitCount_0f7a4_17 ?_
  refine r_ldcw (pc := 18) (v := (858993459 : Int32)) dJ6_bitCount_0f7a4_18 tw_3_79 ?_
  refine r_iand (pc := 21) dJ6_bitCount_0f7a4_21 ?_
  refine r_iadd (pc := 22) dJ6_bitCount_0f7a4_22 ?_
  refine r_topi fun v2 ev2 => ?_
  replace hr := vthen_inv hr v2 ev2
  refine r_istore_n (pc := 23) (ls1 := [(0, .int v2)]) dJ6_bitCount_0f7a4_23 rfl (nle rfl) rfl ?_
  refine r_iload_n (pc := 24) (j := 0) dJ6_bitCount_0f7a4_24 rfl rfl ?_
  refine r_iload_n (pc := 25) (j := 0) dJ6_bitCount_0f7a4_25 rfl rfl ?_
  refine r_iconst (pc := 26) (v := (4 : Int32)) dJ6_bitCount_0f7a4_26 rfl ?_
  refine r_iushr (pc := 27) dJ6_bitCount_0f7a4_27 ?_
  refine r_iadd (pc := 28) dJ6_bitCount_0f7a4_28 ?_
  refine r_ldcw (pc := 29) (v := (252645135 : Int32)) dJ6_bitCount_0f7a4_29 tw_3_80 ?_
  refine r_iand (pc := 32) dJ6_bitCount_0f7a4_32 ?_
  refine r_topi fun v3 ev3 => ?_
  replace hr := vthen_inv hr v3 ev3
  refine r_istore_n (pc := 33) (ls1 := [(0, .int v3)]) dJ6_bitCount_0f7a4_33 rfl (nle rfl) rfl ?_
  refine r_iload_n (pc := 34) (j := 0) dJ6_bitCount_0f7a4_34 rfl rfl ?_
  refine r_iload_n (pc := 35) (j := 0) dJ6_bitCount_0f7a4_35 rfl rfl ?_
  refine r_bipush (pc := 36) (v := (8 : Int32)) dJ6_bitCount_0f7a4_36 rfl ?_
  refine r_iushr (pc := 38) dJ6_bitCount_0f7a4_38 ?_
  refine r_iadd (pc := 39) dJ6_bitCount_0f7a4_39 ?_
  refine r_topi fun v4 ev4 => ?_
  replace hr := vthen_inv hr v4 ev4
  refine r_istore_n (pc := 40) (ls1 := [(0, .int v4)]) dJ6_bitCount_0f7a4_40 rfl (nle rfl) rfl ?_
  refine r_iload_n (pc := 41) (j := 0) dJ6_bitCount_0f7a4_41 rfl rfl ?_
  refine r_iload_n (pc := 42) (j := 0) dJ6_bitCount_0f7a4_42 rfl rfl ?_
  refine r_bipush (pc := 43) (v := (16 : Int32)) dJ6_bitCount_0f7a4_43 rfl ?_
  refine r_iushr (pc := 45) dJ6_bitCount_0f7a4_45 ?_
  refine r_iadd (pc := 46) dJ6_bitCount_0f7a4_46 ?_
  refine r_topi fun v5 ev5 => ?_
  replace hr := vthen_inv hr v5 ev5
  refine r_istore_n (pc := 47) (ls1 := [(0, .int v5)]) dJ6_bitCount_0f7a4_47 rfl (nle rfl) rfl ?_
  refine r_iload_n (pc := 48) (j := 0) dJ6_bitCount_0f7a4_48 rfl rfl ?_
  refine r_bipush (pc := 49) (v := (63 : Int32)) dJ6_bitCount_0f7a4_49 rfl ?_
  refine r_iand (pc := 51) dJ6_bitCount_0f7a4_51 ?_
  exact l_pi hr (r_iret (pc := 52) (v := (v5 &&& (63 : Int32))) rfl rfl ⟨Nat.le_refl _, Nat.le_refl _⟩ dJ6_bitCount_0f7a4_52)

theorem kJ6_bitCount_0f7a4 {g : GG} {σ0 : SS} {a0 : Int32} {v : Int32} {M : MM} {F : State → Array Value → List Frame → State → Prop} {pc index : Nat} {ls : List (Nat × Value)} {rest : List Value} (hf : fJ6_bitCount_0f7a4 σ0 a0 = v)  (hl : Cond.methodLink M.1.cls index yJ6_bitCount_0f7a4 ∈ lw_gt) (hR : mJ6_bitCount_0f7a4.2.2.2.2.frames + 1 ≤ M.2.2.2.2.frames ∧ 8 + (mJ6_bitCount_0f7a4.2.2.1 + 11) + mJ6_bitCount_0f7a4.2.2.2.2.locals ≤ M.2.2.2.2.locals) (hrest : (rest.map fun v => v.category).sum ≤ 8) (hd : decode M.2.1 pc = .ok (.invokestatic index, 3)) (k : RR g M F zF (pc + 3) ls (.int v :: rest) σ0) : RR g M F zF pc ls (.int a0 :: rest) σ0 :=
  r_callS (z := zF) (N := mJ6_bitCount_0f7a4) (nn := 1) (o1 := some (.int v)) (sJ6_bitCount_0f7a4 hf ) tw_3_77 tw_1_11 hl tw_3_76 ⟨by decide, by decide, rfl⟩ hR rfl hrest hd ⟨Nat.zero_le _, Nat.zero_le _⟩ rfl (fun h => k)

theorem dX3_allRubbed_0 : decode cX3_allRubbed 0 = .ok (.iconst 0, 1) := by decide +kernel
theorem dX3_allRubbed_1 : decode cX3_allRubbed 1 = .ok (.istore_n 2, 1) := by decide +kernel
theorem dX3_allRubbed_2 : decode cX3_allRubbed 2 = .ok (.iconst 0, 1) := by decide +kernel
theorem dX3_allRubbed_3 : decode cX3_allRubbed 3 = .ok (.istore_n 3, 1) := by decide +kernel
theorem dX3_allRubbed_4 : decode cX3_allRubbed 4 = .ok (.iload_n 3, 1) := by decide +kernel
theorem dX3_allRubbed_5 : decode cX3_allRubbed 5 = .ok (.aload_n 1, 1) := by decide +kernel
theorem dX3_allRubbed_6 : decode cX3_allRubbed 6 = .ok (.getfield 140, 3) := by decide +kernel
theorem dX3_allRubbed_9 : decode cX3_allRubbed 9 = .ok (.if_icmp .ge 21, 3) := by decide +kernel
theorem dX3_allRubbed_12 : decode cX3_allRubbed 12 = .ok (.iload_n 2, 1) := by decide +kernel
theorem dX3_allRubbed_13 : decode cX3_allRubbed 13 = .ok (.aload_n 0, 1) := by decide +kernel
theorem dX3_allRubbed_14 : decode cX3_allRubbed 14 = .ok (.getfield 44, 3) := by decide +kernel
theorem dX3_allRubbed_17 : decode cX3_allRubbed 17 = .ok (.iload_n 3, 1) := by decide +kernel
theorem dX3_allRubbed_18 : decode cX3_allRubbed 18 = .ok (.iaload, 1) := by decide +kernel
theorem dX3_allRubbed_19 : decode cX3_allRubbed 19 = .ok (.invokestatic 170, 3) := by decide +kernel
theorem dX3_allRubbed_22 : decode cX3_allRubbed 22 = .ok (.iadd, 1) := by decide +kernel
theorem dX3_allRubbed_23 : decode cX3_allRubbed 23 = .ok (.istore_n 2, 1) := by decide +kernel
theorem dX3_allRubbed_24 : decode cX3_allRubbed 24 = .ok (.iinc 3 1, 3) := by decide +kernel
theorem dX3_allRubbed_27 : decode cX3_allRubbed 27 = .ok (.goto (-23), 3) := by decide +kernel
theorem dX3_allRubbed_30 : decode cX3_allRubbed 30 = .ok (.iload_n 2, 1) := by decide +kernel
theorem dX3_allRubbed_31 : decode cX3_allRubbed 31 = .ok (.ireturn, 1) := by decide +kernel
def mX3_allRubbed : MM := (yX3_allRubbed, cX3_allRubbed, 4, Option.some Jvm.ClassFile.FieldType.int, { frames := 1, cells := 0, slots := 0, locals := 20 })
def X3_allRubbed_L4 (σ_ : SS) (o1_ : Nat)  : Nat → Int32 → Int32 → Option Int32 :=
  lp (fun _ _ => none) fun rec v2_ v3_ =>
    if (gI σ_ o1_ 5) ≤ v3_ then (
      some v2_
      ) else (
      grd (inb v3_ 12) <|
      vthen (v2_ + (fJ6_bitCount_0f7a4 σ_ (gI σ_ 55 (Int32.toNatClampNeg v3_)))) fun v2 =>
      rec v2 (v3_ + (1 : Int32))
      )

def fX3_allRubbed (σ0 : SS) (a1 : Nat) : Option Int32 :=
  X3_allRubbed_L4 σ0 a1
  fuel (0 : Int32) (0 : Int32)

set_option maxRecDepth 20000 in
theorem sX3_allRubbed_L4 {g : GG} {r : Int32} {σ_ : SS} {σ0 : SS} {o1_ : Nat}  (hs1_ : shp o1_ = (1, 0))
    (hw_ : WT σ_)
    (h0_ : σ_ = σ0)
    (n : Nat) : ∀ (v2_ : Int32) (v3_ : Int32), X3_allRubbed_L4 σ_ o1_ n v2_ v3_ = some r → RR g mX3_allRubbed (FinR g mX3_allRubbed (some (.int r)) NF σ0) zF 4 [(0, .ref (ad g 31)), (1, .ref (ad g o1_)), (2, .int v2_), (3, .int v3_)] [] σ_ := by
  unfold X3_allRubbed_L4
  refine lp_ind (P := fun (rec : Int32 → Int32 → Option Int32) => ∀ (v2_ : Int32) (v3_ : Int32), rec v2_ v3_ = some r → RR g mX3_allRubbed (FinR g mX3_allRubbed (some (.int r)) NF σ0) zF 4 [(0, .ref (ad g 31)), (1, .ref (ad g o1_)), (2, .int v2_), (3, .int v3_)] [] σ_) ?_ ?_ n
  · intro v2_ v3_ hr; cases hr
  intro rec ih v2_ v3_ hr
  subst h0_
  refine r_iload_n (pc := 4) (j := 3) dX3_allRubbed_4 rfl rfl ?_
  refine r_aload_n (pc := 5) (j := 1) dX3_allRubbed_5 rfl rfl ?_
  refine gf1_5 (pc := 6) tw_1_80 hs1_ dX3_allRubbed_6 ?_
  refine r_icmp_ge (pc := 9) (tgt := 30) dX3_allRubbed_9 rfl (fun hc => ?_) (fun hc => ?_)
  · replace hr := ite_t hc hr
    refine r_iload_n (pc := 30) (j := 2) dX3_allRubbed_30 rfl rfl ?_
    exact l_opi hr (r_iret (pc := 31) (v := v2_) rfl rfl ⟨Nat.le_refl _, Nat.le_refl _⟩ dX3_allRubbed_31)
  replace hr := ite_f hc hr
  refine r_iload_n (pc := 12) (j := 2) dX3_allRubbed_12 rfl rfl ?_
  refine r_aload_n (pc := 13) (j := 0) dX3_allRubbed_13 rfl rfl ?_
  refine gf3_9 (pc := 14) tw_2_39 hw_ dX3_allRubbed_14 ?_
  refine r_iload_n (pc := 17) (j := 3) dX3_allRubbed_17 rfl rfl ?_
  obtain ⟨h1, hr⟩ := grd_inv hr
  refine x_iald (pc := 18) (k := (Int32.toNatClampNeg v3_)) rfl h1 rfl dX3_allRubbed_18 ?_
  refine kJ6_bitCount_0f7a4 (pc := 19) (hf := rfl) tw_3_75 ⟨nle rfl, nle rfl⟩ (nle rfl) dX3_allRubbed_19 ?_
  refine r_iadd (pc := 22) dX3_allRubbed_22 ?_
  refine r_topi fun v2 ev2 => ?_
  replace hr := vthen_inv hr v2 ev2
  refine r_istore_n (pc := 23) (ls1 := [(2, .int v2), (0, .ref (ad g 31)), (1, .ref (ad g o1_)), (3, .int v3_)]) dX3_allRubbed_23 rfl (nle rfl) rfl ?_
  refine r_iinc (pc := 24) (j := 3) (v := (v3_ + (1 : Int32))) (ls1 := [(3, .int (v3_ + (1 : Int32))), (2, .int v2), (0, .ref (ad g 31)), (1, .ref (ad g o1_))]) dX3_allRubbed_24 rfl rfl (nle rfl) rfl ?_
  refine r_goto (pc := 27) (tgt := 4) dX3_allRubbed_27 rfl ?_
  exact r_pick (ls1 := [(0, .ref (ad g 31)), (1, .ref (ad g o1_)), (2, .int v2), (3, .int (v3_ + (1 : Int32)))]) [2, 3, 1, 0] rfl (ih v2 (v3_ + (1 : Int32)) hr)

set_option maxRecDepth 20000 in
theorem sX3_allRubbed {g : GG} {σ0 : SS} {a1 : Nat} {r : Int32} (hr : fX3_allRubbed σ0 a1 = some r) (hs1 : shp a1 = (1, 0)) : Ct g mX3_allRubbed [.ref (ad g 31), .ref (ad g a1)] NF σ0 (some (.int r)) NF σ0 := by
  refine Ct.of (by decide +kernel) (nle rfl) fun hw0 => ?_
  have hw := hw0 rfl
  unfold fX3_allRubbed at hr
  change RR g mX3_allRubbed (FinR g mX3_allRubbed (some (.int r)) NF σ0) zF 0 [(0, .ref (ad g 31)), (1, .ref (ad g a1))] [] σ0
  refine r_iconst (pc := 0) (v := (0 : Int32)) dX3_allRubbed_0 rfl ?_
  refine r_istore_n (pc := 1) (ls1 := [(2, .int (0 : Int32)), (0, .ref (ad g 31)), (1, .ref (ad g a1))]) dX3_allRubbed_1 rfl (nle rfl) rfl ?_
  refine r_iconst (pc := 2) (v := (0 : Int32)) dX3_allRubbed_2 rfl ?_
  refine r_istore_n (pc := 3) (ls1 := [(3, .int (0 : Int32)), (2, .int (0 : Int32)), (0, .ref (ad g 31)), (1, .ref (ad g a1))]) dX3_allRubbed_3 rfl (nle rfl) rfl ?_
  refine r_pick (ls1 := [(0, .ref (ad g 31)), (1, .ref (ad g a1)), (2, .int (0 : Int32)), (3, .int (0 : Int32))]) [2, 3, 1, 0] rfl ?_
  refine sX3_allRubbed_L4 hs1 hw rfl  fuel (0 : Int32) (0 : Int32) hr

theorem kX3_allRubbed {g : GG} {σ0 : SS} {a1 : Nat} {v : Int32} {M : MM} {F : State → Array Value → List Frame → State → Prop} {pc index : Nat} {ls : List (Nat × Value)} {rest : List Value} (hf : fX3_allRubbed σ0 a1 = some v) (hs1 : shp a1 = (1, 0)) (hl : Cond.methodLink M.1.cls index yX3_allRubbed ∈ lw_gt) (hR : mX3_allRubbed.2.2.2.2.frames + 1 ≤ M.2.2.2.2.frames ∧ 8 + (mX3_allRubbed.2.2.1 + 11) + mX3_allRubbed.2.2.2.2.locals ≤ M.2.2.2.2.locals) (hrest : (rest.map fun v => v.category).sum ≤ 8) (hd : decode M.2.1 pc = .ok (.invokevirtual index, 3)) (k : RR g M F zF (pc + 3) ls (.int v :: rest) σ0) : RR g M F zF pc ls (.ref (ad g a1) :: .ref (ad g 31) :: rest) σ0 :=
  r_callV (z := zF) (N := mX3_allRubbed) (nn := 1) (o1 := some (.int v)) (sX3_allRubbed hf hs1) (rfl : shp 31 = (3, 0)) (by decide) (shp_le (rfl : shp 31 = (3, 0)) (nle rfl)) (ci := 3) rfl rfl tw_3_74 tw_1_5 hl tw_3_72 tw_3_73 ⟨by decide, by decide, rfl⟩ hR rfl hrest hd ⟨Nat.zero_le _, Nat.zero_le _⟩ rfl (fun h => k)

theorem dX7_sheet_0 : decode cX7_sheet 0 = .ok (.aload_n 0, 1) := by decide +kernel
theorem dX7_sheet_1 : decode cX7_sheet 1 = .ok (.getfield 32, 3) := by decide +kernel
theorem dX7_sheet_4 : decode cX7_sheet 4 = .ok (.getfield 274, 3) := by decide +kernel
theorem dX7_sheet_7 : decode cX7_sheet 7 = .ok (.ifCond .eq 12, 3) := by decide +kernel
theorem dX7_sheet_10 : decode cX7_sheet 10 = .ok (.iload_n 1, 1) := by decide +kernel
theorem dX7_sheet_11 : decode cX7_sheet 11 = .ok (.ifCond .lt 8, 3) := by decide +kernel
theorem dX7_sheet_14 : decode cX7_sheet 14 = .ok (.iload_n 1, 1) := by decide +kernel
theorem dX7_sheet_15 : decode cX7_sheet 15 = .ok (.iconst 4, 1) := by decide +kernel
theorem dX7_sheet_16 : decode cX7_sheet 16 = .ok (.if_icmp .le 7, 3) := by decide +kernel
theorem dX7_sheet_19 : decode cX7_sheet 19 = .ok (.ldc_w 302, 3) := by decide +kernel
theorem dX7_sheet_22 : decode cX7_sheet 22 = .ok (.ireturn, 1) := by decide +kernel
theorem dX7_sheet_23 : decode cX7_sheet 23 = .ok (.aload_n 0, 1) := by decide +kernel
theorem dX7_sheet_24 : decode cX7_sheet 24 = .ok (.getfield 62, 3) := by decide +kernel
theorem dX7_sheet_27 : decode cX7_sheet 27 = .ok (.aload_n 0, 1) := by decide +kernel
theorem dX7_sheet_28 : decode cX7_sheet 28 = .ok (.getfield 18, 3) := by decide +kernel
theorem dX7_sheet_31 : decode cX7_sheet 31 = .ok (.aload_n 0, 1) := by decide +kernel
theorem dX7_sheet_32 : decode cX7_sheet 32 = .ok (.getfield 32, 3) := by decide +kernel
theorem dX7_sheet_35 : decode cX7_sheet 35 = .ok (.invokevirtual 303, 3) := by decide +kernel
theorem dX7_sheet_38 : decode cX7_sheet 38 = .ok (.ifCond .ne 7, 3) := by decide +kernel
theorem dX7_sheet_41 : decode cX7_sheet 41 = .ok (.ldc_w 320, 3) := by decide +kernel
theorem dX7_sheet_44 : decode cX7_sheet 44 = .ok (.ireturn, 1) := by decide +kernel
theorem dX7_sheet_45 : decode cX7_sheet 45 = .ok (.iload_n 1, 1) := by decide +kernel
theorem dX7_sheet_46 : decode cX7_sheet 46 = .ok (.tableswitch 80 0 3 #[30, 42, 55, 68], 30) := by decide +kernel
theorem dX7_sheet_76 : decode cX7_sheet 76 = .ok (.aload_n 0, 1) := by decide +kernel
theorem dX7_sheet_77 : decode cX7_sheet 77 = .ok (.getfield 62, 3) := by decide +kernel
theorem dX7_sheet_80 : decode cX7_sheet 80 = .ok (.aload_n 0, 1) := by decide +kernel
theorem dX7_sheet_81 : decode cX7_sheet 81 = .ok (.getfield 32, 3) := by decide +kernel
theorem dX7_sheet_84 : decode cX7_sheet 84 = .ok (.invokevirtual 321, 3) := by decide +kernel
theorem dX7_sheet_87 : decode cX7_sheet 87 = .ok (.ireturn, 1) := by decide +kernel
theorem dX7_sheet_88 : decode cX7_sheet 88 = .ok (.aload_n 0, 1) := by decide +kernel
theorem dX7_sheet_89 : decode cX7_sheet 89 = .ok (.getfield 62, 3) := by decide +kernel
theorem dX7_sheet_92 : decode cX7_sheet 92 = .ok (.aload_n 0, 1) := by decide +kernel
theorem dX7_sheet_93 : decode cX7_sheet 93 = .ok (.getfield 32, 3) := by decide +kernel
theorem dX7_sheet_96 : decode cX7_sheet 96 = .ok (.iconst 1, 1) := by decide +kernel
theorem dX7_sheet_97 : decode cX7_sheet 97 = .ok (.invokevirtual 325, 3) := by decide +kernel
theorem dX7_sheet_100 : decode cX7_sheet 100 = .ok (.ireturn, 1) := by decide +kernel
theorem dX7_sheet_101 : decode cX7_sheet 101 = .ok (.aload_n 0, 1) := by decide +kernel
theorem dX7_sheet_102 : decode cX7_sheet 102 = .ok (.getfield 62, 3) := by decide +kernel
theorem dX7_sheet_105 : decode cX7_sheet 105 = .ok (.aload_n 0, 1) := by decide +kernel
theorem dX7_sheet_106 : decode cX7_sheet 106 = .ok (.getfield 32, 3) := by decide +kernel
theorem dX7_sheet_109 : decode cX7_sheet 109 = .ok (.iconst 2, 1) := by decide +kernel
theorem dX7_sheet_110 : decode cX7_sheet 110 = .ok (.invokevirtual 325, 3) := by decide +kernel
theorem dX7_sheet_113 : decode cX7_sheet 113 = .ok (.ireturn, 1) := by decide +kernel
theorem dX7_sheet_114 : decode cX7_sheet 114 = .ok (.aload_n 0, 1) := by decide +kernel
theorem dX7_sheet_115 : decode cX7_sheet 115 = .ok (.getfield 62, 3) := by decide +kernel
theorem dX7_sheet_118 : decode cX7_sheet 118 = .ok (.aload_n 0, 1) := by decide +kernel
theorem dX7_sheet_119 : decode cX7_sheet 119 = .ok (.getfield 32, 3) := by decide +kernel
theorem dX7_sheet_122 : decode cX7_sheet 122 = .ok (.invokevirtual 329, 3) := by decide +kernel
theorem dX7_sheet_125 : decode cX7_sheet 125 = .ok (.ireturn, 1) := by decide +kernel
theorem dX7_sheet_126 : decode cX7_sheet 126 = .ok (.aload_n 0, 1) := by decide +kernel
theorem dX7_sheet_127 : decode cX7_sheet 127 = .ok (.getfield 62, 3) := by decide +kernel
theorem dX7_sheet_130 : decode cX7_sheet 130 = .ok (.aload_n 0, 1) := by decide +kernel
theorem dX7_sheet_131 : decode cX7_sheet 131 = .ok (.getfield 32, 3) := by decide +kernel
theorem dX7_sheet_134 : decode cX7_sheet 134 = .ok (.invokevirtual 332, 3) := by decide +kernel
theorem dX7_sheet_137 : decode cX7_sheet 137 = .ok (.ireturn, 1) := by decide +kernel
def mX7_sheet : MM := (yX7_sheet, cX7_sheet, 2, Option.some Jvm.ClassFile.FieldType.int, { frames := 6, cells := 0, slots := 0, locals := 148 })
def fX7_sheet (σ : SS) (a1 : Int32) : Option (Int32 × SS) :=
  if (gI σ (gR σ 1 5) 0) = 0 then (
    some ((-2147483648 : Int32), σ)
    ) else (
    if a1 < 0 then (
      some ((-2147483648 : Int32), σ)
      ) else (
      if a1 ≤ (4 : Int32) then (
        bnd (fX3_read σ (gR σ 1 2) (gR σ 1 5)) fun b2 σ4 =>
        if b2 = true then (
          if a1 = (0 : Int32) then (
            bnd1 (fX3_allGains σ4 (gR σ4 1 5)) fun v5 =>
            some (v5, σ4)
            ) else
          if a1 = (1 : Int32) then (
            bnd1 (fX3_inState σ4 (gR σ4 1 5) (1 : Int32)) fun v8 =>
            some (v8, σ4)
            ) else
          if a1 = (2 : Int32) then (
            bnd1 (fX3_inState σ4 (gR σ4 1 5) (2 : Int32)) fun v11 =>
            some (v11, σ4)
            ) else
          if a1 = (3 : Int32) then (
            bnd1 (fX3_leftEmpty σ4 (gR σ4 1 5)) fun v14 =>
            some (v14, σ4)
            ) else
          bnd1 (fX3_allRubbed σ4 (gR σ4 1 5)) fun v17 =>
          some (v17, σ4)
          ) else (
          some ((-1000000 : Int32), σ4)
          )
        ) else (
        some ((-2147483648 : Int32), σ)
        )
      )
    )

set_option maxRecDepth 20000 in
theorem sX7_sheet {g : GG} {σ : SS} {a1 : Int32} {r : Int32 × SS} (hr : fX7_sheet σ a1 = some r)  : Ct g mX7_sheet [.ref (ad g 1), .int a1] NF σ (some (.int r.1)) NF r.2 := by
  refine Ct.of (by decide +kernel) (nle rfl) fun hw0 => ?_
  have hw := hw0 rfl
  unfold fX7_sheet at hr
  change RR g mX7_sheet (FinR g mX7_sheet (some (.int r.1)) NF r.2) zF 0 [(0, .ref (ad g 1)), (1, .int a1)] [] σ
  refine r_aload_n (pc := 0) (j := 0) dX7_sheet_0 rfl rfl ?_
  refine gf7_5 (pc := 1) tw_2_108 hw dX7_sheet_1 ?_
  refine gf1_0 (pc := 4) tw_1_60 (wt_fo hw).1 dX7_sheet_4 ?_
  refine r_if_eq (pc := 7) (tgt := 19) dX7_sheet_7 rfl (fun hc => ?_) (fun hc => ?_)
  · replace hr := ite_t hc hr
    refine r_ldcw (pc := 19) (v := (-2147483648 : Int32)) dX7_sheet_19 tw_3_9 ?_
    exact l_osi hr (r_iret (pc := 22) (v := (-2147483648 : Int32)) rfl rfl ⟨Nat.le_refl _, Nat.le_refl _⟩ dX7_sheet_22)
  replace hr := ite_f hc hr
  refine r_iload_n (pc := 10) (j := 1) dX7_sheet_10 rfl rfl ?_
  refine r_if_lt (pc := 11) (tgt := 19) dX7_sheet_11 rfl (fun hc => ?_) (fun hc => ?_)
  · replace hr := ite_t hc hr
    refine r_ldcw (pc := 19) (v := (-2147483648 : Int32)) dX7_sheet_19 tw_3_9 ?_
    exact l_osi hr (r_iret (pc := 22) (v := (-2147483648 : Int32)) rfl rfl ⟨Nat.le_refl _, Nat.le_refl _⟩ dX7_sheet_22)
  replace hr := ite_f hc hr
  refine r_iload_n (pc := 14) (j := 1) dX7_sheet_14 rfl rfl ?_
  refine r_iconst (pc := 15) (v := (4 : Int32)) dX7_sheet_15 rfl ?_
  refine r_icmp_le (pc := 16) (tgt := 23) dX7_sheet_16 rfl (fun hc => ?_) (fun hc => ?_)
  · replace hr := ite_t hc hr
    refine r_aload_n (pc := 23) (j := 0) dX7_sheet_23 rfl rfl ?_
    refine gf7_12 (pc := 24) tw_2_115 hw dX7_sheet_24 ?_
    refine r_aload_n (pc := 27) (j := 0) dX7_sheet_27 rfl rfl ?_
    refine gf7_2 (pc := 28) tw_2_105 hw dX7_sheet_28 ?_
    refine r_aload_n (pc := 31) (j := 0) dX7_sheet_31 rfl rfl ?_
    refine gf7_5 (pc := 32) tw_2_108 hw dX7_sheet_32 ?_
    obtain ⟨b2, σ4, eσ4, hr⟩ := bnd_inv hr
    refine kX3_read (pc := 35) eσ4 (wt_sc hw).1 (wt_fo hw).1 tw_3_10 ⟨nle rfl, nle rfl⟩ (nle rfl) dX7_sheet_35 fun hσ4 => ?_
    refine r_ifB_ne (pc := 38) (tgt := 45) dX7_sheet_38 rfl (fun hc => ?_) (fun hc => ?_)
    · replace hr := ite_t hc hr
      refine r_iload_n (pc := 45) (j := 1) dX7_sheet_45 rfl rfl ?_
      by_cases hc0 : a1 = (0 : Int32)
      · replace hr := ite_t hc0 hr
        refine r_tabIn (pc := 46) (off := 30) (tgt := 76) dX7_sheet_46 (by rw [hc0]; decide) (by rw [hc0]; decide) (by rw [hc0]; rfl) rfl ?_
        refine r_aload_n (pc := 76) (j := 0) dX7_sheet_76 rfl rfl ?_
        refine gf7_12 (pc := 77) tw_2_115 hσ4 dX7_sheet_77 ?_
        refine r_aload_n (pc := 80) (j := 0) dX7_sheet_80 rfl rfl ?_
        refine gf7_5 (pc := 81) tw_2_108 hσ4 dX7_sheet_81 ?_
        obtain ⟨v5, hv5, hr⟩ := bnd1_inv hr
        refine kX3_allGains (pc := 84) hv5 (wt_fo hσ4).1 tw_3_59 ⟨nle rfl, nle rfl⟩ (nle rfl) dX7_sheet_84 ?_
        exact l_osi hr (r_iret (pc := 87) (v := v5) rfl rfl ⟨Nat.le_refl _, Nat.le_refl _⟩ dX7_sheet_87)
      replace hr := ite_f hc0 hr
      by_cases hc1 : a1 = (1 : Int32)
      · replace hr := ite_t hc1 hr
        refine r_tabIn (pc := 46) (off := 42) (tgt := 88) dX7_sheet_46 (by rw [hc1]; decide) (by rw [hc1]; decide) (by rw [hc1]; rfl) rfl ?_
        refine r_aload_n (pc := 88) (j := 0) dX7_sheet_88 rfl rfl ?_
        refine gf7_12 (pc := 89) tw_2_115 hσ4 dX7_sheet_89 ?_
        refine r_aload_n (pc := 92) (j := 0) dX7_sheet_92 rfl rfl ?_
        refine gf7_5 (pc := 93) tw_2_108 hσ4 dX7_sheet_93 ?_
        refine r_iconst (pc := 96) (v := (1 : Int32)) dX7_sheet_96 rfl ?_
        obtain ⟨v8, hv8, hr⟩ := bnd1_inv hr
        refine kX3_inState (pc := 97) hv8 (wt_fo hσ4).1 tw_3_63 ⟨nle rfl, nle rfl⟩ (nle rfl) dX7_sheet_97 ?_
        exact l_osi hr (r_iret (pc := 100) (v := v8) rfl rfl ⟨Nat.le_refl _, Nat.le_refl _⟩ dX7_sheet_100)
      replace hr := ite_f hc1 hr
      by_cases hc2 : a1 = (2 : Int32)
      · replace hr := ite_t hc2 hr
        refine r_tabIn (pc := 46) (off := 55) (tgt := 101) dX7_sheet_46 (by rw [hc2]; decide) (by rw [hc2]; decide) (by rw [hc2]; rfl) rfl ?_
        refine r_aload_n (pc := 101) (j := 0) dX7_sheet_101 rfl rfl ?_
        refine gf7_12 (pc := 102) tw_2_115 hσ4 dX7_sheet_102 ?_
        refine r_aload_n (pc := 105) (j := 0) dX7_sheet_105 rfl rfl ?_
        refine gf7_5 (pc := 106) tw_2_108 hσ4 dX7_sheet_106 ?_
        refine r_iconst (pc := 109) (v := (2 : Int32)) dX7_sheet_109 rfl ?_
        obtain ⟨v11, hv11, hr⟩ := bnd1_inv hr
        refine kX3_inState (pc := 110) hv11 (wt_fo hσ4).1 tw_3_63 ⟨nle rfl, nle rfl⟩ (nle rfl) dX7_sheet_110 ?_
        exact l_osi hr (r_iret (pc := 113) (v := v11) rfl rfl ⟨Nat.le_refl _, Nat.le_refl _⟩ dX7_sheet_113)
      replace hr := ite_f hc2 hr
      by_cases hc3 : a1 = (3 : Int32)
      · replace hr := ite_t hc3 hr
        refine r_tabIn (pc := 46) (off := 68) (tgt := 114) dX7_sheet_46 (by rw [hc3]; decide) (by rw [hc3]; decide) (by rw [hc3]; rfl) rfl ?_
        refine r_aload_n (pc := 114) (j := 0) dX7_sheet_114 rfl rfl ?_
        refine gf7_12 (pc := 115) tw_2_115 hσ4 dX7_sheet_115 ?_
        refine r_aload_n (pc := 118) (j := 0) dX7_sheet_118 rfl rfl ?_
        refine gf7_5 (pc := 119) tw_2_108 hσ4 dX7_sheet_119 ?_
        obtain ⟨v14, hv14, hr⟩ := bnd1_inv hr
        refine kX3_leftEmpty (pc := 122) hv14 (wt_fo hσ4).1 tw_3_67 ⟨nle rfl, nle rfl⟩ (nle rfl) dX7_sheet_122 ?_
        exact l_osi hr (r_iret (pc := 125) (v := v14) rfl rfl ⟨Nat.le_refl _, Nat.le_refl _⟩ dX7_sheet_125)
      replace hr := ite_f hc3 hr
      refine r_tabOut (pc := 46) (tgt := 126) dX7_sheet_46 (tab_out (by decide) (by decide) fun k h1 h2 => ?_) rfl ?_
      · rcases (show k = 0 ∨ k = 1 ∨ k = 2 ∨ k = 3 by omega) with rfl | rfl | rfl | rfl
        · exact hc0
        · exact hc1
        · exact hc2
        · exact hc3
      refine r_aload_n (pc := 126) (j := 0) dX7_sheet_126 rfl rfl ?_
      refine gf7_12 (pc := 127) tw_2_115 hσ4 dX7_sheet_127 ?_
      refine r_aload_n (pc := 130) (j := 0) dX7_sheet_130 rfl rfl ?_
      refine gf7_5 (pc := 131) tw_2_108 hσ4 dX7_sheet_131 ?_
      obtain ⟨v17, hv17, hr⟩ := bnd1_inv hr
      refine kX3_allRubbed (pc := 134) hv17 (wt_fo hσ4).1 tw_3_71 ⟨nle rfl, nle rfl⟩ (nle rfl) dX7_sheet_134 ?_
      exact l_osi hr (r_iret (pc := 137) (v := v17) rfl rfl ⟨Nat.le_refl _, Nat.le_refl _⟩ dX7_sheet_137)
    replace hr := ite_f hc hr
    refine r_ldcw (pc := 41) (v := (-1000000 : Int32)) dX7_sheet_41 tw_3_58 ?_
    exact l_osi hr (r_iret (pc := 44) (v := (-1000000 : Int32)) rfl rfl ⟨Nat.le_refl _, Nat.le_refl _⟩ dX7_sheet_44)
  replace hr := ite_f hc hr
  refine r_ldcw (pc := 19) (v := (-2147483648 : Int32)) dX7_sheet_19 tw_3_9 ?_
  exact l_osi hr (r_iret (pc := 22) (v := (-2147483648 : Int32)) rfl rfl ⟨Nat.le_refl _, Nat.le_refl _⟩ dX7_sheet_22)

theorem kX7_sheet {g : GG} {σ : SS} {a1 : Int32} {v : Int32} {σ2 : SS} {M : MM} {F : State → Array Value → List Frame → State → Prop} {pc index : Nat} {ls : List (Nat × Value)} {rest : List Value} (hf : fX7_sheet σ a1 = some (v, σ2))  (hl : Cond.methodLink M.1.cls index yX7_sheet ∈ lw_gt) (hR : mX7_sheet.2.2.2.2.frames + 1 ≤ M.2.2.2.2.frames ∧ 8 + (mX7_sheet.2.2.1 + 11) + mX7_sheet.2.2.2.2.locals ≤ M.2.2.2.2.locals) (hrest : (rest.map fun v => v.category).sum ≤ 8) (hd : decode M.2.1 pc = .ok (.invokevirtual index, 3)) (k : WT σ2 → RR g M F zF (pc + 3) ls (.int v :: rest) σ2) : RR g M F zF pc ls (.int a1 :: .ref (ad g 1) :: rest) σ :=
  r_callV (z := zF) (N := mX7_sheet) (nn := 1) (o1 := some (.int v)) (sX7_sheet hf ) (rfl : shp 1 = (7, 0)) (by decide) (shp_le (rfl : shp 1 = (7, 0)) (nle rfl)) (ci := 7) rfl rfl tw_3_8 tw_1_1 hl tw_3_6 tw_3_7 ⟨by decide, by decide, rfl⟩ hR rfl hrest hd ⟨Nat.zero_le _, Nat.zero_le _⟩ rfl (fun h => k (h rfl))

theorem dX6_put_0 : decode cX6_put 0 = .ok (.aload_n 0, 1) := by decide +kernel
theorem dX6_put_1 : decode cX6_put 1 = .ok (.iload_n 1, 1) := by decide +kernel
theorem dX6_put_2 : decode cX6_put 2 = .ok (.iload_n 2, 1) := by decide +kernel
theorem dX6_put_3 : decode cX6_put 3 = .ok (.invokevirtual 31, 3) := by decide +kernel
theorem dX6_put_6 : decode cX6_put 6 = .ok (.ifCond .ne 5, 3) := by decide +kernel
theorem dX6_put_9 : decode cX6_put 9 = .ok (.iconst 0, 1) := by decide +kernel
theorem dX6_put_10 : decode cX6_put 10 = .ok (.ireturn, 1) := by decide +kernel
theorem dX6_put_11 : decode cX6_put 11 = .ok (.iload_n 2, 1) := by decide +kernel
theorem dX6_put_12 : decode cX6_put 12 = .ok (.aload_n 0, 1) := by decide +kernel
theorem dX6_put_13 : decode cX6_put 13 = .ok (.getfield 18, 3) := by decide +kernel
theorem dX6_put_16 : decode cX6_put 16 = .ok (.imul, 1) := by decide +kernel
theorem dX6_put_17 : decode cX6_put 17 = .ok (.iload_n 1, 1) := by decide +kernel
theorem dX6_put_18 : decode cX6_put 18 = .ok (.iadd, 1) := by decide +kernel
theorem dX6_put_19 : decode cX6_put 19 = .ok (.istore 4, 2) := by decide +kernel
theorem dX6_put_21 : decode cX6_put 21 = .ok (.aload_n 0, 1) := by decide +kernel
theorem dX6_put_22 : decode cX6_put 22 = .ok (.getfield 9, 3) := by decide +kernel
theorem dX6_put_25 : decode cX6_put 25 = .ok (.iload 4, 2) := by decide +kernel
theorem dX6_put_27 : decode cX6_put 27 = .ok (.iaload, 1) := by decide +kernel
theorem dX6_put_28 : decode cX6_put 28 = .ok (.iload_n 3, 1) := by decide +kernel
theorem dX6_put_29 : decode cX6_put 29 = .ok (.if_icmp .eq 7, 3) := by decide +kernel
theorem dX6_put_32 : decode cX6_put 32 = .ok (.iconst 1, 1) := by decide +kernel
theorem dX6_put_33 : decode cX6_put 33 = .ok (.goto 4, 3) := by decide +kernel
theorem dX6_put_36 : decode cX6_put 36 = .ok (.iconst 0, 1) := by decide +kernel
theorem dX6_put_37 : decode cX6_put 37 = .ok (.istore 5, 2) := by decide +kernel
theorem dX6_put_39 : decode cX6_put 39 = .ok (.aload_n 0, 1) := by decide +kernel
theorem dX6_put_40 : decode cX6_put 40 = .ok (.getfield 9, 3) := by decide +kernel
theorem dX6_put_43 : decode cX6_put 43 = .ok (.iload 4, 2) := by decide +kernel
theorem dX6_put_45 : decode cX6_put 45 = .ok (.iload_n 3, 1) := by decide +kernel
theorem dX6_put_46 : decode cX6_put 46 = .ok (.iastore, 1) := by decide +kernel
theorem dX6_put_47 : decode cX6_put 47 = .ok (.iload 5, 2) := by decide +kernel
theorem dX6_put_49 : decode cX6_put 49 = .ok (.ireturn, 1) := by decide +kernel
def mX6_put : MM := (yX6_put, cX6_put, 6, Option.some Jvm.ClassFile.FieldType.boolean, { frames := 1, cells := 0, slots := 0, locals := 22 })
def fX6_put (σ : SS) (a0 : Nat) (a1 : Int32) (a2 : Int32) (a3 : Int32) : Option (Bool × SS) :=
  if (fX6_has σ a0 a1 a2) = true then (
    vthen ((a2 * (gI σ a0 0)) + a1) fun v1 =>
    grd (inb v1 1600) <|
    vthen (fun (s3 : Int32) =>
      vthen (sI σ (a0 + 1) (Int32.toNatClampNeg v1) a3) fun σ4 =>
      grd (isb s3) <|
      some ((i2b s3), σ4)
      ) fun j37 =>
    if (gI σ (a0 + 1) (Int32.toNatClampNeg v1)) = a3 then (
      j37 (0 : Int32)
      ) else (
      j37 (1 : Int32)
      )
    ) else (
    some (false, σ)
    )

set_option maxRecDepth 20000 in
theorem sX6_put {g : GG} {σ : SS} {a0 : Nat} {a1 : Int32} {a2 : Int32} {a3 : Int32} {r : Bool × SS} (hr : fX6_put σ a0 a1 a2 a3 = some r) (hs0 : shp a0 = (6, 0)) : Ct g mX6_put [.ref (ad g a0), .int a1, .int a2, .int a3] NF σ (some (.int (b2i r.1))) NF r.2 := by
  refine Ct.of (by decide +kernel) (nle rfl) fun hw0 => ?_
  have hw := hw0 rfl
  unfold fX6_put at hr
  change RR g mX6_put (FinR g mX6_put (some (.int (b2i r.1))) NF r.2) zF 0 [(0, .ref (ad g a0)), (1, .int a1), (2, .int a2), (3, .int a3)] [] σ
  refine r_aload_n (pc := 0) (j := 0) dX6_put_0 rfl rfl ?_
  refine r_iload_n (pc := 1) (j := 1) dX6_put_1 rfl rfl ?_
  refine r_iload_n (pc := 2) (j := 2) dX6_put_2 rfl rfl ?_
  refine kX6_has (pc := 3) (hf := rfl) hs0 tw_2_171 ⟨nle rfl, nle rfl⟩ (nle rfl) dX6_put_3 ?_
  refine r_ifB_ne (pc := 6) (tgt := 11) dX6_put_6 rfl (fun hc => ?_) (fun hc => ?_)
  · replace hr := ite_t hc hr
    refine r_iload_n (pc := 11) (j := 2) dX6_put_11 rfl rfl ?_
    refine r_aload_n (pc := 12) (j := 0) dX6_put_12 rfl rfl ?_
    refine gf6_0 (pc := 13) tw_1_31 hs0 dX6_put_13 ?_
    refine r_imul (pc := 16) dX6_put_16 ?_
    refine r_iload_n (pc := 17) (j := 1) dX6_put_17 rfl rfl ?_
    refine r_iadd (pc := 18) dX6_put_18 ?_
    refine r_topi fun v1 ev1 => ?_
    replace hr := vthen_inv hr v1 ev1
    refine r_istore (pc := 19) (ls1 := [(4, .int v1), (0, .ref (ad g a0)), (1, .int a1), (2, .int a2), (3, .int a3)]) dX6_put_19 (nle rfl) rfl ?_
    refine r_aload_n (pc := 21) (j := 1) dX6_put_21 rfl rfl ?_
    refine gf6_2 (pc := 22) tw_1_38 hw hs0 dX6_put_22 ?_
    refine r_iload (pc := 25) (j := 0) dX6_put_25 rfl ?_
    obtain ⟨h2, hr⟩ := grd_inv hr
    refine x_iald (pc := 27) (k := (Int32.toNatClampNeg v1)) (sh6_2 hs0) h2 rfl dX6_put_27 ?_
    refine r_iload_n (pc := 28) (j := 4) dX6_put_28 rfl rfl ?_
    obtain ⟨j37, ej37, hr⟩ := vth_ex hr
    have hj37 : ∀ (s3 : Int32), j37 s3 = some r → RR g mX6_put (FinR g mX6_put (some (.int (b2i r.1))) NF r.2) zF 37 [(0, .ref (ad g a0)), (3, .int a3), (4, .int v1)] [.int s3] σ := by
      intro s3 hr
      replace hr := (congrFun ej37 s3).symm.trans hr
      refine r_istore (pc := 37) (ls1 := [(5, .int s3), (0, .ref (ad g a0)), (3, .int a3), (4, .int v1)]) dX6_put_37 (nle rfl) rfl ?_
      refine r_aload_n (pc := 39) (j := 1) dX6_put_39 rfl rfl ?_
      refine gf6_2 (pc := 40) tw_1_38 hw hs0 dX6_put_40 ?_
      refine r_iload (pc := 43) (j := 3) dX6_put_43 rfl ?_
      refine r_iload_n (pc := 45) (j := 2) dX6_put_45 rfl rfl ?_
      refine x_iast (pc := 46) (j := (Int32.toNatClampNeg v1)) (sh6_2 hs0) h2 rfl dX6_put_46 fun σ4 eσ4 => ?_
      replace hr := vthen_inv hr σ4 eσ4
      have hσ4 := wtI eσ4 hw
      refine r_iload (pc := 47) (j := 0) dX6_put_47 rfl ?_
      obtain ⟨h5, hr⟩ := grd_inv hr
      refine r_toz h5 ?_
      exact l_osz hr (r_zret (pc := 49) (v := b2i (i2b s3)) (ty := .boolean) rfl (b2i_nar _) rfl ⟨Nat.le_refl _, Nat.le_refl _⟩ dX6_put_49)
    refine r_icmp_eq (pc := 29) (tgt := 36) dX6_put_29 rfl (fun hc => ?_) (fun hc => ?_)
    · replace hr := ite_t hc hr
      refine r_iconst (pc := 36) (v := (0 : Int32)) dX6_put_36 rfl ?_
      exact r_pick (ls1 := [(0, .ref (ad g a0)), (3, .int a3), (4, .int v1)]) [1, 4, 0] rfl (hj37 (0 : Int32) hr)
    replace hr := ite_f hc hr
    refine r_iconst (pc := 32) (v := (1 : Int32)) dX6_put_32 rfl ?_
    refine r_goto (pc := 33) (tgt := 37) dX6_put_33 rfl ?_
    exact r_pick (ls1 := [(0, .ref (ad g a0)), (3, .int a3), (4, .int v1)]) [1, 4, 0] rfl (hj37 (1 : Int32) hr)
  replace hr := ite_f hc hr
  refine r_iconst (pc := 9) (v := (0 : Int32)) dX6_put_9 rfl ?_
  exact l_osz hr (r_zret (pc := 10) (v := b2i false) (ty := .boolean) rfl (b2i_nar _) rfl ⟨Nat.le_refl _, Nat.le_refl _⟩ dX6_put_10)

theorem kX6_put {g : GG} {σ : SS} {a0 : Nat} {a1 : Int32} {a2 : Int32} {a3 : Int32} {v : Bool} {σ2 : SS} {M : MM} {F : State → Array Value → List Frame → State → Prop} {pc index : Nat} {ls : List (Nat × Value)} {rest : List Value} (hf : fX6_put σ a0 a1 a2 a3 = some (v, σ2)) (hs0 : shp a0 = (6, 0)) (hl : Cond.methodLink M.1.cls index yX6_put ∈ lw_gt) (hR : mX6_put.2.2.2.2.frames + 1 ≤ M.2.2.2.2.frames ∧ 8 + (mX6_put.2.2.1 + 11) + mX6_put.2.2.2.2.locals ≤ M.2.2.2.2.locals) (hrest : (rest.map fun v => v.category).sum ≤ 8) (hd : decode M.2.1 pc = .ok (.invokevirtual index, 3)) (k : WT σ2 → RR g M F zF (pc + 3) ls (.int (b2i v) :: rest) σ2) : RR g M F zF pc ls (.int a3 :: .int a2 :: .int a1 :: .ref (ad g a0) :: rest) σ :=
  r_callV (z := zF) (N := mX6_put) (nn := 3) (o1 := some (.int (b2i v))) (sX6_put hf hs0) hs0 (by decide) (shp_le hs0 (nle rfl)) (ci := 6) rfl rfl tw_2_184 tw_1_2 hl tw_2_182 tw_2_183 ⟨by decide, by decide, rfl⟩ hR rfl hrest hd ⟨Nat.zero_le _, Nat.zero_le _⟩ rfl (fun h => k (h rfl))

theorem dX6_takeTurned_0 : decode cX6_takeTurned 0 = .ok (.aload_n 1, 1) := by decide +kernel
theorem dX6_takeTurned_1 : decode cX6_takeTurned 1 = .ok (.getfield 18, 3) := by decide +kernel
theorem dX6_takeTurned_4 : decode cX6_takeTurned 4 = .ok (.istore_n 3, 1) := by decide +kernel
theorem dX6_takeTurned_5 : decode cX6_takeTurned 5 = .ok (.aload_n 1, 1) := by decide +kernel
theorem dX6_takeTurned_6 : decode cX6_takeTurned 6 = .ok (.getfield 22, 3) := by decide +kernel
theorem dX6_takeTurned_9 : decode cX6_takeTurned 9 = .ok (.istore 4, 2) := by decide +kernel
theorem dX6_takeTurned_11 : decode cX6_takeTurned 11 = .ok (.aload_n 0, 1) := by decide +kernel
theorem dX6_takeTurned_12 : decode cX6_takeTurned 12 = .ok (.iload_n 2, 1) := by decide +kernel
theorem dX6_takeTurned_13 : decode cX6_takeTurned 13 = .ok (.iconst 2, 1) := by decide +kernel
theorem dX6_takeTurned_14 : decode cX6_takeTurned 14 = .ok (.irem, 1) := by decide +kernel
theorem dX6_takeTurned_15 : decode cX6_takeTurned 15 = .ok (.ifCond .ne 7, 3) := by decide +kernel
theorem dX6_takeTurned_18 : decode cX6_takeTurned 18 = .ok (.iload_n 3, 1) := by decide +kernel
theorem dX6_takeTurned_19 : decode cX6_takeTurned 19 = .ok (.goto 5, 3) := by decide +kernel
theorem dX6_takeTurned_22 : decode cX6_takeTurned 22 = .ok (.iload 4, 2) := by decide +kernel
theorem dX6_takeTurned_24 : decode cX6_takeTurned 24 = .ok (.putfield 18, 3) := by decide +kernel
theorem dX6_takeTurned_27 : decode cX6_takeTurned 27 = .ok (.aload_n 0, 1) := by decide +kernel
theorem dX6_takeTurned_28 : decode cX6_takeTurned 28 = .ok (.iload_n 2, 1) := by decide +kernel
theorem dX6_takeTurned_29 : decode cX6_takeTurned 29 = .ok (.iconst 2, 1) := by decide +kernel
theorem dX6_takeTurned_30 : decode cX6_takeTurned 30 = .ok (.irem, 1) := by decide +kernel
theorem dX6_takeTurned_31 : decode cX6_takeTurned 31 = .ok (.ifCond .ne 8, 3) := by decide +kernel
theorem dX6_takeTurned_34 : decode cX6_takeTurned 34 = .ok (.iload 4, 2) := by decide +kernel
theorem dX6_takeTurned_36 : decode cX6_takeTurned 36 = .ok (.goto 4, 3) := by decide +kernel
theorem dX6_takeTurned_39 : decode cX6_takeTurned 39 = .ok (.iload_n 3, 1) := by decide +kernel
theorem dX6_takeTurned_40 : decode cX6_takeTurned 40 = .ok (.putfield 22, 3) := by decide +kernel
theorem dX6_takeTurned_43 : decode cX6_takeTurned 43 = .ok (.iconst 0, 1) := by decide +kernel
theorem dX6_takeTurned_44 : decode cX6_takeTurned 44 = .ok (.istore 5, 2) := by decide +kernel
theorem dX6_takeTurned_46 : decode cX6_takeTurned 46 = .ok (.iload 5, 2) := by decide +kernel
theorem dX6_takeTurned_48 : decode cX6_takeTurned 48 = .ok (.iload 4, 2) := by decide +kernel
theorem dX6_takeTurned_50 : decode cX6_takeTurned 50 = .ok (.if_icmp .ge 133, 3) := by decide +kernel
theorem dX6_takeTurned_53 : decode cX6_takeTurned 53 = .ok (.iconst 0, 1) := by decide +kernel
theorem dX6_takeTurned_54 : decode cX6_takeTurned 54 = .ok (.istore 6, 2) := by decide +kernel
theorem dX6_takeTurned_56 : decode cX6_takeTurned 56 = .ok (.iload 6, 2) := by decide +kernel
theorem dX6_takeTurned_58 : decode cX6_takeTurned 58 = .ok (.iload_n 3, 1) := by decide +kernel
theorem dX6_takeTurned_59 : decode cX6_takeTurned 59 = .ok (.if_icmp .ge 118, 3) := by decide +kernel
theorem dX6_takeTurned_62 : decode cX6_takeTurned 62 = .ok (.aload_n 1, 1) := by decide +kernel
theorem dX6_takeTurned_63 : decode cX6_takeTurned 63 = .ok (.iload 6, 2) := by decide +kernel
theorem dX6_takeTurned_65 : decode cX6_takeTurned 65 = .ok (.iload 5, 2) := by decide +kernel
theorem dX6_takeTurned_67 : decode cX6_takeTurned 67 = .ok (.invokevirtual 45, 3) := by decide +kernel
theorem dX6_takeTurned_70 : decode cX6_takeTurned 70 = .ok (.istore 7, 2) := by decide +kernel
theorem dX6_takeTurned_72 : decode cX6_takeTurned 72 = .ok (.iload_n 2, 1) := by decide +kernel
theorem dX6_takeTurned_73 : decode cX6_takeTurned 73 = .ok (.tableswitch 87 1 3 #[27, 46, 69], 27) := by decide +kernel
theorem dX6_takeTurned_100 : decode cX6_takeTurned 100 = .ok (.aload_n 0, 1) := by decide +kernel
theorem dX6_takeTurned_101 : decode cX6_takeTurned 101 = .ok (.iload 4, 2) := by decide +kernel
theorem dX6_takeTurned_103 : decode cX6_takeTurned 103 = .ok (.iconst 1, 1) := by decide +kernel
theorem dX6_takeTurned_104 : decode cX6_takeTurned 104 = .ok (.isub, 1) := by decide +kernel
theorem dX6_takeTurned_105 : decode cX6_takeTurned 105 = .ok (.iload 5, 2) := by decide +kernel
theorem dX6_takeTurned_107 : decode cX6_takeTurned 107 = .ok (.isub, 1) := by decide +kernel
theorem dX6_takeTurned_108 : decode cX6_takeTurned 108 = .ok (.iload 6, 2) := by decide +kernel
theorem dX6_takeTurned_110 : decode cX6_takeTurned 110 = .ok (.iload 7, 2) := by decide +kernel
theorem dX6_takeTurned_112 : decode cX6_takeTurned 112 = .ok (.invokevirtual 35, 3) := by decide +kernel
theorem dX6_takeTurned_115 : decode cX6_takeTurned 115 = .ok (.pop, 1) := by decide +kernel
theorem dX6_takeTurned_116 : decode cX6_takeTurned 116 = .ok (.goto 55, 3) := by decide +kernel
theorem dX6_takeTurned_119 : decode cX6_takeTurned 119 = .ok (.aload_n 0, 1) := by decide +kernel
theorem dX6_takeTurned_120 : decode cX6_takeTurned 120 = .ok (.iload_n 3, 1) := by decide +kernel
theorem dX6_takeTurned_121 : decode cX6_takeTurned 121 = .ok (.iconst 1, 1) := by decide +kernel
theorem dX6_takeTurned_122 : decode cX6_takeTurned 122 = .ok (.isub, 1) := by decide +kernel
theorem dX6_takeTurned_123 : decode cX6_takeTurned 123 = .ok (.iload 6, 2) := by decide +kernel
theorem dX6_takeTurned_125 : decode cX6_takeTurned 125 = .ok (.isub, 1) := by decide +kernel
theorem dX6_takeTurned_126 : decode cX6_takeTurned 126 = .ok (.iload 4, 2) := by decide +kernel
theorem dX6_takeTurned_128 : decode cX6_takeTurned 128 = .ok (.iconst 1, 1) := by decide +kernel
theorem dX6_takeTurned_129 : decode cX6_takeTurned 129 = .ok (.isub, 1) := by decide +kernel
theorem dX6_takeTurned_130 : decode cX6_takeTurned 130 = .ok (.iload 5, 2) := by decide +kernel
theorem dX6_takeTurned_132 : decode cX6_takeTurned 132 = .ok (.isub, 1) := by decide +kernel
theorem dX6_takeTurned_133 : decode cX6_takeTurned 133 = .ok (.iload 7, 2) := by decide +kernel
theorem dX6_takeTurned_135 : decode cX6_takeTurned 135 = .ok (.invokevirtual 35, 3) := by decide +kernel
theorem dX6_takeTurned_138 : decode cX6_takeTurned 138 = .ok (.pop, 1) := by decide +kernel
theorem dX6_takeTurned_139 : decode cX6_takeTurned 139 = .ok (.goto 32, 3) := by decide +kernel
theorem dX6_takeTurned_142 : decode cX6_takeTurned 142 = .ok (.aload_n 0, 1) := by decide +kernel
theorem dX6_takeTurned_143 : decode cX6_takeTurned 143 = .ok (.iload 5, 2) := by decide +kernel
theorem dX6_takeTurned_145 : decode cX6_takeTurned 145 = .ok (.iload_n 3, 1) := by decide +kernel
theorem dX6_takeTurned_146 : decode cX6_takeTurned 146 = .ok (.iconst 1, 1) := by decide +kernel
theorem dX6_takeTurned_147 : decode cX6_takeTurned 147 = .ok (.isub, 1) := by decide +kernel
theorem dX6_takeTurned_148 : decode cX6_takeTurned 148 = .ok (.iload 6, 2) := by decide +kernel
theorem dX6_takeTurned_150 : decode cX6_takeTurned 150 = .ok (.isub, 1) := by decide +kernel
theorem dX6_takeTurned_151 : decode cX6_takeTurned 151 = .ok (.iload 7, 2) := by decide +kernel
theorem dX6_takeTurned_153 : decode cX6_takeTurned 153 = .ok (.invokevirtual 35, 3) := by decide +kernel
theorem dX6_takeTurned_156 : decode cX6_takeTurned 156 = .ok (.pop, 1) := by decide +kernel
theorem dX6_takeTurned_157 : decode cX6_takeTurned 157 = .ok (.goto 14, 3) := by decide +kernel
theorem dX6_takeTurned_160 : decode cX6_takeTurned 160 = .ok (.aload_n 0, 1) := by decide +kernel
theorem dX6_takeTurned_161 : decode cX6_takeTurned 161 = .ok (.iload 6, 2) := by decide +kernel
theorem dX6_takeTurned_163 : decode cX6_takeTurned 163 = .ok (.iload 5, 2) := by decide +kernel
theorem dX6_takeTurned_165 : decode cX6_takeTurned 165 = .ok (.iload 7, 2) := by decide +kernel
theorem dX6_takeTurned_167 : decode cX6_takeTurned 167 = .ok (.invokevirtual 35, 3) := by decide +kernel
theorem dX6_takeTurned_170 : decode cX6_takeTurned 170 = .ok (.pop, 1) := by decide +kernel
theorem dX6_takeTurned_171 : decode cX6_takeTurned 171 = .ok (.iinc 6 1, 3) := by decide +kernel
theorem dX6_takeTurned_174 : decode cX6_takeTurned 174 = .ok (.goto (-118), 3) := by decide +kernel
theorem dX6_takeTurned_177 : decode cX6_takeTurned 177 = .ok (.iinc 5 1, 3) := by decide +kernel
theorem dX6_takeTurned_180 : decode cX6_takeTurned 180 = .ok (.goto (-134), 3) := by decide +kernel
theorem dX6_takeTurned_183 : decode cX6_takeTurned 183 = .ok (.return_, 1) := by decide +kernel
def mX6_takeTurned : MM := (yX6_takeTurned, cX6_takeTurned, 8, none, { frames := 2, cells := 0, slots := 0, locals := 47 })
def X6_takeTurned_L56 (o0_ : Nat) (o1_ : Nat) (u2_ : Int32) (u3_ : Int32) (u4_ : Int32) (u5_ : Int32) (k177 : SS → Option SS) : Nat → Int32 → SS → Option SS :=
  lp (fun _ _ => none) fun rec v6_ σ_ =>
    if u3_ ≤ v6_ then (
      k177 σ_
      ) else (
      bnd1 (fX6_at σ_ o1_ v6_ u5_) fun v7 =>
      if u2_ = (1 : Int32) then (
        bnd (fX6_put σ_ o0_ ((u4_ - (1 : Int32)) - u5_) v6_ v7) fun b11 σ13 =>
        rec (v6_ + (1 : Int32)) σ13
        ) else
      if u2_ = (2 : Int32) then (
        bnd (fX6_put σ_ o0_ ((u3_ - (1 : Int32)) - v6_) ((u4_ - (1 : Int32)) - u5_) v7) fun b15 σ17 =>
        rec (v6_ + (1 : Int32)) σ17
        ) else
      if u2_ = (3 : Int32) then (
        bnd (fX6_put σ_ o0_ u5_ ((u3_ - (1 : Int32)) - v6_) v7) fun b19 σ21 =>
        rec (v6_ + (1 : Int32)) σ21
        ) else
      bnd (fX6_put σ_ o0_ v6_ u5_ v7) fun b23 σ25 =>
      rec (v6_ + (1 : Int32)) σ25
      )

def X6_takeTurned_L46 (o0_ : Nat) (o1_ : Nat) (u2_ : Int32) (u3_ : Int32) (u4_ : Int32)  : Nat → Int32 → SS → Option SS :=
  lp (fun _ _ => none) fun rec v5_ σ_ =>
    if u4_ ≤ v5_ then (
      some σ_
      ) else (
      X6_takeTurned_L56 o0_ o1_ u2_ u3_ u4_ v5_
      (fun σ26 =>
        rec (v5_ + (1 : Int32)) σ26
        )
      fuel (0 : Int32) σ_
      )

def fX6_takeTurned (σ : SS) (a0 : Nat) (a1 : Nat) (a2 : Int32) : Option SS :=
  vthen (gI σ a1 0) fun v1 =>
  vthen (gI σ a1 1) fun v2 =>
  vthen (fun (s3 : Int32) =>
    vthen (sI σ a0 0 s3) fun σ4 =>
    vthen (fun (s5 : Int32) =>
      vthen (sI σ4 a0 1 s5) fun σ6 =>
      X6_takeTurned_L46 a0 a1 a2 v1 v2
      fuel (0 : Int32) σ6
      ) fun j40 =>
    if (irm a2 (2 : Int32)) = 0 then (
      j40 v2
      ) else (
      j40 v1
      )
    ) fun j24 =>
  if (irm a2 (2 : Int32)) = 0 then (
    j24 v1
    ) else (
    j24 v2
    )

set_option maxRecDepth 20000 in
theorem sX6_takeTurned_L56 {g : GG} {r : SS} {o0_ : Nat} {o1_ : Nat} {u2_ : Int32} {u3_ : Int32} {u4_ : Int32} {u5_ : Int32} {k177 : SS → Option SS} (hs0_ : shp o0_ = (6, 0)) (hs1_ : shp o1_ = (6, 0))
    (hk177 : ∀ (σ_ : SS), k177 σ_ = some r → WT σ_ → RR g mX6_takeTurned (FinR g mX6_takeTurned none NF r) zF 177 [(0, .ref (ad g o0_)), (1, .ref (ad g o1_)), (2, .int u2_), (3, .int u3_), (4, .int u4_), (5, .int u5_)] [] σ_)
    (n : Nat) : ∀ (v6_ : Int32) (σ_ : SS), X6_takeTurned_L56 o0_ o1_ u2_ u3_ u4_ u5_ k177 n v6_ σ_ = some r → WT σ_ → RR g mX6_takeTurned (FinR g mX6_takeTurned none NF r) zF 56 [(0, .ref (ad g o0_)), (1, .ref (ad g o1_)), (2, .int u2_), (3, .int u3_), (4, .int u4_), (5, .int u5_), (6, .int v6_)] [] σ_ := by
  unfold X6_takeTurned_L56
  refine lp_ind (P := fun (rec : Int32 → SS → Option SS) => ∀ (v6_ : Int32) (σ_ : SS), rec v6_ σ_ = some r → WT σ_ → RR g mX6_takeTurned (FinR g mX6_takeTurned none NF r) zF 56 [(0, .ref (ad g o0_)), (1, .ref (ad g o1_)), (2, .int u2_), (3, .int u3_), (4, .int u4_), (5, .int u5_), (6, .int v6_)] [] σ_) ?_ ?_ n
  · intro v6_ σ_ hr; cases hr
  intro rec ih v6_ σ_ hr hw_
  refine r_iload (pc := 56) (j := 6) dX6_takeTurned_56 rfl ?_
  refine r_iload_n (pc := 58) (j := 3) dX6_takeTurned_58 rfl rfl ?_
  refine r_icmp_ge (pc := 59) (tgt := 177) dX6_takeTurned_59 rfl (fun hc => ?_) (fun hc => ?_)
  · replace hr := ite_t hc hr
    exact r_pick (ls1 := [(0, .ref (ad g o0_)), (1, .ref (ad g o1_)), (2, .int u2_), (3, .int u3_), (4, .int u4_), (5, .int u5_)]) [0, 1, 2, 3, 4, 5] rfl (hk177 σ_ hr hw_)
  replace hr := ite_f hc hr
  refine r_aload_n (pc := 62) (j := 1) dX6_takeTurned_62 rfl rfl ?_
  refine r_iload (pc := 63) (j := 6) dX6_takeTurned_63 rfl ?_
  refine r_iload (pc := 65) (j := 5) dX6_takeTurned_65 rfl ?_
  obtain ⟨v7, hv7, hr⟩ := bnd1_inv hr
  refine kX6_at (pc := 67) hv7 hs1_ tw_3_110 ⟨nle rfl, nle rfl⟩ (nle rfl) dX6_takeTurned_67 ?_
  refine r_istore (pc := 70) (ls1 := [(7, .int v7), (0, .ref (ad g o0_)), (1, .ref (ad g o1_)), (2, .int u2_), (3, .int u3_), (4, .int u4_), (5, .int u5_), (6, .int v6_)]) dX6_takeTurned_70 (nle rfl) rfl ?_
  refine r_iload_n (pc := 72) (j := 3) dX6_takeTurned_72 rfl rfl ?_
  by_cases hc0 : u2_ = (1 : Int32)
  · replace hr := ite_t hc0 hr
    refine r_tabIn (pc := 73) (off := 27) (tgt := 100) dX6_takeTurned_73 (by rw [hc0]; decide) (by rw [hc0]; decide) (by rw [hc0]; rfl) rfl ?_
    refine r_aload_n (pc := 100) (j := 1) dX6_takeTurned_100 rfl rfl ?_
    refine r_iload (pc := 101) (j := 5) dX6_takeTurned_101 rfl ?_
    refine r_iconst (pc := 103) (v := (1 : Int32)) dX6_takeTurned_103 rfl ?_
    refine r_isub (pc := 104) dX6_takeTurned_104 ?_
    refine r_iload (pc := 105) (j := 6) dX6_takeTurned_105 rfl ?_
    refine r_isub (pc := 107) dX6_takeTurned_107 ?_
    refine r_iload (pc := 108) (j := 7) dX6_takeTurned_108 rfl ?_
    refine r_iload (pc := 110) (j := 0) dX6_takeTurned_110 rfl ?_
    obtain ⟨b11, σ13, eσ13, hr⟩ := bnd_inv hr
    refine kX6_put (pc := 112) eσ13 hs0_ tw_3_93 ⟨nle rfl, nle rfl⟩ (nle rfl) dX6_takeTurned_112 fun hσ13 => ?_
    refine r_pop (pc := 115) dX6_takeTurned_115 rfl ?_
    refine r_goto (pc := 116) (tgt := 171) dX6_takeTurned_116 rfl ?_
    refine r_iinc (pc := 171) (j := 7) (v := (v6_ + (1 : Int32))) (ls1 := [(6, .int (v6_ + (1 : Int32))), (7, .int v7), (0, .ref (ad g o0_)), (1, .ref (ad g o1_)), (2, .int u2_), (3, .int u3_), (4, .int u4_), (5, .int u5_)]) dX6_takeTurned_171 rfl rfl (nle rfl) rfl ?_
    refine r_goto (pc := 174) (tgt := 56) dX6_takeTurned_174 rfl ?_
    exact r_pick (ls1 := [(0, .ref (ad g o0_)), (1, .ref (ad g o1_)), (2, .int u2_), (3, .int u3_), (4, .int u4_), (5, .int u5_), (6, .int (v6_ + (1 : Int32)))]) [2, 3, 4, 5, 6, 7, 0] rfl (ih (v6_ + (1 : Int32)) σ13 hr hσ13)
  replace hr := ite_f hc0 hr
  by_cases hc1 : u2_ = (2 : Int32)
  · replace hr := ite_t hc1 hr
    refine r_tabIn (pc := 73) (off := 46) (tgt := 119) dX6_takeTurned_73 (by rw [hc1]; decide) (by rw [hc1]; decide) (by rw [hc1]; rfl) rfl ?_
    refine r_aload_n (pc := 119) (j := 1) dX6_takeTurned_119 rfl rfl ?_
    refine r_iload_n (pc := 120) (j := 4) dX6_takeTurned_120 rfl rfl ?_
    refine r_iconst (pc := 121) (v := (1 : Int32)) dX6_takeTurned_121 rfl ?_
    refine r_isub (pc := 122) dX6_takeTurned_122 ?_
    refine r_iload (pc := 123) (j := 7) dX6_takeTurned_123 rfl ?_
    refine r_isub (pc := 125) dX6_takeTurned_125 ?_
    refine r_iload (pc := 126) (j := 5) dX6_takeTurned_126 rfl ?_
    refine r_iconst (pc := 128) (v := (1 : Int32)) dX6_takeTurned_128 rfl ?_
    refine r_isub (pc := 129) dX6_takeTurned_129 ?_
    refine r_iload (pc := 130) (j := 6) dX6_takeTurned_130 rfl ?_
    refine r_isub (pc := 132) dX6_takeTurned_132 ?_
    refine r_iload (pc := 133) (j := 0) dX6_takeTurned_133 rfl ?_
    obtain ⟨b15, σ17, eσ17, hr⟩ := bnd_inv hr
    refine kX6_put (pc := 135) eσ17 hs0_ tw_3_93 ⟨nle rfl, nle rfl⟩ (nle rfl) dX6_takeTurned_135 fun hσ17 => ?_
    refine r_pop (pc := 138) dX6_takeTurned_138 rfl ?_
    refine r_goto (pc := 139) (tgt := 171) dX6_takeTurned_139 rfl ?_
    refine r_iinc (pc := 171) (j := 7) (v := (v6_ + (1 : Int32))) (ls1 := [(6, .int (v6_ + (1 : Int32))), (7, .int v7), (0, .ref (ad g o0_)), (1, .ref (ad g o1_)), (2, .int u2_), (3, .int u3_), (4, .int u4_), (5, .int u5_)]) dX6_takeTurned_171 rfl rfl (nle rfl) rfl ?_
    refine r_goto (pc := 174) (tgt := 56) dX6_takeTurned_174 rfl ?_
    exact r_pick (ls1 := [(0, .ref (ad g o0_)), (1, .ref (ad g o1_)), (2, .int u2_), (3, .int u3_), (4, .int u4_), (5, .int u5_), (6, .int (v6_ + (1 : Int32)))]) [2, 3, 4, 5, 6, 7, 0] rfl (ih (v6_ + (1 : Int32)) σ17 hr hσ17)
  replace hr := ite_f hc1 hr
  by_cases hc2 : u2_ = (3 : Int32)
  · replace hr := ite_t hc2 hr
    refine r_tabIn (pc := 73) (off := 69) (tgt := 142) dX6_takeTurned_73 (by rw [hc2]; decide) (by rw [hc2]; decide) (by rw [hc2]; rfl) rfl ?_
    refine r_aload_n (pc := 142) (j := 1) dX6_takeTurned_142 rfl rfl ?_
    refine r_iload (pc := 143) (j := 6) dX6_takeTurned_143 rfl ?_
    refine r_iload_n (pc := 145) (j := 4) dX6_takeTurned_145 rfl rfl ?_
    refine r_iconst (pc := 146) (v := (1 : Int32)) dX6_takeTurned_146 rfl ?_
    refine r_isub (pc := 147) dX6_takeTurned_147 ?_
    refine r_iload (pc := 148) (j := 7) dX6_takeTurned_148 rfl ?_
    refine r_isub (pc := 150) dX6_takeTurned_150 ?_
    refine r_iload (pc := 151) (j := 0) dX6_takeTurned_151 rfl ?_
    obtain ⟨b19, σ21, eσ21, hr⟩ := bnd_inv hr
    refine kX6_put (pc := 153) eσ21 hs0_ tw_3_93 ⟨nle rfl, nle rfl⟩ (nle rfl) dX6_takeTurned_153 fun hσ21 => ?_
    refine r_pop (pc := 156) dX6_takeTurned_156 rfl ?_
    refine r_goto (pc := 157) (tgt := 171) dX6_takeTurned_157 rfl ?_
    refine r_iinc (pc := 171) (j := 7) (v := (v6_ + (1 : Int32))) (ls1 := [(6, .int (v6_ + (1 : Int32))), (7, .int v7), (0, .ref (ad g o0_)), (1, .ref (ad g o1_)), (2, .int u2_), (3, .int u3_), (4, .int u4_), (5, .int u5_)]) dX6_takeTurned_171 rfl rfl (nle rfl) rfl ?_
    refine r_goto (pc := 174) (tgt := 56) dX6_takeTurned_174 rfl ?_
    exact r_pick (ls1 := [(0, .ref (ad g o0_)), (1, .ref (ad g o1_)), (2, .int u2_), (3, .int u3_), (4, .int u4_), (5, .int u5_), (6, .int (v6_ + (1 : Int32)))]) [2, 3, 4, 5, 6, 7, 0] rfl (ih (v6_ + (1 : Int32)) σ21 hr hσ21)
  replace hr := ite_f hc2 hr
  refine r_tabOut (pc := 73) (tgt := 160) dX6_takeTurned_73 (tab_out (by decide) (by decide) fun k h1 h2 => ?_) rfl ?_
  · rcases (show k = 1 ∨ k = 2 ∨ k = 3 by omega) with rfl | rfl | rfl
    · exact hc0
    · exact hc1
    · exact hc2
  refine r_aload_n (pc := 160) (j := 1) dX6_takeTurned_160 rfl rfl ?_
  refine r_iload (pc := 161) (j := 7) dX6_takeTurned_161 rfl ?_
  refine r_iload (pc := 163) (j := 6) dX6_takeTurned_163 rfl ?_
  refine r_iload (pc := 165) (j := 0) dX6_takeTurned_165 rfl ?_
  obtain ⟨b23, σ25, eσ25, hr⟩ := bnd_inv hr
  refine kX6_put (pc := 167) eσ25 hs0_ tw_3_93 ⟨nle rfl, nle rfl⟩ (nle rfl) dX6_takeTurned_167 fun hσ25 => ?_
  refine r_pop (pc := 170) dX6_takeTurned_170 rfl ?_
  refine r_iinc (pc := 171) (j := 7) (v := (v6_ + (1 : Int32))) (ls1 := [(6, .int (v6_ + (1 : Int32))), (7, .int v7), (0, .ref (ad g o0_)), (1, .ref (ad g o1_)), (2, .int u2_), (3, .int u3_), (4, .int u4_), (5, .int u5_)]) dX6_takeTurned_171 rfl rfl (nle rfl) rfl ?_
  refine r_goto (pc := 174) (tgt := 56) dX6_takeTurned_174 rfl ?_
  exact r_pick (ls1 := [(0, .ref (ad g o0_)), (1, .ref (ad g o1_)), (2, .int u2_), (3, .int u3_), (4, .int u4_), (5, .int u5_), (6, .int (v6_ + (1 : Int32)))]) [2, 3, 4, 5, 6, 7, 0] rfl (ih (v6_ + (1 : Int32)) σ25 hr hσ25)

set_option maxRecDepth 20000 in
theorem sX6_takeTurned_L46 {g : GG} {r : SS} {o0_ : Nat} {o1_ : Nat} {u2_ : Int32} {u3_ : Int32} {u4_ : Int32}  (hs0_ : shp o0_ = (6, 0)) (hs1_ : shp o1_ = (6, 0))
    (n : Nat) : ∀ (v5_ : Int32) (σ_ : SS), X6_takeTurned_L46 o0_ o1_ u2_ u3_ u4_ n v5_ σ_ = some r → WT σ_ → RR g mX6_takeTurned (FinR g mX6_takeTurned none NF r) zF 46 [(0, .ref (ad g o0_)), (1, .ref (ad g o1_)), (2, .int u2_), (3, .int u3_), (4, .int u4_), (5, .int v5_)] [] σ_ := by
  unfold X6_takeTurned_L46
  refine lp_ind (P := fun (rec : Int32 → SS → Option SS) => ∀ (v5_ : Int32) (σ_ : SS), rec v5_ σ_ = some r → WT σ_ → RR g mX6_takeTurned (FinR g mX6_takeTurned none NF r) zF 46 [(0, .ref (ad g o0_)), (1, .ref (ad g o1_)), (2, .int u2_), (3, .int u3_), (4, .int u4_), (5, .int v5_)] [] σ_) ?_ ?_ n
  · intro v5_ σ_ hr; cases hr
  intro rec ih v5_ σ_ hr hw_
  refine r_iload (pc := 46) (j := 5) dX6_takeTurned_46 rfl ?_
  refine r_iload (pc := 48) (j := 4) dX6_takeTurned_48 rfl ?_
  refine r_icmp_ge (pc := 50) (tgt := 183) dX6_takeTurned_50 rfl (fun hc => ?_) (fun hc => ?_)
  · replace hr := ite_t hc hr
    exact l_ov hr (r_vret (pc := 183) rfl rfl ⟨Nat.le_refl _, Nat.le_refl _⟩ dX6_takeTurned_183)
  replace hr := ite_f hc hr
  refine r_iconst (pc := 53) (v := (0 : Int32)) dX6_takeTurned_53 rfl ?_
  refine r_istore (pc := 54) (ls1 := [(6, .int (0 : Int32)), (0, .ref (ad g o0_)), (1, .ref (ad g o1_)), (2, .int u2_), (3, .int u3_), (4, .int u4_), (5, .int v5_)]) dX6_takeTurned_54 (nle rfl) rfl ?_
  refine r_pick (ls1 := [(0, .ref (ad g o0_)), (1, .ref (ad g o1_)), (2, .int u2_), (3, .int u3_), (4, .int u4_), (5, .int v5_), (6, .int (0 : Int32))]) [1, 2, 3, 4, 5, 6, 0] rfl ?_
  refine sX6_takeTurned_L56 hs0_ hs1_   (fun σ26 hr hσ26 => ?_) fuel (0 : Int32) σ_ hr hw_
  refine r_iinc (pc := 177) (j := 5) (v := (v5_ + (1 : Int32))) (ls1 := [(5, .int (v5_ + (1 : Int32))), (0, .ref (ad g o0_)), (1, .ref (ad g o1_)), (2, .int u2_), (3, .int u3_), (4, .int u4_)]) dX6_takeTurned_177 rfl rfl (nle rfl) rfl ?_
  refine r_goto (pc := 180) (tgt := 46) dX6_takeTurned_180 rfl ?_
  exact r_pick (ls1 := [(0, .ref (ad g o0_)), (1, .ref (ad g o1_)), (2, .int u2_), (3, .int u3_), (4, .int u4_), (5, .int (v5_ + (1 : Int32)))]) [1, 2, 3, 4, 5, 0] rfl (ih (v5_ + (1 : Int32)) σ26 hr hσ26)

set_option maxRecDepth 20000 in
theorem sX6_takeTurned {g : GG} {σ : SS} {a0 : Nat} {a1 : Nat} {a2 : Int32} {r : SS} (hr : fX6_takeTurned σ a0 a1 a2 = some r) (hs0 : shp a0 = (6, 0)) (hs1 : shp a1 = (6, 0)) : Ct g mX6_takeTurned [.ref (ad g a0), .ref (ad g a1), .int a2] NF σ none NF r := by
  refine Ct.of (by decide +kernel) (nle rfl) fun hw0 => ?_
  have hw := hw0 rfl
  unfold fX6_takeTurned at hr
  change RR g mX6_takeTurned (FinR g mX6_takeTurned none NF r) zF 0 [(0, .ref (ad g a0)), (1, .ref (ad g a1)), (2, .int a2)] [] σ
  refine r_aload_n (pc := 0) (j := 1) dX6_takeTurned_0 rfl rfl ?_
  refine gf6_0 (pc := 1) tw_1_31 hs1 dX6_takeTurned_1 ?_
  refine r_topi fun v1 ev1 => ?_
  replace hr := vthen_inv hr v1 ev1
  refine r_istore_n (pc := 4) (ls1 := [(3, .int v1), (0, .ref (ad g a0)), (1, .ref (ad g a1)), (2, .int a2)]) dX6_takeTurned_4 rfl (nle rfl) rfl ?_
  refine r_aload_n (pc := 5) (j := 2) dX6_takeTurned_5 rfl rfl ?_
  refine gf6_1 (pc := 6) tw_1_36 hs1 dX6_takeTurned_6 ?_
  refine r_topi fun v2 ev2 => ?_
  replace hr := vthen_inv hr v2 ev2
  refine r_istore (pc := 9) (ls1 := [(4, .int v2), (3, .int v1), (0, .ref (ad g a0)), (1, .ref (ad g a1)), (2, .int a2)]) dX6_takeTurned_9 (nle rfl) rfl ?_
  refine r_aload_n (pc := 11) (j := 2) dX6_takeTurned_11 rfl rfl ?_
  refine r_iload_n (pc := 12) (j := 4) dX6_takeTurned_12 rfl rfl ?_
  refine r_iconst (pc := 13) (v := (2 : Int32)) dX6_takeTurned_13 rfl ?_
  refine r_irem (pc := 14) dX6_takeTurned_14 (by decide) ?_
  obtain ⟨j24, ej24, hr⟩ := vth_ex hr
  have hj24 : ∀ (s3 : Int32), j24 s3 = some r → RR g mX6_takeTurned (FinR g mX6_takeTurned none NF r) zF 24 [(0, .ref (ad g a0)), (1, .ref (ad g a1)), (2, .int a2), (3, .int v1), (4, .int v2)] [.int s3, .ref (ad g a0)] σ := by
    intro s3 hr
    replace hr := (congrFun ej24 s3).symm.trans hr
    refine pf6_0 (pc := 24) tw_1_31 hs0 dX6_takeTurned_24 fun σ4 eσ4 => ?_
    replace hr := vthen_inv hr σ4 eσ4
    have hσ4 := wtI eσ4 hw
    refine r_aload_n (pc := 27) (j := 0) dX6_takeTurned_27 rfl rfl ?_
    refine r_iload_n (pc := 28) (j := 2) dX6_takeTurned_28 rfl rfl ?_
    refine r_iconst (pc := 29) (v := (2 : Int32)) dX6_takeTurned_29 rfl ?_
    refine r_irem (pc := 30) dX6_takeTurned_30 (by decide) ?_
    obtain ⟨j40, ej40, hr⟩ := vth_ex hr
    have hj40 : ∀ (s5 : Int32), j40 s5 = some r → RR g mX6_takeTurned (FinR g mX6_takeTurned none NF r) zF 40 [(0, .ref (ad g a0)), (1, .ref (ad g a1)), (2, .int a2), (3, .int v1), (4, .int v2)] [.int s5, .ref (ad g a0)] σ4 := by
      intro s5 hr
      replace hr := (congrFun ej40 s5).symm.trans hr
      refine pf6_1 (pc := 40) tw_1_36 hs0 dX6_takeTurned_40 fun σ6 eσ6 => ?_
      replace hr := vthen_inv hr σ6 eσ6
      have hσ6 := wtI eσ6 hσ4
      refine r_iconst (pc := 43) (v := (0 : Int32)) dX6_takeTurned_43 rfl ?_
      refine r_istore (pc := 44) (ls1 := [(5, .int (0 : Int32)), (0, .ref (ad g a0)), (1, .ref (ad g a1)), (2, .int a2), (3, .int v1), (4, .int v2)]) dX6_takeTurned_44 (nle rfl) rfl ?_
      refine r_pick (ls1 := [(0, .ref (ad g a0)), (1, .ref (ad g a1)), (2, .int a2), (3, .int v1), (4, .int v2), (5, .int (0 : Int32))]) [1, 2, 3, 4, 5, 0] rfl ?_
      refine sX6_takeTurned_L46 hs0 hs1    fuel (0 : Int32) σ6 hr hσ6
    refine r_if_ne (pc := 31) (tgt := 39) dX6_takeTurned_31 rfl (fun hc => ?_) (fun hc => ?_)
    · replace hr := ite_f hc hr
      refine r_iload_n (pc := 39) (j := 3) dX6_takeTurned_39 rfl rfl ?_
      exact r_pick (ls1 := [(0, .ref (ad g a0)), (1, .ref (ad g a1)), (2, .int a2), (3, .int v1), (4, .int v2)]) [0, 1, 2, 3, 4] rfl (hj40 v1 hr)
    replace hr := ite_t hc hr
    refine r_iload (pc := 34) (j := 4) dX6_takeTurned_34 rfl ?_
    refine r_goto (pc := 36) (tgt := 40) dX6_takeTurned_36 rfl ?_
    exact r_pick (ls1 := [(0, .ref (ad g a0)), (1, .ref (ad g a1)), (2, .int a2), (3, .int v1), (4, .int v2)]) [0, 1, 2, 3, 4] rfl (hj40 v2 hr)
  refine r_if_ne (pc := 15) (tgt := 22) dX6_takeTurned_15 rfl (fun hc => ?_) (fun hc => ?_)
  · replace hr := ite_f hc hr
    refine r_iload (pc := 22) (j := 0) dX6_takeTurned_22 rfl ?_
    exact r_pick (ls1 := [(0, .ref (ad g a0)), (1, .ref (ad g a1)), (2, .int a2), (3, .int v1), (4, .int v2)]) [2, 3, 4, 1, 0] rfl (hj24 v2 hr)
  replace hr := ite_t hc hr
  refine r_iload_n (pc := 18) (j := 1) dX6_takeTurned_18 rfl rfl ?_
  refine r_goto (pc := 19) (tgt := 24) dX6_takeTurned_19 rfl ?_
  exact r_pick (ls1 := [(0, .ref (ad g a0)), (1, .ref (ad g a1)), (2, .int a2), (3, .int v1), (4, .int v2)]) [2, 3, 4, 1, 0] rfl (hj24 v1 hr)

theorem kX6_takeTurned {g : GG} {σ : SS} {a0 : Nat} {a1 : Nat} {a2 : Int32} {σ2 : SS} {M : MM} {F : State → Array Value → List Frame → State → Prop} {pc index : Nat} {ls : List (Nat × Value)} {rest : List Value} (hf : fX6_takeTurned σ a0 a1 a2 = some σ2) (hs0 : shp a0 = (6, 0)) (hs1 : shp a1 = (6, 0)) (hl : Cond.methodLink M.1.cls index yX6_takeTurned ∈ lw_gt) (hR : mX6_takeTurned.2.2.2.2.frames + 1 ≤ M.2.2.2.2.frames ∧ 8 + (mX6_takeTurned.2.2.1 + 11) + mX6_takeTurned.2.2.2.2.locals ≤ M.2.2.2.2.locals) (hrest : (rest.map fun v => v.category).sum ≤ 8) (hd : decode M.2.1 pc = .ok (.invokevirtual index, 3)) (k : WT σ2 → RR g M F zF (pc + 3) ls rest σ2) : RR g M F zF pc ls (.int a2 :: .ref (ad g a1) :: .ref (ad g a0) :: rest) σ :=
  r_callV (z := zF) (N := mX6_takeTurned) (nn := 2) (o1 := none) (sX6_takeTurned hf hs0 hs1) hs0 (by decide) (shp_le hs0 (nle rfl)) (ci := 6) rfl rfl tw_3_109 tw_1_2 hl tw_3_107 tw_3_108 ⟨by decide, by decide, rfl⟩ hR rfl hrest hd ⟨Nat.zero_le _, Nat.zero_le _⟩ rfl (fun h => k (h rfl))

theorem dX7_up_0 : decode cX7_up 0 = .ok (.aload_n 0, 1) := by decide +kernel
theorem dX7_up_1 : decode cX7_up 1 = .ok (.getfield 32, 3) := by decide +kernel
theorem dX7_up_4 : decode cX7_up 4 = .ok (.getfield 274, 3) := by decide +kernel
theorem dX7_up_7 : decode cX7_up 7 = .ok (.ifCond .ne 5, 3) := by decide +kernel
theorem dX7_up_10 : decode cX7_up 10 = .ok (.iconst (-1), 1) := by decide +kernel
theorem dX7_up_11 : decode cX7_up 11 = .ok (.ireturn, 1) := by decide +kernel
theorem dX7_up_12 : decode cX7_up 12 = .ok (.bipush (-2), 2) := by decide +kernel
theorem dX7_up_14 : decode cX7_up 14 = .ok (.istore_n 1, 1) := by decide +kernel
theorem dX7_up_15 : decode cX7_up 15 = .ok (.iconst 0, 1) := by decide +kernel
theorem dX7_up_16 : decode cX7_up 16 = .ok (.istore_n 2, 1) := by decide +kernel
theorem dX7_up_17 : decode cX7_up 17 = .ok (.iconst 0, 1) := by decide +kernel
theorem dX7_up_18 : decode cX7_up 18 = .ok (.istore_n 3, 1) := by decide +kernel
theorem dX7_up_19 : decode cX7_up 19 = .ok (.iload_n 3, 1) := by decide +kernel
theorem dX7_up_20 : decode cX7_up 20 = .ok (.iconst 4, 1) := by decide +kernel
theorem dX7_up_21 : decode cX7_up 21 = .ok (.if_icmp .ge 67, 3) := by decide +kernel
theorem dX7_up_24 : decode cX7_up 24 = .ok (.aload_n 0, 1) := by decide +kernel
theorem dX7_up_25 : decode cX7_up 25 = .ok (.getfield 22, 3) := by decide +kernel
theorem dX7_up_28 : decode cX7_up 28 = .ok (.aload_n 0, 1) := by decide +kernel
theorem dX7_up_29 : decode cX7_up 29 = .ok (.getfield 18, 3) := by decide +kernel
theorem dX7_up_32 : decode cX7_up 32 = .ok (.iload_n 3, 1) := by decide +kernel
theorem dX7_up_33 : decode cX7_up 33 = .ok (.invokevirtual 183, 3) := by decide +kernel
theorem dX7_up_36 : decode cX7_up 36 = .ok (.aload_n 0, 1) := by decide +kernel
theorem dX7_up_37 : decode cX7_up 37 = .ok (.getfield 62, 3) := by decide +kernel
theorem dX7_up_40 : decode cX7_up 40 = .ok (.aload_n 0, 1) := by decide +kernel
theorem dX7_up_41 : decode cX7_up 41 = .ok (.getfield 22, 3) := by decide +kernel
theorem dX7_up_44 : decode cX7_up 44 = .ok (.aload_n 0, 1) := by decide +kernel
theorem dX7_up_45 : decode cX7_up 45 = .ok (.getfield 32, 3) := by decide +kernel
theorem dX7_up_48 : decode cX7_up 48 = .ok (.invokevirtual 303, 3) := by decide +kernel
theorem dX7_up_51 : decode cX7_up 51 = .ok (.ifCond .eq 31, 3) := by decide +kernel
theorem dX7_up_54 : decode cX7_up 54 = .ok (.aload_n 0, 1) := by decide +kernel
theorem dX7_up_55 : decode cX7_up 55 = .ok (.getfield 62, 3) := by decide +kernel
theorem dX7_up_58 : decode cX7_up 58 = .ok (.aload_n 0, 1) := by decide +kernel
theorem dX7_up_59 : decode cX7_up 59 = .ok (.getfield 32, 3) := by decide +kernel
theorem dX7_up_62 : decode cX7_up 62 = .ok (.invokevirtual 321, 3) := by decide +kernel
theorem dX7_up_65 : decode cX7_up 65 = .ok (.istore 4, 2) := by decide +kernel
theorem dX7_up_67 : decode cX7_up 67 = .ok (.iload_n 1, 1) := by decide +kernel
theorem dX7_up_68 : decode cX7_up 68 = .ok (.ifCond .lt 9, 3) := by decide +kernel
theorem dX7_up_71 : decode cX7_up 71 = .ok (.iload 4, 2) := by decide +kernel
theorem dX7_up_73 : decode cX7_up 73 = .ok (.iload_n 2, 1) := by decide +kernel
theorem dX7_up_74 : decode cX7_up 74 = .ok (.if_icmp .le 8, 3) := by decide +kernel
theorem dX7_up_77 : decode cX7_up 77 = .ok (.iload_n 3, 1) := by decide +kernel
theorem dX7_up_78 : decode cX7_up 78 = .ok (.istore_n 1, 1) := by decide +kernel
theorem dX7_up_79 : decode cX7_up 79 = .ok (.iload 4, 2) := by decide +kernel
theorem dX7_up_81 : decode cX7_up 81 = .ok (.istore_n 2, 1) := by decide +kernel
theorem dX7_up_82 : decode cX7_up 82 = .ok (.iinc 3 1, 3) := by decide +kernel
theorem dX7_up_85 : decode cX7_up 85 = .ok (.goto (-66), 3) := by decide +kernel
theorem dX7_up_88 : decode cX7_up 88 = .ok (.iload_n 1, 1) := by decide +kernel
theorem dX7_up_89 : decode cX7_up 89 = .ok (.ireturn, 1) := by decide +kernel
def mX7_up : MM := (yX7_up, cX7_up, 5, Option.some Jvm.ClassFile.FieldType.int, { frames := 6, cells := 0, slots := 0, locals := 148 })
def X7_up_L19   : Nat → Int32 → Int32 → Int32 → SS → Option (Int32 × SS) :=
  lp (fun _ _ _ _ => none) fun rec v1_ v2_ v3_ σ_ =>
    if (4 : Int32) ≤ v3_ then (
      some (v1_, σ_)
      ) else (
      bnd1 (fX6_takeTurned σ_ (gR σ_ 1 3) (gR σ_ 1 2) v3_) fun σ1 =>
      bnd (fX3_read σ1 (gR σ1 1 3) (gR σ1 1 5)) fun b3 σ5 =>
      if b3 = true then (
        bnd1 (fX3_allGains σ5 (gR σ5 1 5)) fun v6 =>
        vthen (fun (_u : Unit) =>
          rec v3_ v6 (v3_ + (1 : Int32)) σ5
          ) fun j77 =>
        if v1_ < 0 then (
          j77 ()
          ) else (
          if v6 ≤ v2_ then (
            rec v1_ v2_ (v3_ + (1 : Int32)) σ5
            ) else (
            j77 ()
            )
          )
        ) else (
        rec v1_ v2_ (v3_ + (1 : Int32)) σ5
        )
      )

def fX7_up (σ : SS)  : Option (Int32 × SS) :=
  if (gI σ (gR σ 1 5) 0) = 0 then (
    some ((-1 : Int32), σ)
    ) else (
    X7_up_L19
    fuel (-2 : Int32) (0 : Int32) (0 : Int32) σ
    )

set_option maxRecDepth 20000 in
theorem sX7_up_L19 {g : GG} {r : Int32 × SS}   
    (n : Nat) : ∀ (v1_ : Int32) (v2_ : Int32) (v3_ : Int32) (σ_ : SS), X7_up_L19 n v1_ v2_ v3_ σ_ = some r → WT σ_ → RR g mX7_up (FinR g mX7_up (some (.int r.1)) NF r.2) zF 19 [(0, .ref (ad g 1)), (1, .int v1_), (2, .int v2_), (3, .int v3_)] [] σ_ := by
  unfold X7_up_L19
  refine lp_ind (P := fun (rec : Int32 → Int32 → Int32 → SS → Option (Int32 × SS)) => ∀ (v1_ : Int32) (v2_ : Int32) (v3_ : Int32) (σ_ : SS), rec v1_ v2_ v3_ σ_ = some r → WT σ_ → RR g mX7_up (FinR g mX7_up (some (.int r.1)) NF r.2) zF 19 [(0, .ref (ad g 1)), (1, .int v1_), (2, .int v2_), (3, .int v3_)] [] σ_) ?_ ?_ n
  · intro v1_ v2_ v3_ σ_ hr; cases hr
  intro rec ih v1_ v2_ v3_ σ_ hr hw_
  refine r_iload_n (pc := 19) (j := 3) dX7_up_19 rfl rfl ?_
  refine r_iconst (pc := 20) (v := (4 : Int32)) dX7_up_20 rfl ?_
  refine r_icmp_ge (pc := 21) (tgt := 88) dX7_up_21 rfl (fun hc => ?_) (fun hc => ?_)
  · replace hr := ite_t hc hr
    refine r_iload_n (pc := 88) (j := 1) dX7_up_88 rfl rfl ?_
    exact l_osi hr (r_iret (pc := 89) (v := v1_) rfl rfl ⟨Nat.le_refl _, Nat.le_refl _⟩ dX7_up_89)
  replace hr := ite_f hc hr
  refine r_aload_n (pc := 24) (j := 0) dX7_up_24 rfl rfl ?_
  refine gf7_3 (pc := 25) tw_2_106 hw_ dX7_up_25 ?_
  refine r_aload_n (pc := 28) (j := 0) dX7_up_28 rfl rfl ?_
  refine gf7_2 (pc := 29) tw_2_105 hw_ dX7_up_29 ?_
  refine r_iload_n (pc := 32) (j := 3) dX7_up_32 rfl rfl ?_
  obtain ⟨σ1, eσ1, hr⟩ := bnd1_inv hr
  refine kX6_takeTurned (pc := 33) eσ1 (wt_sp hw_).1 (wt_sc hw_).1 tw_3_106 ⟨nle rfl, nle rfl⟩ (nle rfl) dX7_up_33 fun hσ1 => ?_
  refine r_aload_n (pc := 36) (j := 0) dX7_up_36 rfl rfl ?_
  refine gf7_12 (pc := 37) tw_2_115 hσ1 dX7_up_37 ?_
  refine r_aload_n (pc := 40) (j := 0) dX7_up_40 rfl rfl ?_
  refine gf7_3 (pc := 41) tw_2_106 hσ1 dX7_up_41 ?_
  refine r_aload_n (pc := 44) (j := 0) dX7_up_44 rfl rfl ?_
  refine gf7_5 (pc := 45) tw_2_108 hσ1 dX7_up_45 ?_
  obtain ⟨b3, σ5, eσ5, hr⟩ := bnd_inv hr
  refine kX3_read (pc := 48) eσ5 (wt_sp hσ1).1 (wt_fo hσ1).1 tw_3_10 ⟨nle rfl, nle rfl⟩ (nle rfl) dX7_up_48 fun hσ5 => ?_
  refine r_ifB_eq (pc := 51) (tgt := 82) dX7_up_51 rfl (fun hc => ?_) (fun hc => ?_)
  · replace hr := ite_f hc hr
    refine r_iinc (pc := 82) (j := 3) (v := (v3_ + (1 : Int32))) (ls1 := [(3, .int (v3_ + (1 : Int32))), (0, .ref (ad g 1)), (1, .int v1_), (2, .int v2_)]) dX7_up_82 rfl rfl (nle rfl) rfl ?_
    refine r_goto (pc := 85) (tgt := 19) dX7_up_85 rfl ?_
    exact r_pick (ls1 := [(0, .ref (ad g 1)), (1, .int v1_), (2, .int v2_), (3, .int (v3_ + (1 : Int32)))]) [1, 2, 3, 0] rfl (ih v1_ v2_ (v3_ + (1 : Int32)) σ5 hr hσ5)
  replace hr := ite_t hc hr
  refine r_aload_n (pc := 54) (j := 0) dX7_up_54 rfl rfl ?_
  refine gf7_12 (pc := 55) tw_2_115 hσ5 dX7_up_55 ?_
  refine r_aload_n (pc := 58) (j := 0) dX7_up_58 rfl rfl ?_
  refine gf7_5 (pc := 59) tw_2_108 hσ5 dX7_up_59 ?_
  obtain ⟨v6, hv6, hr⟩ := bnd1_inv hr
  refine kX3_allGains (pc := 62) hv6 (wt_fo hσ5).1 tw_3_59 ⟨nle rfl, nle rfl⟩ (nle rfl) dX7_up_62 ?_
  refine r_istore (pc := 65) (ls1 := [(4, .int v6), (0, .ref (ad g 1)), (1, .int v1_), (2, .int v2_), (3, .int v3_)]) dX7_up_65 (nle rfl) rfl ?_
  refine r_iload_n (pc := 67) (j := 2) dX7_up_67 rfl rfl ?_
  obtain ⟨j77, ej77, hr⟩ := vth_ex hr
  have hj77 : j77 () = some r → RR g mX7_up (FinR g mX7_up (some (.int r.1)) NF r.2) zF 77 [(0, .ref (ad g 1)), (3, .int v3_), (4, .int v6)] [] σ5 := by
    intro  hr
    replace hr := (congrFun ej77 ()).symm.trans hr
    refine r_iload_n (pc := 77) (j := 1) dX7_up_77 rfl rfl ?_
    refine r_istore_n (pc := 78) (ls1 := [(1, .int v3_), (0, .ref (ad g 1)), (3, .int v3_), (4, .int v6)]) dX7_up_78 rfl (nle rfl) rfl ?_
    refine r_iload (pc := 79) (j := 3) dX7_up_79 rfl ?_
    refine r_istore_n (pc := 81) (ls1 := [(2, .int v6), (1, .int v3_), (0, .ref (ad g 1)), (3, .int v3_), (4, .int v6)]) dX7_up_81 rfl (nle rfl) rfl ?_
    refine r_iinc (pc := 82) (j := 3) (v := (v3_ + (1 : Int32))) (ls1 := [(3, .int (v3_ + (1 : Int32))), (2, .int v6), (1, .int v3_), (0, .ref (ad g 1)), (4, .int v6)]) dX7_up_82 rfl rfl (nle rfl) rfl ?_
    refine r_goto (pc := 85) (tgt := 19) dX7_up_85 rfl ?_
    exact r_pick (ls1 := [(0, .ref (ad g 1)), (1, .int v3_), (2, .int v6), (3, .int (v3_ + (1 : Int32)))]) [3, 2, 1, 0] rfl (ih v3_ v6 (v3_ + (1 : Int32)) σ5 hr hσ5)
  refine r_if_lt (pc := 68) (tgt := 77) dX7_up_68 rfl (fun hc => ?_) (fun hc => ?_)
  · replace hr := ite_t hc hr
    exact r_pick (ls1 := [(0, .ref (ad g 1)), (3, .int v3_), (4, .int v6)]) [1, 4, 0] rfl (hj77  hr)
  replace hr := ite_f hc hr
  refine r_iload (pc := 71) (j := 0) dX7_up_71 rfl ?_
  refine r_iload_n (pc := 73) (j := 3) dX7_up_73 rfl rfl ?_
  refine r_icmp_le (pc := 74) (tgt := 82) dX7_up_74 rfl (fun hc => ?_) (fun hc => ?_)
  · replace hr := ite_t hc hr
    refine r_iinc (pc := 82) (j := 4) (v := (v3_ + (1 : Int32))) (ls1 := [(3, .int (v3_ + (1 : Int32))), (4, .int v6), (0, .ref (ad g 1)), (1, .int v1_), (2, .int v2_)]) dX7_up_82 rfl rfl (nle rfl) rfl ?_
    refine r_goto (pc := 85) (tgt := 19) dX7_up_85 rfl ?_
    exact r_pick (ls1 := [(0, .ref (ad g 1)), (1, .int v1_), (2, .int v2_), (3, .int (v3_ + (1 : Int32)))]) [2, 3, 4, 0] rfl (ih v1_ v2_ (v3_ + (1 : Int32)) σ5 hr hσ5)
  replace hr := ite_f hc hr
  exact r_pick (ls1 := [(0, .ref (ad g 1)), (3, .int v3_), (4, .int v6)]) [1, 4, 0] rfl (hj77  hr)

set_option maxRecDepth 20000 in
theorem sX7_up {g : GG} {σ : SS}  {r : Int32 × SS} (hr : fX7_up σ = some r)  : Ct g mX7_up [.ref (ad g 1)] NF σ (some (.int r.1)) NF r.2 := by
  refine Ct.of (by decide +kernel) (nle rfl) fun hw0 => ?_
  have hw := hw0 rfl
  unfold fX7_up at hr
  change RR g mX7_up (FinR g mX7_up (some (.int r.1)) NF r.2) zF 0 [(0, .ref (ad g 1))] [] σ
  refine r_aload_n (pc := 0) (j := 0) dX7_up_0 rfl rfl ?_
  refine gf7_5 (pc := 1) tw_2_108 hw dX7_up_1 ?_
  refine gf1_0 (pc := 4) tw_1_60 (wt_fo hw).1 dX7_up_4 ?_
  refine r_if_ne (pc := 7) (tgt := 12) dX7_up_7 rfl (fun hc => ?_) (fun hc => ?_)
  · replace hr := ite_f hc hr
    refine r_bipush (pc := 12) (v := (-2 : Int32)) dX7_up_12 rfl ?_
    refine r_istore_n (pc := 14) (ls1 := [(1, .int (-2 : Int32)), (0, .ref (ad g 1))]) dX7_up_14 rfl (nle rfl) rfl ?_
    refine r_iconst (pc := 15) (v := (0 : Int32)) dX7_up_15 rfl ?_
    refine r_istore_n (pc := 16) (ls1 := [(2, .int (0 : Int32)), (1, .int (-2 : Int32)), (0, .ref (ad g 1))]) dX7_up_16 rfl (nle rfl) rfl ?_
    refine r_iconst (pc := 17) (v := (0 : Int32)) dX7_up_17 rfl ?_
    refine r_istore_n (pc := 18) (ls1 := [(3, .int (0 : Int32)), (2, .int (0 : Int32)), (1, .int (-2 : Int32)), (0, .ref (ad g 1))]) dX7_up_18 rfl (nle rfl) rfl ?_
    refine r_pick (ls1 := [(0, .ref (ad g 1)), (1, .int (-2 : Int32)), (2, .int (0 : Int32)), (3, .int (0 : Int32))]) [3, 2, 1, 0] rfl ?_
    refine sX7_up_L19     fuel (-2 : Int32) (0 : Int32) (0 : Int32) σ hr hw
  replace hr := ite_t hc hr
  refine r_iconst (pc := 10) (v := (-1 : Int32)) dX7_up_10 rfl ?_
  exact l_osi hr (r_iret (pc := 11) (v := (-1 : Int32)) rfl rfl ⟨Nat.le_refl _, Nat.le_refl _⟩ dX7_up_11)

theorem kX7_up {g : GG} {σ : SS}  {v : Int32} {σ2 : SS} {M : MM} {F : State → Array Value → List Frame → State → Prop} {pc index : Nat} {ls : List (Nat × Value)} {rest : List Value} (hf : fX7_up σ = some (v, σ2))  (hl : Cond.methodLink M.1.cls index yX7_up ∈ lw_gt) (hR : mX7_up.2.2.2.2.frames + 1 ≤ M.2.2.2.2.frames ∧ 8 + (mX7_up.2.2.1 + 11) + mX7_up.2.2.2.2.locals ≤ M.2.2.2.2.locals) (hrest : (rest.map fun v => v.category).sum ≤ 8) (hd : decode M.2.1 pc = .ok (.invokevirtual index, 3)) (k : WT σ2 → RR g M F zF (pc + 3) ls (.int v :: rest) σ2) : RR g M F zF pc ls (.ref (ad g 1) :: rest) σ :=
  r_callV (z := zF) (N := mX7_up) (nn := 0) (o1 := some (.int v)) (sX7_up hf ) (rfl : shp 1 = (7, 0)) (by decide) (shp_le (rfl : shp 1 = (7, 0)) (nle rfl)) (ci := 7) rfl rfl tw_3_105 tw_1_1 hl tw_3_103 tw_3_104 ⟨by decide, by decide, rfl⟩ hR rfl hrest hd ⟨Nat.zero_le _, Nat.zero_le _⟩ rfl (fun h => k (h rfl))

theorem dX4_add_0 : decode cX4_add 0 = .ok (.aload_n 0, 1) := by decide +kernel
theorem dX4_add_1 : decode cX4_add 1 = .ok (.getfield 27, 3) := by decide +kernel
theorem dX4_add_4 : decode cX4_add 4 = .ok (.istore_n 3, 1) := by decide +kernel
theorem dX4_add_5 : decode cX4_add 5 = .ok (.aload_n 0, 1) := by decide +kernel
theorem dX4_add_6 : decode cX4_add 6 = .ok (.dup, 1) := by decide +kernel
theorem dX4_add_7 : decode cX4_add 7 = .ok (.getfield 27, 3) := by decide +kernel
theorem dX4_add_10 : decode cX4_add 10 = .ok (.iconst 1, 1) := by decide +kernel
theorem dX4_add_11 : decode cX4_add 11 = .ok (.iadd, 1) := by decide +kernel
theorem dX4_add_12 : decode cX4_add 12 = .ok (.putfield 27, 3) := by decide +kernel
theorem dX4_add_15 : decode cX4_add 15 = .ok (.aload_n 0, 1) := by decide +kernel
theorem dX4_add_16 : decode cX4_add 16 = .ok (.getfield 9, 3) := by decide +kernel
theorem dX4_add_19 : decode cX4_add 19 = .ok (.iload_n 3, 1) := by decide +kernel
theorem dX4_add_20 : decode cX4_add 20 = .ok (.aload_n 1, 1) := by decide +kernel
theorem dX4_add_21 : decode cX4_add 21 = .ok (.aload_n 2, 1) := by decide +kernel
theorem dX4_add_22 : decode cX4_add 22 = .ok (.invokevirtual 31, 3) := by decide +kernel
theorem dX4_add_25 : decode cX4_add 25 = .ok (.iastore, 1) := by decide +kernel
theorem dX4_add_26 : decode cX4_add 26 = .ok (.aload_n 0, 1) := by decide +kernel
theorem dX4_add_27 : decode cX4_add 27 = .ok (.getfield 15, 3) := by decide +kernel
theorem dX4_add_30 : decode cX4_add 30 = .ok (.iload_n 3, 1) := by decide +kernel
theorem dX4_add_31 : decode cX4_add 31 = .ok (.iconst 0, 1) := by decide +kernel
theorem dX4_add_32 : decode cX4_add 32 = .ok (.iastore, 1) := by decide +kernel
theorem dX4_add_33 : decode cX4_add 33 = .ok (.aload_n 0, 1) := by decide +kernel
theorem dX4_add_34 : decode cX4_add 34 = .ok (.getfield 18, 3) := by decide +kernel
theorem dX4_add_37 : decode cX4_add 37 = .ok (.iload_n 3, 1) := by decide +kernel
theorem dX4_add_38 : decode cX4_add 38 = .ok (.iconst 0, 1) := by decide +kernel
theorem dX4_add_39 : decode cX4_add 39 = .ok (.iastore, 1) := by decide +kernel
theorem dX4_add_40 : decode cX4_add 40 = .ok (.iconst 0, 1) := by decide +kernel
theorem dX4_add_41 : decode cX4_add 41 = .ok (.istore 4, 2) := by decide +kernel
theorem dX4_add_43 : decode cX4_add 43 = .ok (.iload 4, 2) := by decide +kernel
theorem dX4_add_45 : decode cX4_add 45 = .ok (.aload_n 2, 1) := by decide +kernel
theorem dX4_add_46 : decode cX4_add 46 = .ok (.getfield 37, 3) := by decide +kernel
theorem dX4_add_49 : decode cX4_add 49 = .ok (.if_icmp .ge 79, 3) := by decide +kernel
theorem dX4_add_52 : decode cX4_add 52 = .ok (.aload_n 0, 1) := by decide +kernel
theorem dX4_add_53 : decode cX4_add 53 = .ok (.getfield 21, 3) := by decide +kernel
theorem dX4_add_56 : decode cX4_add 56 = .ok (.iload_n 3, 1) := by decide +kernel
theorem dX4_add_57 : decode cX4_add 57 = .ok (.bipush 12, 2) := by decide +kernel
theorem dX4_add_59 : decode cX4_add 59 = .ok (.imul, 1) := by decide +kernel
theorem dX4_add_60 : decode cX4_add 60 = .ok (.iload 4, 2) := by decide +kernel
theorem dX4_add_62 : decode cX4_add 62 = .ok (.iadd, 1) := by decide +kernel
theorem dX4_add_63 : decode cX4_add 63 = .ok (.aload_n 1, 1) := by decide +kernel
theorem dX4_add_64 : decode cX4_add 64 = .ok (.getfield 42, 3) := by decide +kernel
theorem dX4_add_67 : decode cX4_add 67 = .ok (.iload 4, 2) := by decide +kernel
theorem dX4_add_69 : decode cX4_add 69 = .ok (.iaload, 1) := by decide +kernel
theorem dX4_add_70 : decode cX4_add 70 = .ok (.iastore, 1) := by decide +kernel
theorem dX4_add_71 : decode cX4_add 71 = .ok (.aload_n 1, 1) := by decide +kernel
theorem dX4_add_72 : decode cX4_add 72 = .ok (.getfield 43, 3) := by decide +kernel
theorem dX4_add_75 : decode cX4_add 75 = .ok (.iload 4, 2) := by decide +kernel
theorem dX4_add_77 : decode cX4_add 77 = .ok (.iaload, 1) := by decide +kernel
theorem dX4_add_78 : decode cX4_add 78 = .ok (.iconst 1, 1) := by decide +kernel
theorem dX4_add_79 : decode cX4_add 79 = .ok (.if_icmp .ne 19, 3) := by decide +kernel
theorem dX4_add_82 : decode cX4_add 82 = .ok (.aload_n 0, 1) := by decide +kernel
theorem dX4_add_83 : decode cX4_add 83 = .ok (.getfield 15, 3) := by decide +kernel
theorem dX4_add_86 : decode cX4_add 86 = .ok (.iload_n 3, 1) := by decide +kernel
theorem dX4_add_87 : decode cX4_add 87 = .ok (.dup2, 1) := by decide +kernel
theorem dX4_add_88 : decode cX4_add 88 = .ok (.iaload, 1) := by decide +kernel
theorem dX4_add_89 : decode cX4_add 89 = .ok (.iconst 1, 1) := by decide +kernel
theorem dX4_add_90 : decode cX4_add 90 = .ok (.iload 4, 2) := by decide +kernel
theorem dX4_add_92 : decode cX4_add 92 = .ok (.ishl, 1) := by decide +kernel
theorem dX4_add_93 : decode cX4_add 93 = .ok (.ior, 1) := by decide +kernel
theorem dX4_add_94 : decode cX4_add 94 = .ok (.iastore, 1) := by decide +kernel
theorem dX4_add_95 : decode cX4_add 95 = .ok (.goto 27, 3) := by decide +kernel
theorem dX4_add_98 : decode cX4_add 98 = .ok (.aload_n 1, 1) := by decide +kernel
theorem dX4_add_99 : decode cX4_add 99 = .ok (.getfield 43, 3) := by decide +kernel
theorem dX4_add_102 : decode cX4_add 102 = .ok (.iload 4, 2) := by decide +kernel
theorem dX4_add_104 : decode cX4_add 104 = .ok (.iaload, 1) := by decide +kernel
theorem dX4_add_105 : decode cX4_add 105 = .ok (.iconst 2, 1) := by decide +kernel
theorem dX4_add_106 : decode cX4_add 106 = .ok (.if_icmp .ne 16, 3) := by decide +kernel
theorem dX4_add_109 : decode cX4_add 109 = .ok (.aload_n 0, 1) := by decide +kernel
theorem dX4_add_110 : decode cX4_add 110 = .ok (.getfield 18, 3) := by decide +kernel
theorem dX4_add_113 : decode cX4_add 113 = .ok (.iload_n 3, 1) := by decide +kernel
theorem dX4_add_114 : decode cX4_add 114 = .ok (.dup2, 1) := by decide +kernel
theorem dX4_add_115 : decode cX4_add 115 = .ok (.iaload, 1) := by decide +kernel
theorem dX4_add_116 : decode cX4_add 116 = .ok (.iconst 1, 1) := by decide +kernel
theorem dX4_add_117 : decode cX4_add 117 = .ok (.iload 4, 2) := by decide +kernel
theorem dX4_add_119 : decode cX4_add 119 = .ok (.ishl, 1) := by decide +kernel
theorem dX4_add_120 : decode cX4_add 120 = .ok (.ior, 1) := by decide +kernel
theorem dX4_add_121 : decode cX4_add 121 = .ok (.iastore, 1) := by decide +kernel
theorem dX4_add_122 : decode cX4_add 122 = .ok (.iinc 4 1, 3) := by decide +kernel
theorem dX4_add_125 : decode cX4_add 125 = .ok (.goto (-82), 3) := by decide +kernel
theorem dX4_add_128 : decode cX4_add 128 = .ok (.iload_n 3, 1) := by decide +kernel
theorem dX4_add_129 : decode cX4_add 129 = .ok (.ireturn, 1) := by decide +kernel
def mX4_add : MM := (yX4_add, cX4_add, 5, Option.some Jvm.ClassFile.FieldType.int, { frames := 1, cells := 0, slots := 0, locals := 23 })
def X4_add_L43 (o2_ : Nat) (u3_ : Int32)  : Nat → Int32 → SS → Option (Int32 × SS) :=
  lp (fun _ _ => none) fun rec v4_ σ_ =>
    if (gI σ_ o2_ 5) ≤ v4_ then (
      some (u3_, σ_)
      ) else (
      grd (inb v4_ 12) <|
      grd (inb ((u3_ * (12 : Int32)) + v4_) 192) <|
      vthen (sI σ_ 62 (Int32.toNatClampNeg ((u3_ * (12 : Int32)) + v4_)) (gI σ_ 53 (Int32.toNatClampNeg v4_))) fun σ12 =>
      if (gI σ12 54 (Int32.toNatClampNeg v4_)) = (1 : Int32) then (
        grd (inb u3_ 16) <|
        vthen (sI σ12 60 (Int32.toNatClampNeg u3_) ((gI σ12 60 (Int32.toNatClampNeg u3_)) ||| ((1 : Int32) <<< (v4_ &&& 31)))) fun σ16 =>
        rec (v4_ + (1 : Int32)) σ16
        ) else (
        if (gI σ12 54 (Int32.toNatClampNeg v4_)) = (2 : Int32) then (
          grd (inb u3_ 16) <|
          vthen (sI σ12 61 (Int32.toNatClampNeg u3_) ((gI σ12 61 (Int32.toNatClampNeg u3_)) ||| ((1 : Int32) <<< (v4_ &&& 31)))) fun σ14 =>
          rec (v4_ + (1 : Int32)) σ14
          ) else (
          rec (v4_ + (1 : Int32)) σ12
          )
        )
      )

def fX4_add (σ : SS) (a2 : Nat) : Option (Int32 × SS) :=
  vthen (gI σ 58 0) fun v1 =>
  vthen (sI σ 58 0 ((gI σ 58 0) + (1 : Int32))) fun σ2 =>
  bnd1 (fX3_allGains σ2 a2) fun v3 =>
  grd (inb v1 16) <|
  vthen (sI σ2 59 (Int32.toNatClampNeg v1) v3) fun σ7 =>
  vthen (sI σ7 60 (Int32.toNatClampNeg v1) (0 : Int32)) fun σ8 =>
  vthen (sI σ8 61 (Int32.toNatClampNeg v1) (0 : Int32)) fun σ9 =>
  X4_add_L43 a2 v1
  fuel (0 : Int32) σ9

set_option maxRecDepth 20000 in
theorem sX4_add_L43 {g : GG} {r : Int32 × SS} {o2_ : Nat} {u3_ : Int32}  (hs2_ : shp o2_ = (1, 0))
    (n : Nat) : ∀ (v4_ : Int32) (σ_ : SS), X4_add_L43 o2_ u3_ n v4_ σ_ = some r → WT σ_ → RR g mX4_add (FinR g mX4_add (some (.int r.1)) NF r.2) zF 43 [(0, .ref (ad g 58)), (1, .ref (ad g 31)), (2, .ref (ad g o2_)), (3, .int u3_), (4, .int v4_)] [] σ_ := by
  unfold X4_add_L43
  refine lp_ind (P := fun (rec : Int32 → SS → Option (Int32 × SS)) => ∀ (v4_ : Int32) (σ_ : SS), rec v4_ σ_ = some r → WT σ_ → RR g mX4_add (FinR g mX4_add (some (.int r.1)) NF r.2) zF 43 [(0, .ref (ad g 58)), (1, .ref (ad g 31)), (2, .ref (ad g o2_)), (3, .int u3_), (4, .int v4_)] [] σ_) ?_ ?_ n
  · intro v4_ σ_ hr; cases hr
  intro rec ih v4_ σ_ hr hw_
  refine r_iload (pc := 43) (j := 4) dX4_add_43 rfl ?_
  refine r_aload_n (pc := 45) (j := 2) dX4_add_45 rfl rfl ?_
  refine gf1_5 (pc := 46) tw_1_79 hs2_ dX4_add_46 ?_
  refine r_icmp_ge (pc := 49) (tgt := 128) dX4_add_49 rfl (fun hc => ?_) (fun hc => ?_)
  · replace hr := ite_t hc hr
    refine r_iload_n (pc := 128) (j := 3) dX4_add_128 rfl rfl ?_
    exact l_osi hr (r_iret (pc := 129) (v := u3_) rfl rfl ⟨Nat.le_refl _, Nat.le_refl _⟩ dX4_add_129)
  replace hr := ite_f hc hr
  refine r_aload_n (pc := 52) (j := 0) dX4_add_52 rfl rfl ?_
  refine gf4_4 (pc := 53) tw_2_81 hw_ dX4_add_53 ?_
  refine r_iload_n (pc := 56) (j := 3) dX4_add_56 rfl rfl ?_
  refine r_bipush (pc := 57) (v := (12 : Int32)) dX4_add_57 rfl ?_
  refine r_imul (pc := 59) dX4_add_59 ?_
  refine r_iload (pc := 60) (j := 4) dX4_add_60 rfl ?_
  refine r_iadd (pc := 62) dX4_add_62 ?_
  refine r_aload_n (pc := 63) (j := 1) dX4_add_63 rfl rfl ?_
  refine gf3_7 (pc := 64) tw_2_34 hw_ dX4_add_64 ?_
  refine r_iload (pc := 67) (j := 4) dX4_add_67 rfl ?_
  obtain ⟨h10, hr⟩ := grd_inv hr
  refine x_iald (pc := 69) (k := (Int32.toNatClampNeg v4_)) rfl h10 rfl dX4_add_69 ?_
  obtain ⟨h11, hr⟩ := grd_inv hr
  refine x_iast (pc := 70) (j := (Int32.toNatClampNeg ((u3_ * (12 : Int32)) + v4_))) rfl h11 rfl dX4_add_70 fun σ12 eσ12 => ?_
  replace hr := vthen_inv hr σ12 eσ12
  have hσ12 := wtI eσ12 hw_
  refine r_aload_n (pc := 71) (j := 1) dX4_add_71 rfl rfl ?_
  refine gf3_8 (pc := 72) tw_2_37 hσ12 dX4_add_72 ?_
  refine r_iload (pc := 75) (j := 4) dX4_add_75 rfl ?_
  refine x_iald (pc := 77) (k := (Int32.toNatClampNeg v4_)) rfl h10 rfl dX4_add_77 ?_
  refine r_iconst (pc := 78) (v := (1 : Int32)) dX4_add_78 rfl ?_
  refine r_icmp_ne (pc := 79) (tgt := 98) dX4_add_79 rfl (fun hc => ?_) (fun hc => ?_)
  · replace hr := ite_f hc hr
    refine r_aload_n (pc := 98) (j := 1) dX4_add_98 rfl rfl ?_
    refine gf3_8 (pc := 99) tw_2_37 hσ12 dX4_add_99 ?_
    refine r_iload (pc := 102) (j := 4) dX4_add_102 rfl ?_
    refine x_iald (pc := 104) (k := (Int32.toNatClampNeg v4_)) rfl h10 rfl dX4_add_104 ?_
    refine r_iconst (pc := 105) (v := (2 : Int32)) dX4_add_105 rfl ?_
    refine r_icmp_ne (pc := 106) (tgt := 122) dX4_add_106 rfl (fun hc => ?_) (fun hc => ?_)
    · replace hr := ite_f hc hr
      refine r_iinc (pc := 122) (j := 4) (v := (v4_ + (1 : Int32))) (ls1 := [(4, .int (v4_ + (1 : Int32))), (0, .ref (ad g 58)), (1, .ref (ad g 31)), (2, .ref (ad g o2_)), (3, .int u3_)]) dX4_add_122 rfl rfl (nle rfl) rfl ?_
      refine r_goto (pc := 125) (tgt := 43) dX4_add_125 rfl ?_
      exact r_pick (ls1 := [(0, .ref (ad g 58)), (1, .ref (ad g 31)), (2, .ref (ad g o2_)), (3, .int u3_), (4, .int (v4_ + (1 : Int32)))]) [1, 2, 3, 4, 0] rfl (ih (v4_ + (1 : Int32)) σ12 hr hσ12)
    replace hr := ite_t hc hr
    refine r_aload_n (pc := 109) (j := 0) dX4_add_109 rfl rfl ?_
    refine gf4_3 (pc := 110) tw_2_80 hσ12 dX4_add_110 ?_
    refine r_iload_n (pc := 113) (j := 3) dX4_add_113 rfl rfl ?_
    refine r_dup2 (pc := 114) dX4_add_114 rfl rfl ?_
    obtain ⟨h13, hr⟩ := grd_inv hr
    refine x_iald (pc := 115) (k := (Int32.toNatClampNeg u3_)) rfl h13 rfl dX4_add_115 ?_
    refine r_iconst (pc := 116) (v := (1 : Int32)) dX4_add_116 rfl ?_
    refine r_iload (pc := 117) (j := 4) dX4_add_117 rfl ?_
    refine r_ishl (pc := 119) dX4_add_119 ?_
    refine r_ior (pc := 120) dX4_add_120 ?_
    refine x_iast (pc := 121) (j := (Int32.toNatClampNeg u3_)) rfl h13 rfl dX4_add_121 fun σ14 eσ14 => ?_
    replace hr := vthen_inv hr σ14 eσ14
    have hσ14 := wtI eσ14 hσ12
    refine r_iinc (pc := 122) (j := 4) (v := (v4_ + (1 : Int32))) (ls1 := [(4, .int (v4_ + (1 : Int32))), (0, .ref (ad g 58)), (1, .ref (ad g 31)), (2, .ref (ad g o2_)), (3, .int u3_)]) dX4_add_122 rfl rfl (nle rfl) rfl ?_
    refine r_goto (pc := 125) (tgt := 43) dX4_add_125 rfl ?_
    exact r_pick (ls1 := [(0, .ref (ad g 58)), (1, .ref (ad g 31)), (2, .ref (ad g o2_)), (3, .int u3_), (4, .int (v4_ + (1 : Int32)))]) [1, 2, 3, 4, 0] rfl (ih (v4_ + (1 : Int32)) σ14 hr hσ14)
  replace hr := ite_t hc hr
  refine r_aload_n (pc := 82) (j := 0) dX4_add_82 rfl rfl ?_
  refine gf4_2 (pc := 83) tw_2_79 hσ12 dX4_add_83 ?_
  refine r_iload_n (pc := 86) (j := 3) dX4_add_86 rfl rfl ?_
  refine r_dup2 (pc := 87) dX4_add_87 rfl rfl ?_
  obtain ⟨h15, hr⟩ := grd_inv hr
  refine x_iald (pc := 88) (k := (Int32.toNatClampNeg u3_)) rfl h15 rfl dX4_add_88 ?_
  refine r_iconst (pc := 89) (v := (1 : Int32)) dX4_add_89 rfl ?_
  refine r_iload (pc := 90) (j := 4) dX4_add_90 rfl ?_
  refine r_ishl (pc := 92) dX4_add_92 ?_
  refine r_ior (pc := 93) dX4_add_93 ?_
  refine x_iast (pc := 94) (j := (Int32.toNatClampNeg u3_)) rfl h15 rfl dX4_add_94 fun σ16 eσ16 => ?_
  replace hr := vthen_inv hr σ16 eσ16
  have hσ16 := wtI eσ16 hσ12
  refine r_goto (pc := 95) (tgt := 122) dX4_add_95 rfl ?_
  refine r_iinc (pc := 122) (j := 4) (v := (v4_ + (1 : Int32))) (ls1 := [(4, .int (v4_ + (1 : Int32))), (0, .ref (ad g 58)), (1, .ref (ad g 31)), (2, .ref (ad g o2_)), (3, .int u3_)]) dX4_add_122 rfl rfl (nle rfl) rfl ?_
  refine r_goto (pc := 125) (tgt := 43) dX4_add_125 rfl ?_
  exact r_pick (ls1 := [(0, .ref (ad g 58)), (1, .ref (ad g 31)), (2, .ref (ad g o2_)), (3, .int u3_), (4, .int (v4_ + (1 : Int32)))]) [1, 2, 3, 4, 0] rfl (ih (v4_ + (1 : Int32)) σ16 hr hσ16)

set_option maxRecDepth 20000 in
theorem sX4_add {g : GG} {σ : SS} {a2 : Nat} {r : Int32 × SS} (hr : fX4_add σ a2 = some r) (hs2 : shp a2 = (1, 0)) : Ct g mX4_add [.ref (ad g 58), .ref (ad g 31), .ref (ad g a2)] NF σ (some (.int r.1)) NF r.2 := by
  refine Ct.of (by decide +kernel) (nle rfl) fun hw0 => ?_
  have hw := hw0 rfl
  unfold fX4_add at hr
  change RR g mX4_add (FinR g mX4_add (some (.int r.1)) NF r.2) zF 0 [(0, .ref (ad g 58)), (1, .ref (ad g 31)), (2, .ref (ad g a2))] [] σ
  refine r_aload_n (pc := 0) (j := 0) dX4_add_0 rfl rfl ?_
  refine gf4_0 (pc := 1) tw_2_77 rfl dX4_add_1 ?_
  refine r_topi fun v1 ev1 => ?_
  replace hr := vthen_inv hr v1 ev1
  refine r_istore_n (pc := 4) (ls1 := [(3, .int v1), (0, .ref (ad g 58)), (1, .ref (ad g 31)), (2, .ref (ad g a2))]) dX4_add_4 rfl (nle rfl) rfl ?_
  refine r_aload_n (pc := 5) (j := 1) dX4_add_5 rfl rfl ?_
  refine r_dup (pc := 6) dX4_add_6 rfl ?_
  refine gf4_0 (pc := 7) tw_2_77 rfl dX4_add_7 ?_
  refine r_iconst (pc := 10) (v := (1 : Int32)) dX4_add_10 rfl ?_
  refine r_iadd (pc := 11) dX4_add_11 ?_
  refine pf4_0 (pc := 12) tw_2_77 rfl dX4_add_12 fun σ2 eσ2 => ?_
  replace hr := vthen_inv hr σ2 eσ2
  have hσ2 := wtI eσ2 hw
  refine r_aload_n (pc := 15) (j := 1) dX4_add_15 rfl rfl ?_
  refine gf4_1 (pc := 16) tw_2_78 hσ2 dX4_add_16 ?_
  refine r_iload_n (pc := 19) (j := 0) dX4_add_19 rfl rfl ?_
  refine r_aload_n (pc := 20) (j := 2) dX4_add_20 rfl rfl ?_
  refine r_aload_n (pc := 21) (j := 3) dX4_add_21 rfl rfl ?_
  obtain ⟨v3, hv3, hr⟩ := bnd1_inv hr
  refine kX3_allGains (pc := 22) hv3 hs2 tw_3_119 ⟨nle rfl, nle rfl⟩ (nle rfl) dX4_add_22 ?_
  obtain ⟨h6, hr⟩ := grd_inv hr
  refine x_iast (pc := 25) (j := (Int32.toNatClampNeg v1)) rfl h6 rfl dX4_add_25 fun σ7 eσ7 => ?_
  replace hr := vthen_inv hr σ7 eσ7
  have hσ7 := wtI eσ7 hσ2
  refine r_aload_n (pc := 26) (j := 1) dX4_add_26 rfl rfl ?_
  refine gf4_2 (pc := 27) tw_2_79 hσ7 dX4_add_27 ?_
  refine r_iload_n (pc := 30) (j := 0) dX4_add_30 rfl rfl ?_
  refine r_iconst (pc := 31) (v := (0 : Int32)) dX4_add_31 rfl ?_
  refine x_iast (pc := 32) (j := (Int32.toNatClampNeg v1)) rfl h6 rfl dX4_add_32 fun σ8 eσ8 => ?_
  replace hr := vthen_inv hr σ8 eσ8
  have hσ8 := wtI eσ8 hσ7
  refine r_aload_n (pc := 33) (j := 1) dX4_add_33 rfl rfl ?_
  refine gf4_3 (pc := 34) tw_2_80 hσ8 dX4_add_34 ?_
  refine r_iload_n (pc := 37) (j := 0) dX4_add_37 rfl rfl ?_
  refine r_iconst (pc := 38) (v := (0 : Int32)) dX4_add_38 rfl ?_
  refine x_iast (pc := 39) (j := (Int32.toNatClampNeg v1)) rfl h6 rfl dX4_add_39 fun σ9 eσ9 => ?_
  replace hr := vthen_inv hr σ9 eσ9
  have hσ9 := wtI eσ9 hσ8
  refine r_iconst (pc := 40) (v := (0 : Int32)) dX4_add_40 rfl ?_
  refine r_istore (pc := 41) (ls1 := [(4, .int (0 : Int32)), (3, .int v1), (0, .ref (ad g 58)), (1, .ref (ad g 31)), (2, .ref (ad g a2))]) dX4_add_41 (nle rfl) rfl ?_
  refine r_pick (ls1 := [(0, .ref (ad g 58)), (1, .ref (ad g 31)), (2, .ref (ad g a2)), (3, .int v1), (4, .int (0 : Int32))]) [2, 3, 4, 1, 0] rfl ?_
  refine sX4_add_L43 hs2    fuel (0 : Int32) σ9 hr hσ9

theorem kX4_add {g : GG} {σ : SS} {a2 : Nat} {v : Int32} {σ2 : SS} {M : MM} {F : State → Array Value → List Frame → State → Prop} {pc index : Nat} {ls : List (Nat × Value)} {rest : List Value} (hf : fX4_add σ a2 = some (v, σ2)) (hs2 : shp a2 = (1, 0)) (hl : Cond.methodLink M.1.cls index yX4_add ∈ lw_gt) (hR : mX4_add.2.2.2.2.frames + 1 ≤ M.2.2.2.2.frames ∧ 8 + (mX4_add.2.2.1 + 11) + mX4_add.2.2.2.2.locals ≤ M.2.2.2.2.locals) (hrest : (rest.map fun v => v.category).sum ≤ 8) (hd : decode M.2.1 pc = .ok (.invokevirtual index, 3)) (k : WT σ2 → RR g M F zF (pc + 3) ls (.int v :: rest) σ2) : RR g M F zF pc ls (.ref (ad g a2) :: .ref (ad g 31) :: .ref (ad g 58) :: rest) σ :=
  r_callV (z := zF) (N := mX4_add) (nn := 2) (o1 := some (.int v)) (sX4_add hf hs2) (rfl : shp 58 = (4, 0)) (by decide) (shp_le (rfl : shp 58 = (4, 0)) (nle rfl)) (ci := 4) rfl rfl tw_3_118 tw_1_8 hl tw_3_116 tw_3_117 ⟨by decide, by decide, rfl⟩ hR rfl hrest hd ⟨Nat.zero_le _, Nat.zero_le _⟩ rfl (fun h => k (h rfl))

theorem dX7_lay_0 : decode cX7_lay 0 = .ok (.aload_n 0, 1) := by decide +kernel
theorem dX7_lay_1 : decode cX7_lay 1 = .ok (.getfield 32, 3) := by decide +kernel
theorem dX7_lay_4 : decode cX7_lay 4 = .ok (.getfield 274, 3) := by decide +kernel
theorem dX7_lay_7 : decode cX7_lay 7 = .ok (.ifCond .ne 5, 3) := by decide +kernel
theorem dX7_lay_10 : decode cX7_lay 10 = .ok (.iconst (-1), 1) := by decide +kernel
theorem dX7_lay_11 : decode cX7_lay 11 = .ok (.ireturn, 1) := by decide +kernel
theorem dX7_lay_12 : decode cX7_lay 12 = .ok (.aload_n 0, 1) := by decide +kernel
theorem dX7_lay_13 : decode cX7_lay 13 = .ok (.getfield 62, 3) := by decide +kernel
theorem dX7_lay_16 : decode cX7_lay 16 = .ok (.aload_n 0, 1) := by decide +kernel
theorem dX7_lay_17 : decode cX7_lay 17 = .ok (.getfield 18, 3) := by decide +kernel
theorem dX7_lay_20 : decode cX7_lay 20 = .ok (.aload_n 0, 1) := by decide +kernel
theorem dX7_lay_21 : decode cX7_lay 21 = .ok (.getfield 32, 3) := by decide +kernel
theorem dX7_lay_24 : decode cX7_lay 24 = .ok (.invokevirtual 303, 3) := by decide +kernel
theorem dX7_lay_27 : decode cX7_lay 27 = .ok (.ifCond .ne 6, 3) := by decide +kernel
theorem dX7_lay_30 : decode cX7_lay 30 = .ok (.bipush (-2), 2) := by decide +kernel
theorem dX7_lay_32 : decode cX7_lay 32 = .ok (.ireturn, 1) := by decide +kernel
theorem dX7_lay_33 : decode cX7_lay 33 = .ok (.aload_n 0, 1) := by decide +kernel
theorem dX7_lay_34 : decode cX7_lay 34 = .ok (.getfield 69, 3) := by decide +kernel
theorem dX7_lay_37 : decode cX7_lay 37 = .ok (.getfield 94, 3) := by decide +kernel
theorem dX7_lay_40 : decode cX7_lay 40 = .ok (.bipush 16, 2) := by decide +kernel
theorem dX7_lay_42 : decode cX7_lay 42 = .ok (.if_icmp .lt 6, 3) := by decide +kernel
theorem dX7_lay_45 : decode cX7_lay 45 = .ok (.bipush (-3), 2) := by decide +kernel
theorem dX7_lay_47 : decode cX7_lay 47 = .ok (.ireturn, 1) := by decide +kernel
theorem dX7_lay_48 : decode cX7_lay 48 = .ok (.aload_n 0, 1) := by decide +kernel
theorem dX7_lay_49 : decode cX7_lay 49 = .ok (.getfield 69, 3) := by decide +kernel
theorem dX7_lay_52 : decode cX7_lay 52 = .ok (.aload_n 0, 1) := by decide +kernel
theorem dX7_lay_53 : decode cX7_lay 53 = .ok (.getfield 62, 3) := by decide +kernel
theorem dX7_lay_56 : decode cX7_lay 56 = .ok (.aload_n 0, 1) := by decide +kernel
theorem dX7_lay_57 : decode cX7_lay 57 = .ok (.getfield 32, 3) := by decide +kernel
theorem dX7_lay_60 : decode cX7_lay 60 = .ok (.invokevirtual 360, 3) := by decide +kernel
theorem dX7_lay_63 : decode cX7_lay 63 = .ok (.ireturn, 1) := by decide +kernel
def mX7_lay : MM := (yX7_lay, cX7_lay, 1, Option.some Jvm.ClassFile.FieldType.int, { frames := 6, cells := 0, slots := 0, locals := 148 })
def fX7_lay (σ : SS)  : Option (Int32 × SS) :=
  if (gI σ (gR σ 1 5) 0) = 0 then (
    some ((-1 : Int32), σ)
    ) else (
    bnd (fX3_read σ (gR σ 1 2) (gR σ 1 5)) fun b2 σ4 =>
    if b2 = true then (
      if (gI σ4 58 0) < (16 : Int32) then (
        bnd (fX4_add σ4 (gR σ4 1 5)) fun v5 σ8 =>
        some (v5, σ8)
        ) else (
        some ((-3 : Int32), σ4)
        )
      ) else (
      some ((-2 : Int32), σ4)
      )
    )

set_option maxRecDepth 20000 in
theorem sX7_lay {g : GG} {σ : SS}  {r : Int32 × SS} (hr : fX7_lay σ = some r)  : Ct g mX7_lay [.ref (ad g 1)] NF σ (some (.int r.1)) NF r.2 := by
  refine Ct.of (by decide +kernel) (nle rfl) fun hw0 => ?_
  have hw := hw0 rfl
  unfold fX7_lay at hr
  change RR g mX7_lay (FinR g mX7_lay (some (.int r.1)) NF r.2) zF 0 [(0, .ref (ad g 1))] [] σ
  refine r_aload_n (pc := 0) (j := 0) dX7_lay_0 rfl rfl ?_
  refine gf7_5 (pc := 1) tw_2_108 hw dX7_lay_1 ?_
  refine gf1_0 (pc := 4) tw_1_60 (wt_fo hw).1 dX7_lay_4 ?_
  refine r_if_ne (pc := 7) (tgt := 12) dX7_lay_7 rfl (fun hc => ?_) (fun hc => ?_)
  · replace hr := ite_f hc hr
    refine r_aload_n (pc := 12) (j := 0) dX7_lay_12 rfl rfl ?_
    refine gf7_12 (pc := 13) tw_2_115 hw dX7_lay_13 ?_
    refine r_aload_n (pc := 16) (j := 0) dX7_lay_16 rfl rfl ?_
    refine gf7_2 (pc := 17) tw_2_105 hw dX7_lay_17 ?_
    refine r_aload_n (pc := 20) (j := 0) dX7_lay_20 rfl rfl ?_
    refine gf7_5 (pc := 21) tw_2_108 hw dX7_lay_21 ?_
    obtain ⟨b2, σ4, eσ4, hr⟩ := bnd_inv hr
    refine kX3_read (pc := 24) eσ4 (wt_sc hw).1 (wt_fo hw).1 tw_3_10 ⟨nle rfl, nle rfl⟩ (nle rfl) dX7_lay_24 fun hσ4 => ?_
    refine r_ifB_ne (pc := 27) (tgt := 33) dX7_lay_27 rfl (fun hc => ?_) (fun hc => ?_)
    · replace hr := ite_t hc hr
      refine r_aload_n (pc := 33) (j := 0) dX7_lay_33 rfl rfl ?_
      refine gf7_13 (pc := 34) tw_2_116 hσ4 dX7_lay_34 ?_
      refine gf4_0 (pc := 37) tw_2_76 rfl dX7_lay_37 ?_
      refine r_bipush (pc := 40) (v := (16 : Int32)) dX7_lay_40 rfl ?_
      refine r_icmp_lt (pc := 42) (tgt := 48) dX7_lay_42 rfl (fun hc => ?_) (fun hc => ?_)
      · replace hr := ite_t hc hr
        refine r_aload_n (pc := 48) (j := 0) dX7_lay_48 rfl rfl ?_
        refine gf7_13 (pc := 49) tw_2_116 hσ4 dX7_lay_49 ?_
        refine r_aload_n (pc := 52) (j := 0) dX7_lay_52 rfl rfl ?_
        refine gf7_12 (pc := 53) tw_2_115 hσ4 dX7_lay_53 ?_
        refine r_aload_n (pc := 56) (j := 0) dX7_lay_56 rfl rfl ?_
        refine gf7_5 (pc := 57) tw_2_108 hσ4 dX7_lay_57 ?_
        obtain ⟨v5, σ8, eσ8, hr⟩ := bnd_inv hr
        refine kX4_add (pc := 60) eσ8 (wt_fo hσ4).1 tw_3_115 ⟨nle rfl, nle rfl⟩ (nle rfl) dX7_lay_60 fun hσ8 => ?_
        exact l_osi hr (r_iret (pc := 63) (v := v5) rfl rfl ⟨Nat.le_refl _, Nat.le_refl _⟩ dX7_lay_63)
      replace hr := ite_f hc hr
      refine r_bipush (pc := 45) (v := (-3 : Int32)) dX7_lay_45 rfl ?_
      exact l_osi hr (r_iret (pc := 47) (v := (-3 : Int32)) rfl rfl ⟨Nat.le_refl _, Nat.le_refl _⟩ dX7_lay_47)
    replace hr := ite_f hc hr
    refine r_bipush (pc := 30) (v := (-2 : Int32)) dX7_lay_30 rfl ?_
    exact l_osi hr (r_iret (pc := 32) (v := (-2 : Int32)) rfl rfl ⟨Nat.le_refl _, Nat.le_refl _⟩ dX7_lay_32)
  replace hr := ite_t hc hr
  refine r_iconst (pc := 10) (v := (-1 : Int32)) dX7_lay_10 rfl ?_
  exact l_osi hr (r_iret (pc := 11) (v := (-1 : Int32)) rfl rfl ⟨Nat.le_refl _, Nat.le_refl _⟩ dX7_lay_11)

theorem kX7_lay {g : GG} {σ : SS}  {v : Int32} {σ2 : SS} {M : MM} {F : State → Array Value → List Frame → State → Prop} {pc index : Nat} {ls : List (Nat × Value)} {rest : List Value} (hf : fX7_lay σ = some (v, σ2))  (hl : Cond.methodLink M.1.cls index yX7_lay ∈ lw_gt) (hR : mX7_lay.2.2.2.2.frames + 1 ≤ M.2.2.2.2.frames ∧ 8 + (mX7_lay.2.2.1 + 11) + mX7_lay.2.2.2.2.locals ≤ M.2.2.2.2.locals) (hrest : (rest.map fun v => v.category).sum ≤ 8) (hd : decode M.2.1 pc = .ok (.invokevirtual index, 3)) (k : WT σ2 → RR g M F zF (pc + 3) ls (.int v :: rest) σ2) : RR g M F zF pc ls (.ref (ad g 1) :: rest) σ :=
  r_callV (z := zF) (N := mX7_lay) (nn := 0) (o1 := some (.int v)) (sX7_lay hf ) (rfl : shp 1 = (7, 0)) (by decide) (shp_le (rfl : shp 1 = (7, 0)) (nle rfl)) (ci := 7) rfl rfl tw_3_114 tw_1_1 hl tw_3_112 tw_3_113 ⟨by decide, by decide, rfl⟩ hR rfl hrest hd ⟨Nat.zero_le _, Nat.zero_le _⟩ rfl (fun h => k (h rfl))

theorem dX6_holdsRound_0 : decode cX6_holdsRound 0 = .ok (.aload_n 0, 1) := by decide +kernel
theorem dX6_holdsRound_1 : decode cX6_holdsRound 1 = .ok (.iload_n 1, 1) := by decide +kernel
theorem dX6_holdsRound_2 : decode cX6_holdsRound 2 = .ok (.iconst 1, 1) := by decide +kernel
theorem dX6_holdsRound_3 : decode cX6_holdsRound 3 = .ok (.isub, 1) := by decide +kernel
theorem dX6_holdsRound_4 : decode cX6_holdsRound 4 = .ok (.iload_n 2, 1) := by decide +kernel
theorem dX6_holdsRound_5 : decode cX6_holdsRound 5 = .ok (.iconst 1, 1) := by decide +kernel
theorem dX6_holdsRound_6 : decode cX6_holdsRound 6 = .ok (.isub, 1) := by decide +kernel
theorem dX6_holdsRound_7 : decode cX6_holdsRound 7 = .ok (.invokevirtual 31, 3) := by decide +kernel
theorem dX6_holdsRound_10 : decode cX6_holdsRound 10 = .ok (.ifCond .eq 20, 3) := by decide +kernel
theorem dX6_holdsRound_13 : decode cX6_holdsRound 13 = .ok (.aload_n 0, 1) := by decide +kernel
theorem dX6_holdsRound_14 : decode cX6_holdsRound 14 = .ok (.iload_n 1, 1) := by decide +kernel
theorem dX6_holdsRound_15 : decode cX6_holdsRound 15 = .ok (.iconst 1, 1) := by decide +kernel
theorem dX6_holdsRound_16 : decode cX6_holdsRound 16 = .ok (.iadd, 1) := by decide +kernel
theorem dX6_holdsRound_17 : decode cX6_holdsRound 17 = .ok (.iload_n 2, 1) := by decide +kernel
theorem dX6_holdsRound_18 : decode cX6_holdsRound 18 = .ok (.iconst 1, 1) := by decide +kernel
theorem dX6_holdsRound_19 : decode cX6_holdsRound 19 = .ok (.iadd, 1) := by decide +kernel
theorem dX6_holdsRound_20 : decode cX6_holdsRound 20 = .ok (.invokevirtual 31, 3) := by decide +kernel
theorem dX6_holdsRound_23 : decode cX6_holdsRound 23 = .ok (.ifCond .eq 7, 3) := by decide +kernel
theorem dX6_holdsRound_26 : decode cX6_holdsRound 26 = .ok (.iconst 1, 1) := by decide +kernel
theorem dX6_holdsRound_27 : decode cX6_holdsRound 27 = .ok (.goto 4, 3) := by decide +kernel
theorem dX6_holdsRound_30 : decode cX6_holdsRound 30 = .ok (.iconst 0, 1) := by decide +kernel
theorem dX6_holdsRound_31 : decode cX6_holdsRound 31 = .ok (.ireturn, 1) := by decide +kernel
def mX6_holdsRound : MM := (yX6_holdsRound, cX6_holdsRound, 3, Option.some Jvm.ClassFile.FieldType.boolean, { frames := 1, cells := 0, slots := 0, locals := 22 })
def fX6_holdsRound (σ0 : SS) (a0 : Nat) (a1 : Int32) (a2 : Int32) : Bool :=
  vthen (fun (_u : Unit) =>
    false
    ) fun j30 =>
  if (fX6_has σ0 a0 (a1 - (1 : Int32)) (a2 - (1 : Int32))) = true then (
    if (fX6_has σ0 a0 (a1 + (1 : Int32)) (a2 + (1 : Int32))) = true then (
      true
      ) else (
      j30 ()
      )
    ) else (
    j30 ()
    )

set_option maxRecDepth 20000 in
theorem sX6_holdsRound {g : GG} {σ0 : SS} {a0 : Nat} {a1 : Int32} {a2 : Int32} {r : Bool} (hr : fX6_holdsRound σ0 a0 a1 a2 = r) (hs0 : shp a0 = (6, 0)) : Ct g mX6_holdsRound [.ref (ad g a0), .int a1, .int a2] NF σ0 (some (.int (b2i r))) NF σ0 := by
  refine Ct.of (by decide +kernel) (nle rfl) fun hw0 => ?_
  have hw := hw0 rfl
  unfold fX6_holdsRound at hr
  change RR g mX6_holdsRound (FinR g mX6_holdsRound (some (.int (b2i r))) NF σ0) zF 0 [(0, .ref (ad g a0)), (1, .int a1), (2, .int a2)] [] σ0
  refine r_aload_n (pc := 0) (j := 0) dX6_holdsRound_0 rfl rfl ?_
  refine r_iload_n (pc := 1) (j := 1) dX6_holdsRound_1 rfl rfl ?_
  refine r_iconst (pc := 2) (v := (1 : Int32)) dX6_holdsRound_2 rfl ?_
  refine r_isub (pc := 3) dX6_holdsRound_3 ?_
  refine r_iload_n (pc := 4) (j := 2) dX6_holdsRound_4 rfl rfl ?_
  refine r_iconst (pc := 5) (v := (1 : Int32)) dX6_holdsRound_5 rfl ?_
  refine r_isub (pc := 6) dX6_holdsRound_6 ?_
  refine kX6_has (pc := 7) (hf := rfl) hs0 tw_2_171 ⟨nle rfl, nle rfl⟩ (nle rfl) dX6_holdsRound_7 ?_
  obtain ⟨j30, ej30, hr⟩ := vth_ex hr
  have hj30 : j30 () = r → RR g mX6_holdsRound (FinR g mX6_holdsRound (some (.int (b2i r))) NF σ0) zF 30 [] [] σ0 := by
    intro  hr
    replace hr := (congrFun ej30 ()).symm.trans hr
    refine r_iconst (pc := 30) (v := (0 : Int32)) dX6_holdsRound_30 rfl ?_
    exact l_pz hr (r_zret (pc := 31) (v := b2i false) (ty := .boolean) rfl (b2i_nar _) rfl ⟨Nat.le_refl _, Nat.le_refl _⟩ dX6_holdsRound_31)
  refine r_ifB_eq (pc := 10) (tgt := 30) dX6_holdsRound_10 rfl (fun hc => ?_) (fun hc => ?_)
  · replace hr := ite_f hc hr
    exact r_pick (ls1 := []) [] rfl (hj30  hr)
  replace hr := ite_t hc hr
  refine r_aload_n (pc := 13) (j := 0) dX6_holdsRound_13 rfl rfl ?_
  refine r_iload_n (pc := 14) (j := 1) dX6_holdsRound_14 rfl rfl ?_
  refine r_iconst (pc := 15) (v := (1 : Int32)) dX6_holdsRound_15 rfl ?_
  refine r_iadd (pc := 16) dX6_holdsRound_16 ?_
  refine r_iload_n (pc := 17) (j := 2) dX6_holdsRound_17 rfl rfl ?_
  refine r_iconst (pc := 18) (v := (1 : Int32)) dX6_holdsRound_18 rfl ?_
  refine r_iadd (pc := 19) dX6_holdsRound_19 ?_
  refine kX6_has (pc := 20) (hf := rfl) hs0 tw_2_171 ⟨nle rfl, nle rfl⟩ (nle rfl) dX6_holdsRound_20 ?_
  refine r_ifB_eq (pc := 23) (tgt := 30) dX6_holdsRound_23 rfl (fun hc => ?_) (fun hc => ?_)
  · replace hr := ite_f hc hr
    exact r_pick (ls1 := []) [] rfl (hj30  hr)
  replace hr := ite_t hc hr
  refine r_iconst (pc := 26) (v := (1 : Int32)) dX6_holdsRound_26 rfl ?_
  refine r_goto (pc := 27) (tgt := 31) dX6_holdsRound_27 rfl ?_
  exact l_pz hr (r_zret (pc := 31) (v := b2i true) (ty := .boolean) rfl (b2i_nar _) rfl ⟨Nat.le_refl _, Nat.le_refl _⟩ dX6_holdsRound_31)

theorem kX6_holdsRound {g : GG} {σ0 : SS} {a0 : Nat} {a1 : Int32} {a2 : Int32} {v : Bool} {M : MM} {F : State → Array Value → List Frame → State → Prop} {pc index : Nat} {ls : List (Nat × Value)} {rest : List Value} (hf : fX6_holdsRound σ0 a0 a1 a2 = v) (hs0 : shp a0 = (6, 0)) (hl : Cond.methodLink M.1.cls index yX6_holdsRound ∈ lw_gt) (hR : mX6_holdsRound.2.2.2.2.frames + 1 ≤ M.2.2.2.2.frames ∧ 8 + (mX6_holdsRound.2.2.1 + 11) + mX6_holdsRound.2.2.2.2.locals ≤ M.2.2.2.2.locals) (hrest : (rest.map fun v => v.category).sum ≤ 8) (hd : decode M.2.1 pc = .ok (.invokevirtual index, 3)) (k : RR g M F zF (pc + 3) ls (.int (b2i v) :: rest) σ0) : RR g M F zF pc ls (.int a2 :: .int a1 :: .ref (ad g a0) :: rest) σ0 :=
  r_callV (z := zF) (N := mX6_holdsRound) (nn := 2) (o1 := some (.int (b2i v))) (sX6_holdsRound hf hs0) hs0 (by decide) (shp_le hs0 (nle rfl)) (ci := 6) rfl rfl tw_3_88 tw_1_2 hl tw_3_86 tw_3_87 ⟨by decide, by decide, rfl⟩ hR rfl hrest hd ⟨Nat.zero_le _, Nat.zero_le _⟩ rfl (fun h => k)

theorem dX6_putRound_0 : decode cX6_putRound 0 = .ok (.iload_n 2, 1) := by decide +kernel
theorem dX6_putRound_1 : decode cX6_putRound 1 = .ok (.iconst 1, 1) := by decide +kernel
theorem dX6_putRound_2 : decode cX6_putRound 2 = .ok (.isub, 1) := by decide +kernel
theorem dX6_putRound_3 : decode cX6_putRound 3 = .ok (.istore 4, 2) := by decide +kernel
theorem dX6_putRound_5 : decode cX6_putRound 5 = .ok (.iload 4, 2) := by decide +kernel
theorem dX6_putRound_7 : decode cX6_putRound 7 = .ok (.iload_n 2, 1) := by decide +kernel
theorem dX6_putRound_8 : decode cX6_putRound 8 = .ok (.iconst 1, 1) := by decide +kernel
theorem dX6_putRound_9 : decode cX6_putRound 9 = .ok (.iadd, 1) := by decide +kernel
theorem dX6_putRound_10 : decode cX6_putRound 10 = .ok (.if_icmp .gt 38, 3) := by decide +kernel
theorem dX6_putRound_13 : decode cX6_putRound 13 = .ok (.iload_n 1, 1) := by decide +kernel
theorem dX6_putRound_14 : decode cX6_putRound 14 = .ok (.iconst 1, 1) := by decide +kernel
theorem dX6_putRound_15 : decode cX6_putRound 15 = .ok (.isub, 1) := by decide +kernel
theorem dX6_putRound_16 : decode cX6_putRound 16 = .ok (.istore 5, 2) := by decide +kernel
theorem dX6_putRound_18 : decode cX6_putRound 18 = .ok (.iload 5, 2) := by decide +kernel
theorem dX6_putRound_20 : decode cX6_putRound 20 = .ok (.iload_n 1, 1) := by decide +kernel
theorem dX6_putRound_21 : decode cX6_putRound 21 = .ok (.iconst 1, 1) := by decide +kernel
theorem dX6_putRound_22 : decode cX6_putRound 22 = .ok (.iadd, 1) := by decide +kernel
theorem dX6_putRound_23 : decode cX6_putRound 23 = .ok (.if_icmp .gt 19, 3) := by decide +kernel
theorem dX6_putRound_26 : decode cX6_putRound 26 = .ok (.aload_n 0, 1) := by decide +kernel
theorem dX6_putRound_27 : decode cX6_putRound 27 = .ok (.iload 5, 2) := by decide +kernel
theorem dX6_putRound_29 : decode cX6_putRound 29 = .ok (.iload 4, 2) := by decide +kernel
theorem dX6_putRound_31 : decode cX6_putRound 31 = .ok (.iload_n 3, 1) := by decide +kernel
theorem dX6_putRound_32 : decode cX6_putRound 32 = .ok (.invokevirtual 35, 3) := by decide +kernel
theorem dX6_putRound_35 : decode cX6_putRound 35 = .ok (.pop, 1) := by decide +kernel
theorem dX6_putRound_36 : decode cX6_putRound 36 = .ok (.iinc 5 1, 3) := by decide +kernel
theorem dX6_putRound_39 : decode cX6_putRound 39 = .ok (.goto (-21), 3) := by decide +kernel
theorem dX6_putRound_42 : decode cX6_putRound 42 = .ok (.iinc 4 1, 3) := by decide +kernel
theorem dX6_putRound_45 : decode cX6_putRound 45 = .ok (.goto (-40), 3) := by decide +kernel
theorem dX6_putRound_48 : decode cX6_putRound 48 = .ok (.return_, 1) := by decide +kernel
def mX6_putRound : MM := (yX6_putRound, cX6_putRound, 6, none, { frames := 2, cells := 0, slots := 0, locals := 47 })
def X6_putRound_L18 (o0_ : Nat) (u1_ : Int32) (u3_ : Int32) (u4_ : Int32) (k42 : SS → Option SS) : Nat → Int32 → SS → Option SS :=
  lp (fun _ _ => none) fun rec v5_ σ_ =>
    if (u1_ + (1 : Int32)) < v5_ then (
      k42 σ_
      ) else (
      bnd (fX6_put σ_ o0_ v5_ u4_ u3_) fun b4 σ6 =>
      rec (v5_ + (1 : Int32)) σ6
      )

def X6_putRound_L5 (o0_ : Nat) (u1_ : Int32) (u2_ : Int32) (u3_ : Int32)  : Nat → Int32 → SS → Option SS :=
  lp (fun _ _ => none) fun rec v4_ σ_ =>
    if (u2_ + (1 : Int32)) < v4_ then (
      some σ_
      ) else (
      vthen (u1_ - (1 : Int32)) fun v2 =>
      X6_putRound_L18 o0_ u1_ u3_ v4_
      (fun σ7 =>
        rec (v4_ + (1 : Int32)) σ7
        )
      fuel v2 σ_
      )

def fX6_putRound (σ : SS) (a0 : Nat) (a1 : Int32) (a2 : Int32) (a3 : Int32) : Option SS :=
  vthen (a2 - (1 : Int32)) fun v1 =>
  X6_putRound_L5 a0 a1 a2 a3
  fuel v1 σ

set_option maxRecDepth 20000 in
theorem sX6_putRound_L18 {g : GG} {r : SS} {o0_ : Nat} {u1_ : Int32} {x2_ : Int32} {u3_ : Int32} {u4_ : Int32} {k42 : SS → Option SS} (hs0_ : shp o0_ = (6, 0))
    (hk42 : ∀ (σ_ : SS), k42 σ_ = some r → WT σ_ → RR g mX6_putRound (FinR g mX6_putRound none NF r) zF 42 [(0, .ref (ad g o0_)), (1, .int u1_), (2, .int x2_), (3, .int u3_), (4, .int u4_)] [] σ_)
    (n : Nat) : ∀ (v5_ : Int32) (σ_ : SS), X6_putRound_L18 o0_ u1_ u3_ u4_ k42 n v5_ σ_ = some r → WT σ_ → RR g mX6_putRound (FinR g mX6_putRound none NF r) zF 18 [(0, .ref (ad g o0_)), (1, .int u1_), (2, .int x2_), (3, .int u3_), (4, .int u4_), (5, .int v5_)] [] σ_ := by
  unfold X6_putRound_L18
  refine lp_ind (P := fun (rec : Int32 → SS → Option SS) => ∀ (v5_ : Int32) (σ_ : SS), rec v5_ σ_ = some r → WT σ_ → RR g mX6_putRound (FinR g mX6_putRound none NF r) zF 18 [(0, .ref (ad g o0_)), (1, .int u1_), (2, .int x2_), (3, .int u3_), (4, .int u4_), (5, .int v5_)] [] σ_) ?_ ?_ n
  · intro v5_ σ_ hr; cases hr
  intro rec ih v5_ σ_ hr hw_
  refine r_iload (pc := 18) (j := 5) dX6_putRound_18 rfl ?_
  refine r_iload_n (pc := 20) (j := 1) dX6_putRound_20 rfl rfl ?_
  refine r_iconst (pc := 21) (v := (1 : Int32)) dX6_putRound_21 rfl ?_
  refine r_iadd (pc := 22) dX6_putRound_22 ?_
  refine r_icmp_gt (pc := 23) (tgt := 42) dX6_putRound_23 rfl (fun hc => ?_) (fun hc => ?_)
  · replace hr := ite_t hc hr
    exact r_pick (ls1 := [(0, .ref (ad g o0_)), (1, .int u1_), (2, .int x2_), (3, .int u3_), (4, .int u4_)]) [0, 1, 2, 3, 4] rfl (hk42 σ_ hr hw_)
  replace hr := ite_f hc hr
  refine r_aload_n (pc := 26) (j := 0) dX6_putRound_26 rfl rfl ?_
  refine r_iload (pc := 27) (j := 5) dX6_putRound_27 rfl ?_
  refine r_iload (pc := 29) (j := 4) dX6_putRound_29 rfl ?_
  refine r_iload_n (pc := 31) (j := 3) dX6_putRound_31 rfl rfl ?_
  obtain ⟨b4, σ6, eσ6, hr⟩ := bnd_inv hr
  refine kX6_put (pc := 32) eσ6 hs0_ tw_3_93 ⟨nle rfl, nle rfl⟩ (nle rfl) dX6_putRound_32 fun hσ6 => ?_
  refine r_pop (pc := 35) dX6_putRound_35 rfl ?_
  refine r_iinc (pc := 36) (j := 5) (v := (v5_ + (1 : Int32))) (ls1 := [(5, .int (v5_ + (1 : Int32))), (0, .ref (ad g o0_)), (1, .int u1_), (2, .int x2_), (3, .int u3_), (4, .int u4_)]) dX6_putRound_36 rfl rfl (nle rfl) rfl ?_
  refine r_goto (pc := 39) (tgt := 18) dX6_putRound_39 rfl ?_
  exact r_pick (ls1 := [(0, .ref (ad g o0_)), (1, .int u1_), (2, .int x2_), (3, .int u3_), (4, .int u4_), (5, .int (v5_ + (1 : Int32)))]) [1, 2, 3, 4, 5, 0] rfl (ih (v5_ + (1 : Int32)) σ6 hr hσ6)

set_option maxRecDepth 20000 in
theorem sX6_putRound_L5 {g : GG} {r : SS} {o0_ : Nat} {u1_ : Int32} {u2_ : Int32} {u3_ : Int32}  (hs0_ : shp o0_ = (6, 0))
    (n : Nat) : ∀ (v4_ : Int32) (σ_ : SS), X6_putRound_L5 o0_ u1_ u2_ u3_ n v4_ σ_ = some r → WT σ_ → RR g mX6_putRound (FinR g mX6_putRound none NF r) zF 5 [(0, .ref (ad g o0_)), (1, .int u1_), (2, .int u2_), (3, .int u3_), (4, .int v4_)] [] σ_ := by
  unfold X6_putRound_L5
  refine lp_ind (P := fun (rec : Int32 → SS → Option SS) => ∀ (v4_ : Int32) (σ_ : SS), rec v4_ σ_ = some r → WT σ_ → RR g mX6_putRound (FinR g mX6_putRound none NF r) zF 5 [(0, .ref (ad g o0_)), (1, .int u1_), (2, .int u2_), (3, .int u3_), (4, .int v4_)] [] σ_) ?_ ?_ n
  · intro v4_ σ_ hr; cases hr
  intro rec ih v4_ σ_ hr hw_
  refine r_iload (pc := 5) (j := 4) dX6_putRound_5 rfl ?_
  refine r_iload_n (pc := 7) (j := 2) dX6_putRound_7 rfl rfl ?_
  refine r_iconst (pc := 8) (v := (1 : Int32)) dX6_putRound_8 rfl ?_
  refine r_iadd (pc := 9) dX6_putRound_9 ?_
  refine r_icmp_gt (pc := 10) (tgt := 48) dX6_putRound_10 rfl (fun hc => ?_) (fun hc => ?_)
  · replace hr := ite_t hc hr
    exact l_ov hr (r_vret (pc := 48) rfl rfl ⟨Nat.le_refl _, Nat.le_refl _⟩ dX6_putRound_48)
  replace hr := ite_f hc hr
  refine r_iload_n (pc := 13) (j := 1) dX6_putRound_13 rfl rfl ?_
  refine r_iconst (pc := 14) (v := (1 : Int32)) dX6_putRound_14 rfl ?_
  refine r_isub (pc := 15) dX6_putRound_15 ?_
  refine r_topi fun v2 ev2 => ?_
  replace hr := vthen_inv hr v2 ev2
  refine r_istore (pc := 16) (ls1 := [(5, .int v2), (0, .ref (ad g o0_)), (1, .int u1_), (2, .int u2_), (3, .int u3_), (4, .int v4_)]) dX6_putRound_16 (nle rfl) rfl ?_
  refine r_pick (ls1 := [(0, .ref (ad g o0_)), (1, .int u1_), (2, .int u2_), (3, .int u3_), (4, .int v4_), (5, .int v2)]) [1, 2, 3, 4, 5, 0] rfl ?_
  refine sX6_putRound_L18 hs0_   (fun σ7 hr hσ7 => ?_) fuel v2 σ_ hr hw_
  refine r_iinc (pc := 42) (j := 4) (v := (v4_ + (1 : Int32))) (ls1 := [(4, .int (v4_ + (1 : Int32))), (0, .ref (ad g o0_)), (1, .int u1_), (2, .int u2_), (3, .int u3_)]) dX6_putRound_42 rfl rfl (nle rfl) rfl ?_
  refine r_goto (pc := 45) (tgt := 5) dX6_putRound_45 rfl ?_
  exact r_pick (ls1 := [(0, .ref (ad g o0_)), (1, .int u1_), (2, .int u2_), (3, .int u3_), (4, .int (v4_ + (1 : Int32)))]) [1, 2, 3, 4, 0] rfl (ih (v4_ + (1 : Int32)) σ7 hr hσ7)

set_option maxRecDepth 20000 in
theorem sX6_putRound {g : GG} {σ : SS} {a0 : Nat} {a1 : Int32} {a2 : Int32} {a3 : Int32} {r : SS} (hr : fX6_putRound σ a0 a1 a2 a3 = some r) (hs0 : shp a0 = (6, 0)) : Ct g mX6_putRound [.ref (ad g a0), .int a1, .int a2, .int a3] NF σ none NF r := by
  refine Ct.of (by decide +kernel) (nle rfl) fun hw0 => ?_
  have hw := hw0 rfl
  unfold fX6_putRound at hr
  change RR g mX6_putRound (FinR g mX6_putRound none NF r) zF 0 [(0, .ref (ad g a0)), (1, .int a1), (2, .int a2), (3, .int a3)] [] σ
  refine r_iload_n (pc := 0) (j := 2) dX6_putRound_0 rfl rfl ?_
  refine r_iconst (pc := 1) (v := (1 : Int32)) dX6_putRound_1 rfl ?_
  refine r_isub (pc := 2) dX6_putRound_2 ?_
  refine r_topi fun v1 ev1 => ?_
  replace hr := vthen_inv hr v1 ev1
  refine r_istore (pc := 3) (ls1 := [(4, .int v1), (0, .ref (ad g a0)), (1, .int a1), (2, .int a2), (3, .int a3)]) dX6_putRound_3 (nle rfl) rfl ?_
  refine r_pick (ls1 := [(0, .ref (ad g a0)), (1, .int a1), (2, .int a2), (3, .int a3), (4, .int v1)]) [1, 2, 3, 4, 0] rfl ?_
  refine sX6_putRound_L5 hs0    fuel v1 σ hr hw

theorem kX6_putRound {g : GG} {σ : SS} {a0 : Nat} {a1 : Int32} {a2 : Int32} {a3 : Int32} {σ2 : SS} {M : MM} {F : State → Array Value → List Frame → State → Prop} {pc index : Nat} {ls : List (Nat × Value)} {rest : List Value} (hf : fX6_putRound σ a0 a1 a2 a3 = some σ2) (hs0 : shp a0 = (6, 0)) (hl : Cond.methodLink M.1.cls index yX6_putRound ∈ lw_gt) (hR : mX6_putRound.2.2.2.2.frames + 1 ≤ M.2.2.2.2.frames ∧ 8 + (mX6_putRound.2.2.1 + 11) + mX6_putRound.2.2.2.2.locals ≤ M.2.2.2.2.locals) (hrest : (rest.map fun v => v.category).sum ≤ 8) (hd : decode M.2.1 pc = .ok (.invokevirtual index, 3)) (k : WT σ2 → RR g M F zF (pc + 3) ls rest σ2) : RR g M F zF pc ls (.int a3 :: .int a2 :: .int a1 :: .ref (ad g a0) :: rest) σ :=
  r_callV (z := zF) (N := mX6_putRound) (nn := 3) (o1 := none) (sX6_putRound hf hs0) hs0 (by decide) (shp_le hs0 (nle rfl)) (ci := 6) rfl rfl tw_3_92 tw_1_2 hl tw_3_90 tw_3_91 ⟨by decide, by decide, rfl⟩ hR rfl hrest hd ⟨Nat.zero_le _, Nat.zero_le _⟩ rfl (fun h => k (h rfl))

theorem dX7_inkBox_0 : decode cX7_inkBox 0 = .ok (.aload_n 0, 1) := by decide +kernel
theorem dX7_inkBox_1 : decode cX7_inkBox 1 = .ok (.getfield 62, 3) := by decide +kernel
theorem dX7_inkBox_4 : decode cX7_inkBox 4 = .ok (.getfield 259, 3) := by decide +kernel
theorem dX7_inkBox_7 : decode cX7_inkBox 7 = .ok (.astore_n 3, 1) := by decide +kernel
theorem dX7_inkBox_8 : decode cX7_inkBox 8 = .ok (.aload_n 0, 1) := by decide +kernel
theorem dX7_inkBox_9 : decode cX7_inkBox 9 = .ok (.getfield 32, 3) := by decide +kernel
theorem dX7_inkBox_12 : decode cX7_inkBox 12 = .ok (.getfield 142, 3) := by decide +kernel
theorem dX7_inkBox_15 : decode cX7_inkBox 15 = .ok (.iload_n 1, 1) := by decide +kernel
theorem dX7_inkBox_16 : decode cX7_inkBox 16 = .ok (.iaload, 1) := by decide +kernel
theorem dX7_inkBox_17 : decode cX7_inkBox 17 = .ok (.istore 4, 2) := by decide +kernel
theorem dX7_inkBox_19 : decode cX7_inkBox 19 = .ok (.aload_n 0, 1) := by decide +kernel
theorem dX7_inkBox_20 : decode cX7_inkBox 20 = .ok (.getfield 32, 3) := by decide +kernel
theorem dX7_inkBox_23 : decode cX7_inkBox 23 = .ok (.getfield 148, 3) := by decide +kernel
theorem dX7_inkBox_26 : decode cX7_inkBox 26 = .ok (.iload_n 1, 1) := by decide +kernel
theorem dX7_inkBox_27 : decode cX7_inkBox 27 = .ok (.iaload, 1) := by decide +kernel
theorem dX7_inkBox_28 : decode cX7_inkBox 28 = .ok (.istore 5, 2) := by decide +kernel
theorem dX7_inkBox_30 : decode cX7_inkBox 30 = .ok (.iload 5, 2) := by decide +kernel
theorem dX7_inkBox_32 : decode cX7_inkBox 32 = .ok (.istore 6, 2) := by decide +kernel
theorem dX7_inkBox_34 : decode cX7_inkBox 34 = .ok (.iload 6, 2) := by decide +kernel
theorem dX7_inkBox_36 : decode cX7_inkBox 36 = .ok (.iload 5, 2) := by decide +kernel
theorem dX7_inkBox_38 : decode cX7_inkBox 38 = .ok (.aload_n 0, 1) := by decide +kernel
theorem dX7_inkBox_39 : decode cX7_inkBox 39 = .ok (.getfield 32, 3) := by decide +kernel
theorem dX7_inkBox_42 : decode cX7_inkBox 42 = .ok (.getfield 410, 3) := by decide +kernel
theorem dX7_inkBox_45 : decode cX7_inkBox 45 = .ok (.iadd, 1) := by decide +kernel
theorem dX7_inkBox_46 : decode cX7_inkBox 46 = .ok (.if_icmp .ge 75, 3) := by decide +kernel
theorem dX7_inkBox_49 : decode cX7_inkBox 49 = .ok (.iload 4, 2) := by decide +kernel
theorem dX7_inkBox_51 : decode cX7_inkBox 51 = .ok (.istore 7, 2) := by decide +kernel
theorem dX7_inkBox_53 : decode cX7_inkBox 53 = .ok (.iload 7, 2) := by decide +kernel
theorem dX7_inkBox_55 : decode cX7_inkBox 55 = .ok (.iload 4, 2) := by decide +kernel
theorem dX7_inkBox_57 : decode cX7_inkBox 57 = .ok (.aload_n 0, 1) := by decide +kernel
theorem dX7_inkBox_58 : decode cX7_inkBox 58 = .ok (.getfield 32, 3) := by decide +kernel
theorem dX7_inkBox_61 : decode cX7_inkBox 61 = .ok (.getfield 413, 3) := by decide +kernel
theorem dX7_inkBox_64 : decode cX7_inkBox 64 = .ok (.iadd, 1) := by decide +kernel
theorem dX7_inkBox_65 : decode cX7_inkBox 65 = .ok (.if_icmp .ge 50, 3) := by decide +kernel
theorem dX7_inkBox_68 : decode cX7_inkBox 68 = .ok (.aload_n 0, 1) := by decide +kernel
theorem dX7_inkBox_69 : decode cX7_inkBox 69 = .ok (.getfield 18, 3) := by decide +kernel
theorem dX7_inkBox_72 : decode cX7_inkBox 72 = .ok (.aload_n 3, 1) := by decide +kernel
theorem dX7_inkBox_73 : decode cX7_inkBox 73 = .ok (.iconst 2, 1) := by decide +kernel
theorem dX7_inkBox_74 : decode cX7_inkBox 74 = .ok (.iload 7, 2) := by decide +kernel
theorem dX7_inkBox_76 : decode cX7_inkBox 76 = .ok (.imul, 1) := by decide +kernel
theorem dX7_inkBox_77 : decode cX7_inkBox 77 = .ok (.iconst 1, 1) := by decide +kernel
theorem dX7_inkBox_78 : decode cX7_inkBox 78 = .ok (.iadd, 1) := by decide +kernel
theorem dX7_inkBox_79 : decode cX7_inkBox 79 = .ok (.iconst 2, 1) := by decide +kernel
theorem dX7_inkBox_80 : decode cX7_inkBox 80 = .ok (.iload 6, 2) := by decide +kernel
theorem dX7_inkBox_82 : decode cX7_inkBox 82 = .ok (.imul, 1) := by decide +kernel
theorem dX7_inkBox_83 : decode cX7_inkBox 83 = .ok (.iconst 1, 1) := by decide +kernel
theorem dX7_inkBox_84 : decode cX7_inkBox 84 = .ok (.iadd, 1) := by decide +kernel
theorem dX7_inkBox_85 : decode cX7_inkBox 85 = .ok (.invokevirtual 280, 3) := by decide +kernel
theorem dX7_inkBox_88 : decode cX7_inkBox 88 = .ok (.aload_n 3, 1) := by decide +kernel
theorem dX7_inkBox_89 : decode cX7_inkBox 89 = .ok (.iconst 2, 1) := by decide +kernel
theorem dX7_inkBox_90 : decode cX7_inkBox 90 = .ok (.iload 7, 2) := by decide +kernel
theorem dX7_inkBox_92 : decode cX7_inkBox 92 = .ok (.imul, 1) := by decide +kernel
theorem dX7_inkBox_93 : decode cX7_inkBox 93 = .ok (.iconst 1, 1) := by decide +kernel
theorem dX7_inkBox_94 : decode cX7_inkBox 94 = .ok (.iadd, 1) := by decide +kernel
theorem dX7_inkBox_95 : decode cX7_inkBox 95 = .ok (.iconst 2, 1) := by decide +kernel
theorem dX7_inkBox_96 : decode cX7_inkBox 96 = .ok (.iload 6, 2) := by decide +kernel
theorem dX7_inkBox_98 : decode cX7_inkBox 98 = .ok (.imul, 1) := by decide +kernel
theorem dX7_inkBox_99 : decode cX7_inkBox 99 = .ok (.iconst 1, 1) := by decide +kernel
theorem dX7_inkBox_100 : decode cX7_inkBox 100 = .ok (.iadd, 1) := by decide +kernel
theorem dX7_inkBox_101 : decode cX7_inkBox 101 = .ok (.invokevirtual 283, 3) := by decide +kernel
theorem dX7_inkBox_104 : decode cX7_inkBox 104 = .ok (.iload_n 2, 1) := by decide +kernel
theorem dX7_inkBox_105 : decode cX7_inkBox 105 = .ok (.invokevirtual 157, 3) := by decide +kernel
theorem dX7_inkBox_108 : decode cX7_inkBox 108 = .ok (.pop, 1) := by decide +kernel
theorem dX7_inkBox_109 : decode cX7_inkBox 109 = .ok (.iinc 7 1, 3) := by decide +kernel
theorem dX7_inkBox_112 : decode cX7_inkBox 112 = .ok (.goto (-59), 3) := by decide +kernel
theorem dX7_inkBox_115 : decode cX7_inkBox 115 = .ok (.iinc 6 1, 3) := by decide +kernel
theorem dX7_inkBox_118 : decode cX7_inkBox 118 = .ok (.goto (-84), 3) := by decide +kernel
theorem dX7_inkBox_121 : decode cX7_inkBox 121 = .ok (.return_, 1) := by decide +kernel
def mX7_inkBox : MM := (yX7_inkBox, cX7_inkBox, 8, none, { frames := 2, cells := 0, slots := 0, locals := 47 })
def X7_inkBox_L53 (u2_ : Int32) (u4_ : Int32) (u6_ : Int32) (k115 : SS → Option SS) : Nat → Int32 → SS → Option SS :=
  lp (fun _ _ => none) fun rec v7_ σ_ =>
    if (u4_ + (gI σ_ (gR σ_ 1 5) 3)) ≤ v7_ then (
      k115 σ_
      ) else (
      bnd1 (fX5_dotX σ_ (((2 : Int32) * v7_) + (1 : Int32)) (((2 : Int32) * u6_) + (1 : Int32))) fun v4 =>
      bnd1 (fX5_dotY σ_ (((2 : Int32) * v7_) + (1 : Int32)) (((2 : Int32) * u6_) + (1 : Int32))) fun v7 =>
      bnd (fX6_put σ_ (gR σ_ 1 2) v4 v7 u2_) fun b11 σ13 =>
      rec (v7_ + (1 : Int32)) σ13
      )

def X7_inkBox_L34 (u2_ : Int32) (u4_ : Int32) (u5_ : Int32)  : Nat → Int32 → SS → Option SS :=
  lp (fun _ _ => none) fun rec v6_ σ_ =>
    if (u5_ + (gI σ_ (gR σ_ 1 5) 4)) ≤ v6_ then (
      some σ_
      ) else (
      X7_inkBox_L53 u2_ u4_ v6_
      (fun σ14 =>
        rec (v6_ + (1 : Int32)) σ14
        )
      fuel u4_ σ_
      )

def fX7_inkBox (σ : SS) (a1 : Int32) (a2 : Int32) : Option SS :=
  grd (inb a1 72) <|
  vthen (gI σ ((gR σ 1 5) + 6) (Int32.toNatClampNeg a1)) fun v2 =>
  vthen (gI σ ((gR σ 1 5) + 7) (Int32.toNatClampNeg a1)) fun v3 =>
  X7_inkBox_L34 a2 v2 v3
  fuel v3 σ

set_option maxRecDepth 20000 in
theorem sX7_inkBox_L53 {g : GG} {r : SS} {u2_ : Int32} {u4_ : Int32} {x5_ : Int32} {u6_ : Int32} {k115 : SS → Option SS} 
    (hk115 : ∀ (σ_ : SS), k115 σ_ = some r → WT σ_ → RR g mX7_inkBox (FinR g mX7_inkBox none NF r) zF 115 [(0, .ref (ad g 1)), (2, .int u2_), (3, .ref (ad g 45)), (4, .int u4_), (5, .int x5_), (6, .int u6_)] [] σ_)
    (n : Nat) : ∀ (v7_ : Int32) (σ_ : SS), X7_inkBox_L53 u2_ u4_ u6_ k115 n v7_ σ_ = some r → WT σ_ → RR g mX7_inkBox (FinR g mX7_inkBox none NF r) zF 53 [(0, .ref (ad g 1)), (2, .int u2_), (3, .ref (ad g 45)), (4, .int u4_), (5, .int x5_), (6, .int u6_), (7, .int v7_)] [] σ_ := by
  unfold X7_inkBox_L53
  refine lp_ind (P := fun (rec : Int32 → SS → Option SS) => ∀ (v7_ : Int32) (σ_ : SS), rec v7_ σ_ = some r → WT σ_ → RR g mX7_inkBox (FinR g mX7_inkBox none NF r) zF 53 [(0, .ref (ad g 1)), (2, .int u2_), (3, .ref (ad g 45)), (4, .int u4_), (5, .int x5_), (6, .int u6_), (7, .int v7_)] [] σ_) ?_ ?_ n
  · intro v7_ σ_ hr; cases hr
  intro rec ih v7_ σ_ hr hw_
  refine r_iload (pc := 53) (j := 6) dX7_inkBox_53 rfl ?_
  refine r_iload (pc := 55) (j := 3) dX7_inkBox_55 rfl ?_
  refine r_aload_n (pc := 57) (j := 0) dX7_inkBox_57 rfl rfl ?_
  refine gf7_5 (pc := 58) tw_2_108 hw_ dX7_inkBox_58 ?_
  refine gf1_3 (pc := 61) tw_1_72 (wt_fo hw_).1 dX7_inkBox_61 ?_
  refine r_iadd (pc := 64) dX7_inkBox_64 ?_
  refine r_icmp_ge (pc := 65) (tgt := 115) dX7_inkBox_65 rfl (fun hc => ?_) (fun hc => ?_)
  · replace hr := ite_t hc hr
    exact r_pick (ls1 := [(0, .ref (ad g 1)), (2, .int u2_), (3, .ref (ad g 45)), (4, .int u4_), (5, .int x5_), (6, .int u6_)]) [0, 1, 2, 3, 4, 5] rfl (hk115 σ_ hr hw_)
  replace hr := ite_f hc hr
  refine r_aload_n (pc := 68) (j := 0) dX7_inkBox_68 rfl rfl ?_
  refine gf7_2 (pc := 69) tw_2_105 hw_ dX7_inkBox_69 ?_
  refine r_aload_n (pc := 72) (j := 2) dX7_inkBox_72 rfl rfl ?_
  refine r_iconst (pc := 73) (v := (2 : Int32)) dX7_inkBox_73 rfl ?_
  refine r_iload (pc := 74) (j := 6) dX7_inkBox_74 rfl ?_
  refine r_imul (pc := 76) dX7_inkBox_76 ?_
  refine r_iconst (pc := 77) (v := (1 : Int32)) dX7_inkBox_77 rfl ?_
  refine r_iadd (pc := 78) dX7_inkBox_78 ?_
  refine r_iconst (pc := 79) (v := (2 : Int32)) dX7_inkBox_79 rfl ?_
  refine r_iload (pc := 80) (j := 5) dX7_inkBox_80 rfl ?_
  refine r_imul (pc := 82) dX7_inkBox_82 ?_
  refine r_iconst (pc := 83) (v := (1 : Int32)) dX7_inkBox_83 rfl ?_
  refine r_iadd (pc := 84) dX7_inkBox_84 ?_
  obtain ⟨v4, hv4, hr⟩ := bnd1_inv hr
  refine kX5_dotX (pc := 85) hv4 tw_3_100 ⟨nle rfl, nle rfl⟩ (nle rfl) dX7_inkBox_85 ?_
  refine r_aload_n (pc := 88) (j := 2) dX7_inkBox_88 rfl rfl ?_
  refine r_iconst (pc := 89) (v := (2 : Int32)) dX7_inkBox_89 rfl ?_
  refine r_iload (pc := 90) (j := 6) dX7_inkBox_90 rfl ?_
  refine r_imul (pc := 92) dX7_inkBox_92 ?_
  refine r_iconst (pc := 93) (v := (1 : Int32)) dX7_inkBox_93 rfl ?_
  refine r_iadd (pc := 94) dX7_inkBox_94 ?_
  refine r_iconst (pc := 95) (v := (2 : Int32)) dX7_inkBox_95 rfl ?_
  refine r_iload (pc := 96) (j := 5) dX7_inkBox_96 rfl ?_
  refine r_imul (pc := 98) dX7_inkBox_98 ?_
  refine r_iconst (pc := 99) (v := (1 : Int32)) dX7_inkBox_99 rfl ?_
  refine r_iadd (pc := 100) dX7_inkBox_100 ?_
  obtain ⟨v7, hv7, hr⟩ := bnd1_inv hr
  refine kX5_dotY (pc := 101) hv7 tw_3_101 ⟨nle rfl, nle rfl⟩ (nle rfl) dX7_inkBox_101 ?_
  refine r_iload_n (pc := 104) (j := 1) dX7_inkBox_104 rfl rfl ?_
  obtain ⟨b11, σ13, eσ13, hr⟩ := bnd_inv hr
  refine kX6_put (pc := 105) eσ13 (wt_sc hw_).1 tw_2_181 ⟨nle rfl, nle rfl⟩ (nle rfl) dX7_inkBox_105 fun hσ13 => ?_
  refine r_pop (pc := 108) dX7_inkBox_108 rfl ?_
  refine r_iinc (pc := 109) (j := 6) (v := (v7_ + (1 : Int32))) (ls1 := [(7, .int (v7_ + (1 : Int32))), (0, .ref (ad g 1)), (2, .int u2_), (3, .ref (ad g 45)), (4, .int u4_), (5, .int x5_), (6, .int u6_)]) dX7_inkBox_109 rfl rfl (nle rfl) rfl ?_
  refine r_goto (pc := 112) (tgt := 53) dX7_inkBox_112 rfl ?_
  exact r_pick (ls1 := [(0, .ref (ad g 1)), (2, .int u2_), (3, .ref (ad g 45)), (4, .int u4_), (5, .int x5_), (6, .int u6_), (7, .int (v7_ + (1 : Int32)))]) [1, 2, 3, 4, 5, 6, 0] rfl (ih (v7_ + (1 : Int32)) σ13 hr hσ13)

set_option maxRecDepth 20000 in
theorem sX7_inkBox_L34 {g : GG} {r : SS} {u2_ : Int32} {u4_ : Int32} {u5_ : Int32}  
    (n : Nat) : ∀ (v6_ : Int32) (σ_ : SS), X7_inkBox_L34 u2_ u4_ u5_ n v6_ σ_ = some r → WT σ_ → RR g mX7_inkBox (FinR g mX7_inkBox none NF r) zF 34 [(0, .ref (ad g 1)), (2, .int u2_), (3, .ref (ad g 45)), (4, .int u4_), (5, .int u5_), (6, .int v6_)] [] σ_ := by
  unfold X7_inkBox_L34
  refine lp_ind (P := fun (rec : Int32 → SS → Option SS) => ∀ (v6_ : Int32) (σ_ : SS), rec v6_ σ_ = some r → WT σ_ → RR g mX7_inkBox (FinR g mX7_inkBox none NF r) zF 34 [(0, .ref (ad g 1)), (2, .int u2_), (3, .ref (ad g 45)), (4, .int u4_), (5, .int u5_), (6, .int v6_)] [] σ_) ?_ ?_ n
  · intro v6_ σ_ hr; cases hr
  intro rec ih v6_ σ_ hr hw_
  refine r_iload (pc := 34) (j := 5) dX7_inkBox_34 rfl ?_
  refine r_iload (pc := 36) (j := 4) dX7_inkBox_36 rfl ?_
  refine r_aload_n (pc := 38) (j := 0) dX7_inkBox_38 rfl rfl ?_
  refine gf7_5 (pc := 39) tw_2_108 hw_ dX7_inkBox_39 ?_
  refine gf1_4 (pc := 42) tw_1_76 (wt_fo hw_).1 dX7_inkBox_42 ?_
  refine r_iadd (pc := 45) dX7_inkBox_45 ?_
  refine r_icmp_ge (pc := 46) (tgt := 121) dX7_inkBox_46 rfl (fun hc => ?_) (fun hc => ?_)
  · replace hr := ite_t hc hr
    exact l_ov hr (r_vret (pc := 121) rfl rfl ⟨Nat.le_refl _, Nat.le_refl _⟩ dX7_inkBox_121)
  replace hr := ite_f hc hr
  refine r_iload (pc := 49) (j := 3) dX7_inkBox_49 rfl ?_
  refine r_istore (pc := 51) (ls1 := [(7, .int u4_), (0, .ref (ad g 1)), (2, .int u2_), (3, .ref (ad g 45)), (4, .int u4_), (5, .int u5_), (6, .int v6_)]) dX7_inkBox_51 (nle rfl) rfl ?_
  refine r_pick (ls1 := [(0, .ref (ad g 1)), (2, .int u2_), (3, .ref (ad g 45)), (4, .int u4_), (5, .int u5_), (6, .int v6_), (7, .int u4_)]) [1, 2, 3, 4, 5, 6, 0] rfl ?_
  refine sX7_inkBox_L53    (fun σ14 hr hσ14 => ?_) fuel u4_ σ_ hr hw_
  refine r_iinc (pc := 115) (j := 5) (v := (v6_ + (1 : Int32))) (ls1 := [(6, .int (v6_ + (1 : Int32))), (0, .ref (ad g 1)), (2, .int u2_), (3, .ref (ad g 45)), (4, .int u4_), (5, .int u5_)]) dX7_inkBox_115 rfl rfl (nle rfl) rfl ?_
  refine r_goto (pc := 118) (tgt := 34) dX7_inkBox_118 rfl ?_
  exact r_pick (ls1 := [(0, .ref (ad g 1)), (2, .int u2_), (3, .ref (ad g 45)), (4, .int u4_), (5, .int u5_), (6, .int (v6_ + (1 : Int32)))]) [1, 2, 3, 4, 5, 0] rfl (ih (v6_ + (1 : Int32)) σ14 hr hσ14)

set_option maxRecDepth 20000 in
theorem sX7_inkBox {g : GG} {σ : SS} {a1 : Int32} {a2 : Int32} {r : SS} (hr : fX7_inkBox σ a1 a2 = some r)  : Ct g mX7_inkBox [.ref (ad g 1), .int a1, .int a2] NF σ none NF r := by
  refine Ct.of (by decide +kernel) (nle rfl) fun hw0 => ?_
  have hw := hw0 rfl
  unfold fX7_inkBox at hr
  change RR g mX7_inkBox (FinR g mX7_inkBox none NF r) zF 0 [(0, .ref (ad g 1)), (1, .int a1), (2, .int a2)] [] σ
  refine r_aload_n (pc := 0) (j := 0) dX7_inkBox_0 rfl rfl ?_
  refine gf7_12 (pc := 1) tw_2_115 hw dX7_inkBox_1 ?_
  refine gf3_3 (pc := 4) tw_2_27 hw dX7_inkBox_4 ?_
  refine r_astore_n (pc := 7) (ls1 := [(3, .ref (ad g 45)), (0, .ref (ad g 1)), (1, .int a1), (2, .int a2)]) dX7_inkBox_7 rfl (nle rfl) rfl ?_
  refine r_aload_n (pc := 8) (j := 1) dX7_inkBox_8 rfl rfl ?_
  refine gf7_5 (pc := 9) tw_2_108 hw dX7_inkBox_9 ?_
  refine gf1_12 (pc := 12) tw_1_104 hw (wt_fo hw).1 dX7_inkBox_12 ?_
  refine r_iload_n (pc := 15) (j := 2) dX7_inkBox_15 rfl rfl ?_
  obtain ⟨h1, hr⟩ := grd_inv hr
  refine x_iald (pc := 16) (k := (Int32.toNatClampNeg a1)) (sh1_12 (wt_fo hw).1) h1 rfl dX7_inkBox_16 ?_
  refine r_topi fun v2 ev2 => ?_
  replace hr := vthen_inv hr v2 ev2
  refine r_istore (pc := 17) (ls1 := [(4, .int v2), (3, .ref (ad g 45)), (0, .ref (ad g 1)), (1, .int a1), (2, .int a2)]) dX7_inkBox_17 (nle rfl) rfl ?_
  refine r_aload_n (pc := 19) (j := 2) dX7_inkBox_19 rfl rfl ?_
  refine gf7_5 (pc := 20) tw_2_108 hw dX7_inkBox_20 ?_
  refine gf1_13 (pc := 23) tw_1_107 hw (wt_fo hw).1 dX7_inkBox_23 ?_
  refine r_iload_n (pc := 26) (j := 3) dX7_inkBox_26 rfl rfl ?_
  refine x_iald (pc := 27) (k := (Int32.toNatClampNeg a1)) (sh1_13 (wt_fo hw).1) h1 rfl dX7_inkBox_27 ?_
  refine r_topi fun v3 ev3 => ?_
  replace hr := vthen_inv hr v3 ev3
  refine r_istore (pc := 28) (ls1 := [(5, .int v3), (4, .int v2), (3, .ref (ad g 45)), (0, .ref (ad g 1)), (1, .int a1), (2, .int a2)]) dX7_inkBox_28 (nle rfl) rfl ?_
  refine r_iload (pc := 30) (j := 0) dX7_inkBox_30 rfl ?_
  refine r_istore (pc := 32) (ls1 := [(6, .int v3), (5, .int v3), (4, .int v2), (3, .ref (ad g 45)), (0, .ref (ad g 1)), (1, .int a1), (2, .int a2)]) dX7_inkBox_32 (nle rfl) rfl ?_
  refine r_pick (ls1 := [(0, .ref (ad g 1)), (2, .int a2), (3, .ref (ad g 45)), (4, .int v2), (5, .int v3), (6, .int v3)]) [4, 6, 3, 2, 1, 0] rfl ?_
  refine sX7_inkBox_L34     fuel v3 σ hr hw

theorem kX7_inkBox {g : GG} {σ : SS} {a1 : Int32} {a2 : Int32} {σ2 : SS} {M : MM} {F : State → Array Value → List Frame → State → Prop} {pc index : Nat} {ls : List (Nat × Value)} {rest : List Value} (hf : fX7_inkBox σ a1 a2 = some σ2)  (hl : Cond.methodLink M.1.cls index yX7_inkBox ∈ lw_gt) (hR : mX7_inkBox.2.2.2.2.frames + 1 ≤ M.2.2.2.2.frames ∧ 8 + (mX7_inkBox.2.2.1 + 11) + mX7_inkBox.2.2.2.2.locals ≤ M.2.2.2.2.locals) (hrest : (rest.map fun v => v.category).sum ≤ 8) (hd : decode M.2.1 pc = .ok (.invokevirtual index, 3)) (k : WT σ2 → RR g M F zF (pc + 3) ls rest σ2) : RR g M F zF pc ls (.int a2 :: .int a1 :: .ref (ad g 1) :: rest) σ :=
  r_callV (z := zF) (N := mX7_inkBox) (nn := 2) (o1 := none) (sX7_inkBox hf ) (rfl : shp 1 = (7, 0)) (by decide) (shp_le (rfl : shp 1 = (7, 0)) (nle rfl)) (ci := 7) rfl rfl tw_3_99 tw_1_1 hl tw_3_98 tp_11 ⟨by decide, by decide, rfl⟩ hR rfl hrest hd ⟨Nat.zero_le _, Nat.zero_le _⟩ rfl (fun h => k (h rfl))

theorem dX7_print_0 : decode cX7_print 0 = .ok (.aload_n 0, 1) := by decide +kernel
theorem dX7_print_1 : decode cX7_print 1 = .ok (.getfield 32, 3) := by decide +kernel
theorem dX7_print_4 : decode cX7_print 4 = .ok (.getfield 274, 3) := by decide +kernel
theorem dX7_print_7 : decode cX7_print 7 = .ok (.ifCond .eq 14, 3) := by decide +kernel
theorem dX7_print_10 : decode cX7_print 10 = .ok (.iload_n 1, 1) := by decide +kernel
theorem dX7_print_11 : decode cX7_print 11 = .ok (.iconst 1, 1) := by decide +kernel
theorem dX7_print_12 : decode cX7_print 12 = .ok (.if_icmp .lt 9, 3) := by decide +kernel
theorem dX7_print_15 : decode cX7_print 15 = .ok (.iload_n 1, 1) := by decide +kernel
theorem dX7_print_16 : decode cX7_print 16 = .ok (.bipush 9, 2) := by decide +kernel
theorem dX7_print_18 : decode cX7_print 18 = .ok (.if_icmp .le 5, 3) := by decide +kernel
theorem dX7_print_21 : decode cX7_print 21 = .ok (.iconst (-1), 1) := by decide +kernel
theorem dX7_print_22 : decode cX7_print 22 = .ok (.ireturn, 1) := by decide +kernel
theorem dX7_print_23 : decode cX7_print 23 = .ok (.iconst 0, 1) := by decide +kernel
theorem dX7_print_24 : decode cX7_print 24 = .ok (.istore_n 2, 1) := by decide +kernel
theorem dX7_print_25 : decode cX7_print 25 = .ok (.iload_n 2, 1) := by decide +kernel
theorem dX7_print_26 : decode cX7_print 26 = .ok (.iconst 4, 1) := by decide +kernel
theorem dX7_print_27 : decode cX7_print 27 = .ok (.if_icmp .ge 34, 3) := by decide +kernel
theorem dX7_print_30 : decode cX7_print 30 = .ok (.aload_n 0, 1) := by decide +kernel
theorem dX7_print_31 : decode cX7_print 31 = .ok (.getfield 18, 3) := by decide +kernel
theorem dX7_print_34 : decode cX7_print 34 = .ok (.aload_n 0, 1) := by decide +kernel
theorem dX7_print_35 : decode cX7_print 35 = .ok (.getfield 50, 3) := by decide +kernel
theorem dX7_print_38 : decode cX7_print 38 = .ok (.iload_n 2, 1) := by decide +kernel
theorem dX7_print_39 : decode cX7_print 39 = .ok (.iaload, 1) := by decide +kernel
theorem dX7_print_40 : decode cX7_print 40 = .ok (.aload_n 0, 1) := by decide +kernel
theorem dX7_print_41 : decode cX7_print 41 = .ok (.getfield 53, 3) := by decide +kernel
theorem dX7_print_44 : decode cX7_print 44 = .ok (.iload_n 2, 1) := by decide +kernel
theorem dX7_print_45 : decode cX7_print 45 = .ok (.iaload, 1) := by decide +kernel
theorem dX7_print_46 : decode cX7_print 46 = .ok (.invokevirtual 347, 3) := by decide +kernel
theorem dX7_print_49 : decode cX7_print 49 = .ok (.ifCond .ne 6, 3) := by decide +kernel
theorem dX7_print_52 : decode cX7_print 52 = .ok (.bipush (-2), 2) := by decide +kernel
theorem dX7_print_54 : decode cX7_print 54 = .ok (.ireturn, 1) := by decide +kernel
theorem dX7_print_55 : decode cX7_print 55 = .ok (.iinc 2 1, 3) := by decide +kernel
theorem dX7_print_58 : decode cX7_print 58 = .ok (.goto (-33), 3) := by decide +kernel
theorem dX7_print_61 : decode cX7_print 61 = .ok (.aload_n 0, 1) := by decide +kernel
theorem dX7_print_62 : decode cX7_print 62 = .ok (.getfield 18, 3) := by decide +kernel
theorem dX7_print_65 : decode cX7_print 65 = .ok (.aload_n 0, 1) := by decide +kernel
theorem dX7_print_66 : decode cX7_print 66 = .ok (.getfield 18, 3) := by decide +kernel
theorem dX7_print_69 : decode cX7_print 69 = .ok (.getfield 100, 3) := by decide +kernel
theorem dX7_print_72 : decode cX7_print 72 = .ok (.aload_n 0, 1) := by decide +kernel
theorem dX7_print_73 : decode cX7_print 73 = .ok (.getfield 18, 3) := by decide +kernel
theorem dX7_print_76 : decode cX7_print 76 = .ok (.getfield 103, 3) := by decide +kernel
theorem dX7_print_79 : decode cX7_print 79 = .ok (.invokevirtual 73, 3) := by decide +kernel
theorem dX7_print_82 : decode cX7_print 82 = .ok (.aload_n 0, 1) := by decide +kernel
theorem dX7_print_83 : decode cX7_print 83 = .ok (.getfield 62, 3) := by decide +kernel
theorem dX7_print_86 : decode cX7_print 86 = .ok (.getfield 259, 3) := by decide +kernel
theorem dX7_print_89 : decode cX7_print 89 = .ok (.astore_n 2, 1) := by decide +kernel
theorem dX7_print_90 : decode cX7_print 90 = .ok (.iconst 0, 1) := by decide +kernel
theorem dX7_print_91 : decode cX7_print 91 = .ok (.istore_n 3, 1) := by decide +kernel
theorem dX7_print_92 : decode cX7_print 92 = .ok (.iload_n 3, 1) := by decide +kernel
theorem dX7_print_93 : decode cX7_print 93 = .ok (.iconst 4, 1) := by decide +kernel
theorem dX7_print_94 : decode cX7_print 94 = .ok (.if_icmp .ge 50, 3) := by decide +kernel
theorem dX7_print_97 : decode cX7_print 97 = .ok (.aload_n 0, 1) := by decide +kernel
theorem dX7_print_98 : decode cX7_print 98 = .ok (.getfield 18, 3) := by decide +kernel
theorem dX7_print_101 : decode cX7_print 101 = .ok (.aload_n 0, 1) := by decide +kernel
theorem dX7_print_102 : decode cX7_print 102 = .ok (.getfield 50, 3) := by decide +kernel
theorem dX7_print_105 : decode cX7_print 105 = .ok (.iload_n 3, 1) := by decide +kernel
theorem dX7_print_106 : decode cX7_print 106 = .ok (.iaload, 1) := by decide +kernel
theorem dX7_print_107 : decode cX7_print 107 = .ok (.aload_n 0, 1) := by decide +kernel
theorem dX7_print_108 : decode cX7_print 108 = .ok (.getfield 53, 3) := by decide +kernel
theorem dX7_print_111 : decode cX7_print 111 = .ok (.iload_n 3, 1) := by decide +kernel
theorem dX7_print_112 : decode cX7_print 112 = .ok (.iaload, 1) := by decide +kernel
theorem dX7_print_113 : decode cX7_print 113 = .ok (.bipush 9, 2) := by decide +kernel
theorem dX7_print_115 : decode cX7_print 115 = .ok (.invokevirtual 350, 3) := by decide +kernel
theorem dX7_print_118 : decode cX7_print 118 = .ok (.aload_n 2, 1) := by decide +kernel
theorem dX7_print_119 : decode cX7_print 119 = .ok (.iload_n 3, 1) := by decide +kernel
theorem dX7_print_120 : decode cX7_print 120 = .ok (.aload_n 0, 1) := by decide +kernel
theorem dX7_print_121 : decode cX7_print 121 = .ok (.getfield 50, 3) := by decide +kernel
theorem dX7_print_124 : decode cX7_print 124 = .ok (.iload_n 3, 1) := by decide +kernel
theorem dX7_print_125 : decode cX7_print 125 = .ok (.iaload, 1) := by decide +kernel
theorem dX7_print_126 : decode cX7_print 126 = .ok (.i2l, 1) := by decide +kernel
theorem dX7_print_127 : decode cX7_print 127 = .ok (.aload_n 0, 1) := by decide +kernel
theorem dX7_print_128 : decode cX7_print 128 = .ok (.getfield 53, 3) := by decide +kernel
theorem dX7_print_131 : decode cX7_print 131 = .ok (.iload_n 3, 1) := by decide +kernel
theorem dX7_print_132 : decode cX7_print 132 = .ok (.iaload, 1) := by decide +kernel
theorem dX7_print_133 : decode cX7_print 133 = .ok (.i2l, 1) := by decide +kernel
theorem dX7_print_134 : decode cX7_print 134 = .ok (.lconst 1, 1) := by decide +kernel
theorem dX7_print_135 : decode cX7_print 135 = .ok (.invokevirtual 354, 3) := by decide +kernel
theorem dX7_print_138 : decode cX7_print 138 = .ok (.iinc 3 1, 3) := by decide +kernel
theorem dX7_print_141 : decode cX7_print 141 = .ok (.goto (-49), 3) := by decide +kernel
theorem dX7_print_144 : decode cX7_print 144 = .ok (.aload_n 2, 1) := by decide +kernel
theorem dX7_print_145 : decode cX7_print 145 = .ok (.aload_n 0, 1) := by decide +kernel
theorem dX7_print_146 : decode cX7_print 146 = .ok (.getfield 32, 3) := by decide +kernel
theorem dX7_print_149 : decode cX7_print 149 = .ok (.getfield 109, 3) := by decide +kernel
theorem dX7_print_152 : decode cX7_print 152 = .ok (.aload_n 0, 1) := by decide +kernel
theorem dX7_print_153 : decode cX7_print 153 = .ok (.getfield 32, 3) := by decide +kernel
theorem dX7_print_156 : decode cX7_print 156 = .ok (.getfield 110, 3) := by decide +kernel
theorem dX7_print_159 : decode cX7_print 159 = .ok (.invokevirtual 277, 3) := by decide +kernel
theorem dX7_print_162 : decode cX7_print 162 = .ok (.iconst 0, 1) := by decide +kernel
theorem dX7_print_163 : decode cX7_print 163 = .ok (.istore_n 3, 1) := by decide +kernel
theorem dX7_print_164 : decode cX7_print 164 = .ok (.iload_n 3, 1) := by decide +kernel
theorem dX7_print_165 : decode cX7_print 165 = .ok (.aload_n 0, 1) := by decide +kernel
theorem dX7_print_166 : decode cX7_print 166 = .ok (.getfield 32, 3) := by decide +kernel
theorem dX7_print_169 : decode cX7_print 169 = .ok (.getfield 97, 3) := by decide +kernel
theorem dX7_print_172 : decode cX7_print 172 = .ok (.if_icmp .ge 64, 3) := by decide +kernel
theorem dX7_print_175 : decode cX7_print 175 = .ok (.iconst 0, 1) := by decide +kernel
theorem dX7_print_176 : decode cX7_print 176 = .ok (.istore 4, 2) := by decide +kernel
theorem dX7_print_178 : decode cX7_print 178 = .ok (.iload 4, 2) := by decide +kernel
theorem dX7_print_180 : decode cX7_print 180 = .ok (.aload_n 0, 1) := by decide +kernel
theorem dX7_print_181 : decode cX7_print 181 = .ok (.getfield 32, 3) := by decide +kernel
theorem dX7_print_184 : decode cX7_print 184 = .ok (.getfield 129, 3) := by decide +kernel
theorem dX7_print_187 : decode cX7_print 187 = .ok (.iload_n 3, 1) := by decide +kernel
theorem dX7_print_188 : decode cX7_print 188 = .ok (.iaload, 1) := by decide +kernel
theorem dX7_print_189 : decode cX7_print 189 = .ok (.if_icmp .ge 41, 3) := by decide +kernel
theorem dX7_print_192 : decode cX7_print 192 = .ok (.aload_n 0, 1) := by decide +kernel
theorem dX7_print_193 : decode cX7_print 193 = .ok (.getfield 56, 3) := by decide +kernel
theorem dX7_print_196 : decode cX7_print 196 = .ok (.iload_n 3, 1) := by decide +kernel
theorem dX7_print_197 : decode cX7_print 197 = .ok (.iaload, 1) := by decide +kernel
theorem dX7_print_198 : decode cX7_print 198 = .ok (.iload 4, 2) := by decide +kernel
theorem dX7_print_200 : decode cX7_print 200 = .ok (.ishr, 1) := by decide +kernel
theorem dX7_print_201 : decode cX7_print 201 = .ok (.iconst 1, 1) := by decide +kernel
theorem dX7_print_202 : decode cX7_print 202 = .ok (.iand, 1) := by decide +kernel
theorem dX7_print_203 : decode cX7_print 203 = .ok (.iconst 1, 1) := by decide +kernel
theorem dX7_print_204 : decode cX7_print 204 = .ok (.if_icmp .ne 20, 3) := by decide +kernel
theorem dX7_print_207 : decode cX7_print 207 = .ok (.aload_n 0, 1) := by decide +kernel
theorem dX7_print_208 : decode cX7_print 208 = .ok (.aload_n 0, 1) := by decide +kernel
theorem dX7_print_209 : decode cX7_print 209 = .ok (.getfield 32, 3) := by decide +kernel
theorem dX7_print_212 : decode cX7_print 212 = .ok (.getfield 145, 3) := by decide +kernel
theorem dX7_print_215 : decode cX7_print 215 = .ok (.iload_n 3, 1) := by decide +kernel
theorem dX7_print_216 : decode cX7_print 216 = .ok (.iaload, 1) := by decide +kernel
theorem dX7_print_217 : decode cX7_print 217 = .ok (.iload 4, 2) := by decide +kernel
theorem dX7_print_219 : decode cX7_print 219 = .ok (.iadd, 1) := by decide +kernel
theorem dX7_print_220 : decode cX7_print 220 = .ok (.iload_n 1, 1) := by decide +kernel
theorem dX7_print_221 : decode cX7_print 221 = .ok (.invokevirtual 357, 3) := by decide +kernel
theorem dX7_print_224 : decode cX7_print 224 = .ok (.iinc 4 1, 3) := by decide +kernel
theorem dX7_print_227 : decode cX7_print 227 = .ok (.goto (-49), 3) := by decide +kernel
theorem dX7_print_230 : decode cX7_print 230 = .ok (.iinc 3 1, 3) := by decide +kernel
theorem dX7_print_233 : decode cX7_print 233 = .ok (.goto (-69), 3) := by decide +kernel
theorem dX7_print_236 : decode cX7_print 236 = .ok (.aload_n 0, 1) := by decide +kernel
theorem dX7_print_237 : decode cX7_print 237 = .ok (.getfield 18, 3) := by decide +kernel
theorem dX7_print_240 : decode cX7_print 240 = .ok (.iconst 1, 1) := by decide +kernel
theorem dX7_print_241 : decode cX7_print 241 = .ok (.invokevirtual 114, 3) := by decide +kernel
theorem dX7_print_244 : decode cX7_print 244 = .ok (.ireturn, 1) := by decide +kernel
def mX7_print : MM := (yX7_print, cX7_print, 5, Option.some Jvm.ClassFile.FieldType.int, { frames := 3, cells := 0, slots := 0, locals := 74 })
def X7_print_L25 (σ_ : SS)  (k61 : Unit → Option (Int32 × SS)) : Nat → Int32 → Option (Int32 × SS) :=
  lp (fun _ => none) fun rec v2_ =>
    if (4 : Int32) ≤ v2_ then (
      k61 ()
      ) else (
      grd (inb v2_ 4) <|
      if (fX6_holdsRound σ_ (gR σ_ 1 2) (gI σ_ 28 (Int32.toNatClampNeg v2_)) (gI σ_ 29 (Int32.toNatClampNeg v2_))) = true then (
        rec (v2_ + (1 : Int32))
        ) else (
        some ((-2 : Int32), σ_)
        )
      )

def X7_print_L92  (k144 : SS → Option (Int32 × SS)) : Nat → Int32 → SS → Option (Int32 × SS) :=
  lp (fun _ _ => none) fun rec v3_ σ_ =>
    if (4 : Int32) ≤ v3_ then (
      k144 σ_
      ) else (
      grd (inb v3_ 4) <|
      bnd1 (fX6_putRound σ_ (gR σ_ 1 2) (gI σ_ 28 (Int32.toNatClampNeg v3_)) (gI σ_ 29 (Int32.toNatClampNeg v3_)) (9 : Int32)) fun σ4 =>
      bnd1 (fX5_put σ4 v3_ (Int32.toInt64 (gI σ4 28 (Int32.toNatClampNeg v3_))) (Int32.toInt64 (gI σ4 29 (Int32.toNatClampNeg v3_))) (1 : Int64)) fun σ5 =>
      rec (v3_ + (1 : Int32)) σ5
      )

def X7_print_L178 (u1_ : Int32) (u3_ : Int32) (k230 : SS → Option (Int32 × SS)) : Nat → Int32 → SS → Option (Int32 × SS) :=
  lp (fun _ _ => none) fun rec v4_ σ_ =>
    grd (inb u3_ 12) <|
    if (gI σ_ ((gR σ_ 1 5) + 3) (Int32.toNatClampNeg u3_)) ≤ v4_ then (
      k230 σ_
      ) else (
      if (((gI σ_ 30 (Int32.toNatClampNeg u3_)) >>> (v4_ &&& 31)) &&& (1 : Int32)) = (1 : Int32) then (
        bnd1 (fX7_inkBox σ_ ((gI σ_ ((gR σ_ 1 5) + 2) (Int32.toNatClampNeg u3_)) + v4_) u1_) fun σ12 =>
        rec (v4_ + (1 : Int32)) σ12
        ) else (
        rec (v4_ + (1 : Int32)) σ_
        )
      )

def X7_print_L164 (u1_ : Int32)  : Nat → Int32 → SS → Option (Int32 × SS) :=
  lp (fun _ _ => none) fun rec v3_ σ_ =>
    if (gI σ_ (gR σ_ 1 5) 5) ≤ v3_ then (
      bnd1 (fX6_notBelow σ_ (gR σ_ 1 2) (1 : Int32)) fun v8 =>
      some (v8, σ_)
      ) else (
      X7_print_L178 u1_ v3_
      (fun σ13 =>
        rec (v3_ + (1 : Int32)) σ13
        )
      fuel (0 : Int32) σ_
      )

def fX7_print (σ : SS) (a1 : Int32) : Option (Int32 × SS) :=
  if (gI σ (gR σ 1 5) 0) = 0 then (
    some ((-1 : Int32), σ)
    ) else (
    if a1 < (1 : Int32) then (
      some ((-1 : Int32), σ)
      ) else (
      if a1 ≤ (9 : Int32) then (
        X7_print_L25 σ
        (fun _ =>
          bnd1 (fX6_empty σ (gR σ 1 2) (gI σ (gR σ 1 2) 0) (gI σ (gR σ 1 2) 1)) fun σ2 =>
          X7_print_L92
          (fun σ6 =>
            bnd1 (fX5_spread σ6 (gI σ6 (gR σ6 1 5) 1) (gI σ6 (gR σ6 1 5) 2)) fun σ7 =>
            X7_print_L164 a1
            fuel (0 : Int32) σ7
            )
          fuel (0 : Int32) σ2
          )
        fuel (0 : Int32)
        ) else (
        some ((-1 : Int32), σ)
        )
      )
    )

set_option maxRecDepth 20000 in
theorem sX7_print_L25 {g : GG} {r : Int32 × SS} {σ_ : SS} {x1_ : Int32} {k61 : Unit → Option (Int32 × SS)} 
    (hw_ : WT σ_)
    (hk61 : k61 () = some r → RR g mX7_print (FinR g mX7_print (some (.int r.1)) NF r.2) zF 61 [(0, .ref (ad g 1)), (1, .int x1_)] [] σ_)
    (n : Nat) : ∀ (v2_ : Int32), X7_print_L25 σ_ k61 n v2_ = some r → RR g mX7_print (FinR g mX7_print (some (.int r.1)) NF r.2) zF 25 [(0, .ref (ad g 1)), (1, .int x1_), (2, .int v2_)] [] σ_ := by
  unfold X7_print_L25
  refine lp_ind (P := fun (rec : Int32 → Option (Int32 × SS)) => ∀ (v2_ : Int32), rec v2_ = some r → RR g mX7_print (FinR g mX7_print (some (.int r.1)) NF r.2) zF 25 [(0, .ref (ad g 1)), (1, .int x1_), (2, .int v2_)] [] σ_) ?_ ?_ n
  · intro v2_ hr; cases hr
  intro rec ih v2_ hr
  refine r_iload_n (pc := 25) (j := 2) dX7_print_25 rfl rfl ?_
  refine r_iconst (pc := 26) (v := (4 : Int32)) dX7_print_26 rfl ?_
  refine r_icmp_ge (pc := 27) (tgt := 61) dX7_print_27 rfl (fun hc => ?_) (fun hc => ?_)
  · replace hr := ite_t hc hr
    exact r_pick (ls1 := [(0, .ref (ad g 1)), (1, .int x1_)]) [0, 1] rfl (hk61  hr)
  replace hr := ite_f hc hr
  refine r_aload_n (pc := 30) (j := 0) dX7_print_30 rfl rfl ?_
  refine gf7_2 (pc := 31) tw_2_105 hw_ dX7_print_31 ?_
  refine r_aload_n (pc := 34) (j := 0) dX7_print_34 rfl rfl ?_
  refine gf7_9 (pc := 35) tw_2_112 hw_ dX7_print_35 ?_
  refine r_iload_n (pc := 38) (j := 2) dX7_print_38 rfl rfl ?_
  obtain ⟨h1, hr⟩ := grd_inv hr
  refine x_iald (pc := 39) (k := (Int32.toNatClampNeg v2_)) rfl h1 rfl dX7_print_39 ?_
  refine r_aload_n (pc := 40) (j := 0) dX7_print_40 rfl rfl ?_
  refine gf7_10 (pc := 41) tw_2_113 hw_ dX7_print_41 ?_
  refine r_iload_n (pc := 44) (j := 2) dX7_print_44 rfl rfl ?_
  refine x_iald (pc := 45) (k := (Int32.toNatClampNeg v2_)) rfl h1 rfl dX7_print_45 ?_
  refine kX6_holdsRound (pc := 46) (hf := rfl) (wt_sc hw_).1 tw_3_85 ⟨nle rfl, nle rfl⟩ (nle rfl) dX7_print_46 ?_
  refine r_ifB_ne (pc := 49) (tgt := 55) dX7_print_49 rfl (fun hc => ?_) (fun hc => ?_)
  · replace hr := ite_t hc hr
    refine r_iinc (pc := 55) (j := 2) (v := (v2_ + (1 : Int32))) (ls1 := [(2, .int (v2_ + (1 : Int32))), (0, .ref (ad g 1)), (1, .int x1_)]) dX7_print_55 rfl rfl (nle rfl) rfl ?_
    refine r_goto (pc := 58) (tgt := 25) dX7_print_58 rfl ?_
    exact r_pick (ls1 := [(0, .ref (ad g 1)), (1, .int x1_), (2, .int (v2_ + (1 : Int32)))]) [1, 2, 0] rfl (ih (v2_ + (1 : Int32)) hr)
  replace hr := ite_f hc hr
  refine r_bipush (pc := 52) (v := (-2 : Int32)) dX7_print_52 rfl ?_
  exact l_osi hr (r_iret (pc := 54) (v := (-2 : Int32)) rfl rfl ⟨Nat.le_refl _, Nat.le_refl _⟩ dX7_print_54)

set_option maxRecDepth 20000 in
theorem sX7_print_L92 {g : GG} {r : Int32 × SS} {x1_ : Int32} {k144 : SS → Option (Int32 × SS)} 
    (hk144 : ∀ (σ_ : SS), k144 σ_ = some r → WT σ_ → RR g mX7_print (FinR g mX7_print (some (.int r.1)) NF r.2) zF 144 [(0, .ref (ad g 1)), (1, .int x1_), (2, .ref (ad g 45))] [] σ_)
    (n : Nat) : ∀ (v3_ : Int32) (σ_ : SS), X7_print_L92 k144 n v3_ σ_ = some r → WT σ_ → RR g mX7_print (FinR g mX7_print (some (.int r.1)) NF r.2) zF 92 [(0, .ref (ad g 1)), (1, .int x1_), (2, .ref (ad g 45)), (3, .int v3_)] [] σ_ := by
  unfold X7_print_L92
  refine lp_ind (P := fun (rec : Int32 → SS → Option (Int32 × SS)) => ∀ (v3_ : Int32) (σ_ : SS), rec v3_ σ_ = some r → WT σ_ → RR g mX7_print (FinR g mX7_print (some (.int r.1)) NF r.2) zF 92 [(0, .ref (ad g 1)), (1, .int x1_), (2, .ref (ad g 45)), (3, .int v3_)] [] σ_) ?_ ?_ n
  · intro v3_ σ_ hr; cases hr
  intro rec ih v3_ σ_ hr hw_
  refine r_iload_n (pc := 92) (j := 3) dX7_print_92 rfl rfl ?_
  refine r_iconst (pc := 93) (v := (4 : Int32)) dX7_print_93 rfl ?_
  refine r_icmp_ge (pc := 94) (tgt := 144) dX7_print_94 rfl (fun hc => ?_) (fun hc => ?_)
  · replace hr := ite_t hc hr
    exact r_pick (ls1 := [(0, .ref (ad g 1)), (1, .int x1_), (2, .ref (ad g 45))]) [0, 1, 2] rfl (hk144 σ_ hr hw_)
  replace hr := ite_f hc hr
  refine r_aload_n (pc := 97) (j := 0) dX7_print_97 rfl rfl ?_
  refine gf7_2 (pc := 98) tw_2_105 hw_ dX7_print_98 ?_
  refine r_aload_n (pc := 101) (j := 0) dX7_print_101 rfl rfl ?_
  refine gf7_9 (pc := 102) tw_2_112 hw_ dX7_print_102 ?_
  refine r_iload_n (pc := 105) (j := 3) dX7_print_105 rfl rfl ?_
  obtain ⟨h3, hr⟩ := grd_inv hr
  refine x_iald (pc := 106) (k := (Int32.toNatClampNeg v3_)) rfl h3 rfl dX7_print_106 ?_
  refine r_aload_n (pc := 107) (j := 0) dX7_print_107 rfl rfl ?_
  refine gf7_10 (pc := 108) tw_2_113 hw_ dX7_print_108 ?_
  refine r_iload_n (pc := 111) (j := 3) dX7_print_111 rfl rfl ?_
  refine x_iald (pc := 112) (k := (Int32.toNatClampNeg v3_)) rfl h3 rfl dX7_print_112 ?_
  refine r_bipush (pc := 113) (v := (9 : Int32)) dX7_print_113 rfl ?_
  obtain ⟨σ4, eσ4, hr⟩ := bnd1_inv hr
  refine kX6_putRound (pc := 115) eσ4 (wt_sc hw_).1 tw_3_89 ⟨nle rfl, nle rfl⟩ (nle rfl) dX7_print_115 fun hσ4 => ?_
  refine r_aload_n (pc := 118) (j := 2) dX7_print_118 rfl rfl ?_
  refine r_iload_n (pc := 119) (j := 3) dX7_print_119 rfl rfl ?_
  refine r_aload_n (pc := 120) (j := 0) dX7_print_120 rfl rfl ?_
  refine gf7_9 (pc := 121) tw_2_112 hσ4 dX7_print_121 ?_
  refine r_iload_n (pc := 124) (j := 3) dX7_print_124 rfl rfl ?_
  refine x_iald (pc := 125) (k := (Int32.toNatClampNeg v3_)) rfl h3 rfl dX7_print_125 ?_
  refine r_i2l (pc := 126) dX7_print_126 ?_
  refine r_aload_n (pc := 127) (j := 0) dX7_print_127 rfl rfl ?_
  refine gf7_10 (pc := 128) tw_2_113 hσ4 dX7_print_128 ?_
  refine r_iload_n (pc := 131) (j := 3) dX7_print_131 rfl rfl ?_
  refine x_iald (pc := 132) (k := (Int32.toNatClampNeg v3_)) rfl h3 rfl dX7_print_132 ?_
  refine r_i2l (pc := 133) dX7_print_133 ?_
  refine r_lconst (pc := 134) (v := (1 : Int64)) dX7_print_134 rfl ?_
  obtain ⟨σ5, eσ5, hr⟩ := bnd1_inv hr
  refine kX5_put (pc := 135) eσ5 tw_3_94 ⟨nle rfl, nle rfl⟩ (nle rfl) dX7_print_135 fun hσ5 => ?_
  refine r_iinc (pc := 138) (j := 3) (v := (v3_ + (1 : Int32))) (ls1 := [(3, .int (v3_ + (1 : Int32))), (0, .ref (ad g 1)), (1, .int x1_), (2, .ref (ad g 45))]) dX7_print_138 rfl rfl (nle rfl) rfl ?_
  refine r_goto (pc := 141) (tgt := 92) dX7_print_141 rfl ?_
  exact r_pick (ls1 := [(0, .ref (ad g 1)), (1, .int x1_), (2, .ref (ad g 45)), (3, .int (v3_ + (1 : Int32)))]) [1, 2, 3, 0] rfl (ih (v3_ + (1 : Int32)) σ5 hr hσ5)

set_option maxRecDepth 20000 in
theorem sX7_print_L178 {g : GG} {r : Int32 × SS} {u1_ : Int32} {u3_ : Int32} {k230 : SS → Option (Int32 × SS)} 
    (hk230 : ∀ (σ_ : SS), k230 σ_ = some r → WT σ_ → RR g mX7_print (FinR g mX7_print (some (.int r.1)) NF r.2) zF 230 [(0, .ref (ad g 1)), (1, .int u1_), (3, .int u3_)] [] σ_)
    (n : Nat) : ∀ (v4_ : Int32) (σ_ : SS), X7_print_L178 u1_ u3_ k230 n v4_ σ_ = some r → WT σ_ → RR g mX7_print (FinR g mX7_print (some (.int r.1)) NF r.2) zF 178 [(0, .ref (ad g 1)), (1, .int u1_), (3, .int u3_), (4, .int v4_)] [] σ_ := by
  unfold X7_print_L178
  refine lp_ind (P := fun (rec : Int32 → SS → Option (Int32 × SS)) => ∀ (v4_ : Int32) (σ_ : SS), rec v4_ σ_ = some r → WT σ_ → RR g mX7_print (FinR g mX7_print (some (.int r.1)) NF r.2) zF 178 [(0, .ref (ad g 1)), (1, .int u1_), (3, .int u3_), (4, .int v4_)] [] σ_) ?_ ?_ n
  · intro v4_ σ_ hr; cases hr
  intro rec ih v4_ σ_ hr hw_
  refine r_iload (pc := 178) (j := 3) dX7_print_178 rfl ?_
  refine r_aload_n (pc := 180) (j := 0) dX7_print_180 rfl rfl ?_
  refine gf7_5 (pc := 181) tw_2_108 hw_ dX7_print_181 ?_
  refine gf1_9 (pc := 184) tw_1_91 hw_ (wt_fo hw_).1 dX7_print_184 ?_
  refine r_iload_n (pc := 187) (j := 2) dX7_print_187 rfl rfl ?_
  obtain ⟨h11, hr⟩ := grd_inv hr
  refine x_iald (pc := 188) (k := (Int32.toNatClampNeg u3_)) (sh1_9 (wt_fo hw_).1) h11 rfl dX7_print_188 ?_
  refine r_icmp_ge (pc := 189) (tgt := 230) dX7_print_189 rfl (fun hc => ?_) (fun hc => ?_)
  · replace hr := ite_t hc hr
    exact r_pick (ls1 := [(0, .ref (ad g 1)), (1, .int u1_), (3, .int u3_)]) [0, 1, 2] rfl (hk230 σ_ hr hw_)
  replace hr := ite_f hc hr
  refine r_aload_n (pc := 192) (j := 0) dX7_print_192 rfl rfl ?_
  refine gf7_11 (pc := 193) tw_2_114 hw_ dX7_print_193 ?_
  refine r_iload_n (pc := 196) (j := 2) dX7_print_196 rfl rfl ?_
  refine x_iald (pc := 197) (k := (Int32.toNatClampNeg u3_)) rfl h11 rfl dX7_print_197 ?_
  refine r_iload (pc := 198) (j := 3) dX7_print_198 rfl ?_
  refine r_ishr (pc := 200) dX7_print_200 ?_
  refine r_iconst (pc := 201) (v := (1 : Int32)) dX7_print_201 rfl ?_
  refine r_iand (pc := 202) dX7_print_202 ?_
  refine r_iconst (pc := 203) (v := (1 : Int32)) dX7_print_203 rfl ?_
  refine r_icmp_ne (pc := 204) (tgt := 224) dX7_print_204 rfl (fun hc => ?_) (fun hc => ?_)
  · replace hr := ite_f hc hr
    refine r_iinc (pc := 224) (j := 3) (v := (v4_ + (1 : Int32))) (ls1 := [(4, .int (v4_ + (1 : Int32))), (0, .ref (ad g 1)), (1, .int u1_), (3, .int u3_)]) dX7_print_224 rfl rfl (nle rfl) rfl ?_
    refine r_goto (pc := 227) (tgt := 178) dX7_print_227 rfl ?_
    exact r_pick (ls1 := [(0, .ref (ad g 1)), (1, .int u1_), (3, .int u3_), (4, .int (v4_ + (1 : Int32)))]) [1, 2, 3, 0] rfl (ih (v4_ + (1 : Int32)) σ_ hr hw_)
  replace hr := ite_t hc hr
  refine r_aload_n (pc := 207) (j := 0) dX7_print_207 rfl rfl ?_
  refine r_aload_n (pc := 208) (j := 0) dX7_print_208 rfl rfl ?_
  refine gf7_5 (pc := 209) tw_2_108 hw_ dX7_print_209 ?_
  refine gf1_8 (pc := 212) tw_1_88 hw_ (wt_fo hw_).1 dX7_print_212 ?_
  refine r_iload_n (pc := 215) (j := 2) dX7_print_215 rfl rfl ?_
  refine x_iald (pc := 216) (k := (Int32.toNatClampNeg u3_)) (sh1_8 (wt_fo hw_).1) h11 rfl dX7_print_216 ?_
  refine r_iload (pc := 217) (j := 3) dX7_print_217 rfl ?_
  refine r_iadd (pc := 219) dX7_print_219 ?_
  refine r_iload_n (pc := 220) (j := 1) dX7_print_220 rfl rfl ?_
  obtain ⟨σ12, eσ12, hr⟩ := bnd1_inv hr
  refine kX7_inkBox (pc := 221) eσ12 tw_3_96 ⟨nle rfl, nle rfl⟩ (nle rfl) dX7_print_221 fun hσ12 => ?_
  refine r_iinc (pc := 224) (j := 3) (v := (v4_ + (1 : Int32))) (ls1 := [(4, .int (v4_ + (1 : Int32))), (0, .ref (ad g 1)), (1, .int u1_), (3, .int u3_)]) dX7_print_224 rfl rfl (nle rfl) rfl ?_
  refine r_goto (pc := 227) (tgt := 178) dX7_print_227 rfl ?_
  exact r_pick (ls1 := [(0, .ref (ad g 1)), (1, .int u1_), (3, .int u3_), (4, .int (v4_ + (1 : Int32)))]) [1, 2, 3, 0] rfl (ih (v4_ + (1 : Int32)) σ12 hr hσ12)

set_option maxRecDepth 20000 in
theorem sX7_print_L164 {g : GG} {r : Int32 × SS} {u1_ : Int32}  
    (n : Nat) : ∀ (v3_ : Int32) (σ_ : SS), X7_print_L164 u1_ n v3_ σ_ = some r → WT σ_ → RR g mX7_print (FinR g mX7_print (some (.int r.1)) NF r.2) zF 164 [(0, .ref (ad g 1)), (1, .int u1_), (3, .int v3_)] [] σ_ := by
  unfold X7_print_L164
  refine lp_ind (P := fun (rec : Int32 → SS → Option (Int32 × SS)) => ∀ (v3_ : Int32) (σ_ : SS), rec v3_ σ_ = some r → WT σ_ → RR g mX7_print (FinR g mX7_print (some (.int r.1)) NF r.2) zF 164 [(0, .ref (ad g 1)), (1, .int u1_), (3, .int v3_)] [] σ_) ?_ ?_ n
  · intro v3_ σ_ hr; cases hr
  intro rec ih v3_ σ_ hr hw_
  refine r_iload_n (pc := 164) (j := 2) dX7_print_164 rfl rfl ?_
  refine r_aload_n (pc := 165) (j := 0) dX7_print_165 rfl rfl ?_
  refine gf7_5 (pc := 166) tw_2_108 hw_ dX7_print_166 ?_
  refine gf1_5 (pc := 169) tw_1_78 (wt_fo hw_).1 dX7_print_169 ?_
  refine r_icmp_ge (pc := 172) (tgt := 236) dX7_print_172 rfl (fun hc => ?_) (fun hc => ?_)
  · replace hr := ite_t hc hr
    refine r_aload_n (pc := 236) (j := 0) dX7_print_236 rfl rfl ?_
    refine gf7_2 (pc := 237) tw_2_105 hw_ dX7_print_237 ?_
    refine r_iconst (pc := 240) (v := (1 : Int32)) dX7_print_240 rfl ?_
    obtain ⟨v8, hv8, hr⟩ := bnd1_inv hr
    refine kX6_notBelow (pc := 241) hv8 (wt_sc hw_).1 tw_2_150 ⟨nle rfl, nle rfl⟩ (nle rfl) dX7_print_241 ?_
    exact l_osi hr (r_iret (pc := 244) (v := v8) rfl rfl ⟨Nat.le_refl _, Nat.le_refl _⟩ dX7_print_244)
  replace hr := ite_f hc hr
  refine r_iconst (pc := 175) (v := (0 : Int32)) dX7_print_175 rfl ?_
  refine r_istore (pc := 176) (ls1 := [(4, .int (0 : Int32)), (0, .ref (ad g 1)), (1, .int u1_), (3, .int v3_)]) dX7_print_176 (nle rfl) rfl ?_
  refine r_pick (ls1 := [(0, .ref (ad g 1)), (1, .int u1_), (3, .int v3_), (4, .int (0 : Int32))]) [1, 2, 3, 0] rfl ?_
  refine sX7_print_L178    (fun σ13 hr hσ13 => ?_) fuel (0 : Int32) σ_ hr hw_
  refine r_iinc (pc := 230) (j := 2) (v := (v3_ + (1 : Int32))) (ls1 := [(3, .int (v3_ + (1 : Int32))), (0, .ref (ad g 1)), (1, .int u1_)]) dX7_print_230 rfl rfl (nle rfl) rfl ?_
  refine r_goto (pc := 233) (tgt := 164) dX7_print_233 rfl ?_
  exact r_pick (ls1 := [(0, .ref (ad g 1)), (1, .int u1_), (3, .int (v3_ + (1 : Int32)))]) [1, 2, 0] rfl (ih (v3_ + (1 : Int32)) σ13 hr hσ13)

set_option maxRecDepth 20000 in
theorem sX7_print {g : GG} {σ : SS} {a1 : Int32} {r : Int32 × SS} (hr : fX7_print σ a1 = some r)  : Ct g mX7_print [.ref (ad g 1), .int a1] NF σ (some (.int r.1)) NF r.2 := by
  refine Ct.of (by decide +kernel) (nle rfl) fun hw0 => ?_
  have hw := hw0 rfl
  unfold fX7_print at hr
  change RR g mX7_print (FinR g mX7_print (some (.int r.1)) NF r.2) zF 0 [(0, .ref (ad g 1)), (1, .int a1)] [] σ
  refine r_aload_n (pc := 0) (j := 0) dX7_print_0 rfl rfl ?_
  refine gf7_5 (pc := 1) tw_2_108 hw dX7_print_1 ?_
  refine gf1_0 (pc := 4) tw_1_60 (wt_fo hw).1 dX7_print_4 ?_
  refine r_if_eq (pc := 7) (tgt := 21) dX7_print_7 rfl (fun hc => ?_) (fun hc => ?_)
  · replace hr := ite_t hc hr
    refine r_iconst (pc := 21) (v := (-1 : Int32)) dX7_print_21 rfl ?_
    exact l_osi hr (r_iret (pc := 22) (v := (-1 : Int32)) rfl rfl ⟨Nat.le_refl _, Nat.le_refl _⟩ dX7_print_22)
  replace hr := ite_f hc hr
  refine r_iload_n (pc := 10) (j := 1) dX7_print_10 rfl rfl ?_
  refine r_iconst (pc := 11) (v := (1 : Int32)) dX7_print_11 rfl ?_
  refine r_icmp_lt (pc := 12) (tgt := 21) dX7_print_12 rfl (fun hc => ?_) (fun hc => ?_)
  · replace hr := ite_t hc hr
    refine r_iconst (pc := 21) (v := (-1 : Int32)) dX7_print_21 rfl ?_
    exact l_osi hr (r_iret (pc := 22) (v := (-1 : Int32)) rfl rfl ⟨Nat.le_refl _, Nat.le_refl _⟩ dX7_print_22)
  replace hr := ite_f hc hr
  refine r_iload_n (pc := 15) (j := 1) dX7_print_15 rfl rfl ?_
  refine r_bipush (pc := 16) (v := (9 : Int32)) dX7_print_16 rfl ?_
  refine r_icmp_le (pc := 18) (tgt := 23) dX7_print_18 rfl (fun hc => ?_) (fun hc => ?_)
  · replace hr := ite_t hc hr
    refine r_iconst (pc := 23) (v := (0 : Int32)) dX7_print_23 rfl ?_
    refine r_istore_n (pc := 24) (ls1 := [(2, .int (0 : Int32)), (0, .ref (ad g 1)), (1, .int a1)]) dX7_print_24 rfl (nle rfl) rfl ?_
    refine r_pick (ls1 := [(0, .ref (ad g 1)), (1, .int a1), (2, .int (0 : Int32))]) [1, 2, 0] rfl ?_
    refine sX7_print_L25  hw  (fun hr => ?_) fuel (0 : Int32) hr
    refine r_aload_n (pc := 61) (j := 0) dX7_print_61 rfl rfl ?_
    refine gf7_2 (pc := 62) tw_2_105 hw dX7_print_62 ?_
    refine r_aload_n (pc := 65) (j := 0) dX7_print_65 rfl rfl ?_
    refine gf7_2 (pc := 66) tw_2_105 hw dX7_print_66 ?_
    refine gf6_0 (pc := 69) tw_1_34 (wt_sc hw).1 dX7_print_69 ?_
    refine r_aload_n (pc := 72) (j := 0) dX7_print_72 rfl rfl ?_
    refine gf7_2 (pc := 73) tw_2_105 hw dX7_print_73 ?_
    refine gf6_1 (pc := 76) tw_1_37 (wt_sc hw).1 dX7_print_76 ?_
    obtain ⟨σ2, eσ2, hr⟩ := bnd1_inv hr
    refine kX6_empty (pc := 79) eσ2 (wt_sc hw).1 tw_2_96 ⟨nle rfl, nle rfl⟩ (nle rfl) dX7_print_79 fun hσ2 => ?_
    refine r_aload_n (pc := 82) (j := 0) dX7_print_82 rfl rfl ?_
    refine gf7_12 (pc := 83) tw_2_115 hσ2 dX7_print_83 ?_
    refine gf3_3 (pc := 86) tw_2_27 hσ2 dX7_print_86 ?_
    refine r_astore_n (pc := 89) (ls1 := [(2, .ref (ad g 45)), (0, .ref (ad g 1)), (1, .int a1)]) dX7_print_89 rfl (nle rfl) rfl ?_
    refine r_iconst (pc := 90) (v := (0 : Int32)) dX7_print_90 rfl ?_
    refine r_istore_n (pc := 91) (ls1 := [(3, .int (0 : Int32)), (2, .ref (ad g 45)), (0, .ref (ad g 1)), (1, .int a1)]) dX7_print_91 rfl (nle rfl) rfl ?_
    refine r_pick (ls1 := [(0, .ref (ad g 1)), (1, .int a1), (2, .ref (ad g 45)), (3, .int (0 : Int32))]) [2, 3, 1, 0] rfl ?_
    refine sX7_print_L92    (fun σ6 hr hσ6 => ?_) fuel (0 : Int32) σ2 hr hσ2
    refine r_aload_n (pc := 144) (j := 2) dX7_print_144 rfl rfl ?_
    refine r_aload_n (pc := 145) (j := 0) dX7_print_145 rfl rfl ?_
    refine gf7_5 (pc := 146) tw_2_108 hσ6 dX7_print_146 ?_
    refine gf1_1 (pc := 149) tw_1_64 (wt_fo hσ6).1 dX7_print_149 ?_
    refine r_aload_n (pc := 152) (j := 0) dX7_print_152 rfl rfl ?_
    refine gf7_5 (pc := 153) tw_2_108 hσ6 dX7_print_153 ?_
    refine gf1_2 (pc := 156) tw_1_68 (wt_fo hσ6).1 dX7_print_156 ?_
    obtain ⟨σ7, eσ7, hr⟩ := bnd1_inv hr
    refine kX5_spread (pc := 159) eσ7 tw_3_95 ⟨nle rfl, nle rfl⟩ (nle rfl) dX7_print_159 fun hσ7 => ?_
    refine r_iconst (pc := 162) (v := (0 : Int32)) dX7_print_162 rfl ?_
    refine r_istore_n (pc := 163) (ls1 := [(3, .int (0 : Int32)), (0, .ref (ad g 1)), (1, .int a1), (2, .ref (ad g 45))]) dX7_print_163 rfl (nle rfl) rfl ?_
    refine r_pick (ls1 := [(0, .ref (ad g 1)), (1, .int a1), (3, .int (0 : Int32))]) [1, 2, 0] rfl ?_
    refine sX7_print_L164     fuel (0 : Int32) σ7 hr hσ7
  replace hr := ite_f hc hr
  refine r_iconst (pc := 21) (v := (-1 : Int32)) dX7_print_21 rfl ?_
  exact l_osi hr (r_iret (pc := 22) (v := (-1 : Int32)) rfl rfl ⟨Nat.le_refl _, Nat.le_refl _⟩ dX7_print_22)

theorem kX7_print {g : GG} {σ : SS} {a1 : Int32} {v : Int32} {σ2 : SS} {M : MM} {F : State → Array Value → List Frame → State → Prop} {pc index : Nat} {ls : List (Nat × Value)} {rest : List Value} (hf : fX7_print σ a1 = some (v, σ2))  (hl : Cond.methodLink M.1.cls index yX7_print ∈ lw_gt) (hR : mX7_print.2.2.2.2.frames + 1 ≤ M.2.2.2.2.frames ∧ 8 + (mX7_print.2.2.1 + 11) + mX7_print.2.2.2.2.locals ≤ M.2.2.2.2.locals) (hrest : (rest.map fun v => v.category).sum ≤ 8) (hd : decode M.2.1 pc = .ok (.invokevirtual index, 3)) (k : WT σ2 → RR g M F zF (pc + 3) ls (.int v :: rest) σ2) : RR g M F zF pc ls (.int a1 :: .ref (ad g 1) :: rest) σ :=
  r_callV (z := zF) (N := mX7_print) (nn := 1) (o1 := some (.int v)) (sX7_print hf ) (rfl : shp 1 = (7, 0)) (by decide) (shp_le (rfl : shp 1 = (7, 0)) (nle rfl)) (ci := 7) rfl rfl tw_3_84 tw_1_1 hl tw_3_82 tw_3_83 ⟨by decide, by decide, rfl⟩ hR rfl hrest hd ⟨Nat.zero_le _, Nat.zero_le _⟩ rfl (fun h => k (h rfl))

theorem dX7_level_0 : decode cX7_level 0 = .ok (.iconst 1, 1) := by decide +kernel
theorem dX7_level_1 : decode cX7_level 1 = .ok (.istore_n 1, 1) := by decide +kernel
theorem dX7_level_2 : decode cX7_level 2 = .ok (.lconst 0, 1) := by decide +kernel
theorem dX7_level_3 : decode cX7_level 3 = .ok (.lstore_n 2, 1) := by decide +kernel
theorem dX7_level_4 : decode cX7_level 4 = .ok (.lconst 0, 1) := by decide +kernel
theorem dX7_level_5 : decode cX7_level 5 = .ok (.lstore 4, 2) := by decide +kernel
theorem dX7_level_7 : decode cX7_level 7 = .ok (.lconst 1, 1) := by decide +kernel
theorem dX7_level_8 : decode cX7_level 8 = .ok (.lstore 6, 2) := by decide +kernel
theorem dX7_level_10 : decode cX7_level 10 = .ok (.iconst 1, 1) := by decide +kernel
theorem dX7_level_11 : decode cX7_level 11 = .ok (.istore 8, 2) := by decide +kernel
theorem dX7_level_13 : decode cX7_level 13 = .ok (.iload 8, 2) := by decide +kernel
theorem dX7_level_15 : decode cX7_level 15 = .ok (.bipush 9, 2) := by decide +kernel
theorem dX7_level_17 : decode cX7_level 17 = .ok (.if_icmp .gt 149, 3) := by decide +kernel
theorem dX7_level_20 : decode cX7_level 20 = .ok (.aload_n 0, 1) := by decide +kernel
theorem dX7_level_21 : decode cX7_level 21 = .ok (.getfield 18, 3) := by decide +kernel
theorem dX7_level_24 : decode cX7_level 24 = .ok (.iload 8, 2) := by decide +kernel
theorem dX7_level_26 : decode cX7_level 26 = .ok (.invokevirtual 114, 3) := by decide +kernel
theorem dX7_level_29 : decode cX7_level 29 = .ok (.i2l, 1) := by decide +kernel
theorem dX7_level_30 : decode cX7_level 30 = .ok (.lstore 9, 2) := by decide +kernel
theorem dX7_level_32 : decode cX7_level 32 = .ok (.aload_n 0, 1) := by decide +kernel
theorem dX7_level_33 : decode cX7_level 33 = .ok (.getfield 18, 3) := by decide +kernel
theorem dX7_level_36 : decode cX7_level 36 = .ok (.invokevirtual 403, 3) := by decide +kernel
theorem dX7_level_39 : decode cX7_level 39 = .ok (.i2l, 1) := by decide +kernel
theorem dX7_level_40 : decode cX7_level 40 = .ok (.lload 9, 2) := by decide +kernel
theorem dX7_level_42 : decode cX7_level 42 = .ok (.lsub, 1) := by decide +kernel
theorem dX7_level_43 : decode cX7_level 43 = .ok (.lstore 11, 2) := by decide +kernel
theorem dX7_level_45 : decode cX7_level 45 = .ok (.aload_n 0, 1) := by decide +kernel
theorem dX7_level_46 : decode cX7_level 46 = .ok (.getfield 18, 3) := by decide +kernel
theorem dX7_level_49 : decode cX7_level 49 = .ok (.iload 8, 2) := by decide +kernel
theorem dX7_level_51 : decode cX7_level 51 = .ok (.invokevirtual 118, 3) := by decide +kernel
theorem dX7_level_54 : decode cX7_level 54 = .ok (.i2l, 1) := by decide +kernel
theorem dX7_level_55 : decode cX7_level 55 = .ok (.lstore 13, 2) := by decide +kernel
theorem dX7_level_57 : decode cX7_level 57 = .ok (.aload_n 0, 1) := by decide +kernel
theorem dX7_level_58 : decode cX7_level 58 = .ok (.getfield 18, 3) := by decide +kernel
theorem dX7_level_61 : decode cX7_level 61 = .ok (.iconst 0, 1) := by decide +kernel
theorem dX7_level_62 : decode cX7_level 62 = .ok (.invokevirtual 118, 3) := by decide +kernel
theorem dX7_level_65 : decode cX7_level 65 = .ok (.i2l, 1) := by decide +kernel
theorem dX7_level_66 : decode cX7_level 66 = .ok (.lload 13, 2) := by decide +kernel
theorem dX7_level_68 : decode cX7_level 68 = .ok (.lsub, 1) := by decide +kernel
theorem dX7_level_69 : decode cX7_level 69 = .ok (.lstore 15, 2) := by decide +kernel
theorem dX7_level_71 : decode cX7_level 71 = .ok (.lload 11, 2) := by decide +kernel
theorem dX7_level_73 : decode cX7_level 73 = .ok (.lload 9, 2) := by decide +kernel
theorem dX7_level_75 : decode cX7_level 75 = .ok (.lmul, 1) := by decide +kernel
theorem dX7_level_76 : decode cX7_level 76 = .ok (.lstore 17, 2) := by decide +kernel
theorem dX7_level_78 : decode cX7_level 78 = .ok (.lload 17, 2) := by decide +kernel
theorem dX7_level_80 : decode cX7_level 80 = .ok (.lconst 0, 1) := by decide +kernel
theorem dX7_level_81 : decode cX7_level 81 = .ok (.lcmp, 1) := by decide +kernel
theorem dX7_level_82 : decode cX7_level 82 = .ok (.ifCond .le 78, 3) := by decide +kernel
theorem dX7_level_85 : decode cX7_level 85 = .ok (.lload 13, 2) := by decide +kernel
theorem dX7_level_87 : decode cX7_level 87 = .ok (.lload 11, 2) := by decide +kernel
theorem dX7_level_89 : decode cX7_level 89 = .ok (.lmul, 1) := by decide +kernel
theorem dX7_level_90 : decode cX7_level 90 = .ok (.lload 15, 2) := by decide +kernel
theorem dX7_level_92 : decode cX7_level 92 = .ok (.lload 9, 2) := by decide +kernel
theorem dX7_level_94 : decode cX7_level 94 = .ok (.lmul, 1) := by decide +kernel
theorem dX7_level_95 : decode cX7_level 95 = .ok (.lsub, 1) := by decide +kernel
theorem dX7_level_96 : decode cX7_level 96 = .ok (.lstore 19, 2) := by decide +kernel
theorem dX7_level_98 : decode cX7_level 98 = .ok (.lload 19, 2) := by decide +kernel
theorem dX7_level_100 : decode cX7_level 100 = .ok (.lload 19, 2) := by decide +kernel
theorem dX7_level_102 : decode cX7_level 102 = .ok (.lmul, 1) := by decide +kernel
theorem dX7_level_103 : decode cX7_level 103 = .ok (.lload 17, 2) := by decide +kernel
theorem dX7_level_105 : decode cX7_level 105 = .ok (.ldiv, 1) := by decide +kernel
theorem dX7_level_106 : decode cX7_level 106 = .ok (.lstore 21, 2) := by decide +kernel
theorem dX7_level_108 : decode cX7_level 108 = .ok (.lload 19, 2) := by decide +kernel
theorem dX7_level_110 : decode cX7_level 110 = .ok (.lload 19, 2) := by decide +kernel
theorem dX7_level_112 : decode cX7_level 112 = .ok (.lmul, 1) := by decide +kernel
theorem dX7_level_113 : decode cX7_level 113 = .ok (.lload 17, 2) := by decide +kernel
theorem dX7_level_115 : decode cX7_level 115 = .ok (.lrem, 1) := by decide +kernel
theorem dX7_level_116 : decode cX7_level 116 = .ok (.lstore 23, 2) := by decide +kernel
theorem dX7_level_118 : decode cX7_level 118 = .ok (.lload 21, 2) := by decide +kernel
theorem dX7_level_120 : decode cX7_level 120 = .ok (.lload_n 2, 1) := by decide +kernel
theorem dX7_level_121 : decode cX7_level 121 = .ok (.lcmp, 1) := by decide +kernel
theorem dX7_level_122 : decode cX7_level 122 = .ok (.ifCond .gt 24, 3) := by decide +kernel
theorem dX7_level_125 : decode cX7_level 125 = .ok (.lload 21, 2) := by decide +kernel
theorem dX7_level_127 : decode cX7_level 127 = .ok (.lload_n 2, 1) := by decide +kernel
theorem dX7_level_128 : decode cX7_level 128 = .ok (.lcmp, 1) := by decide +kernel
theorem dX7_level_129 : decode cX7_level 129 = .ok (.ifCond .ne 31, 3) := by decide +kernel
theorem dX7_level_132 : decode cX7_level 132 = .ok (.lload 23, 2) := by decide +kernel
theorem dX7_level_134 : decode cX7_level 134 = .ok (.lload 6, 2) := by decide +kernel
theorem dX7_level_136 : decode cX7_level 136 = .ok (.lmul, 1) := by decide +kernel
theorem dX7_level_137 : decode cX7_level 137 = .ok (.lload 4, 2) := by decide +kernel
theorem dX7_level_139 : decode cX7_level 139 = .ok (.lload 17, 2) := by decide +kernel
theorem dX7_level_141 : decode cX7_level 141 = .ok (.lmul, 1) := by decide +kernel
theorem dX7_level_142 : decode cX7_level 142 = .ok (.lcmp, 1) := by decide +kernel
theorem dX7_level_143 : decode cX7_level 143 = .ok (.ifCond .le 17, 3) := by decide +kernel
theorem dX7_level_146 : decode cX7_level 146 = .ok (.iload 8, 2) := by decide +kernel
theorem dX7_level_148 : decode cX7_level 148 = .ok (.istore_n 1, 1) := by decide +kernel
theorem dX7_level_149 : decode cX7_level 149 = .ok (.lload 21, 2) := by decide +kernel
theorem dX7_level_151 : decode cX7_level 151 = .ok (.lstore_n 2, 1) := by decide +kernel
theorem dX7_level_152 : decode cX7_level 152 = .ok (.lload 23, 2) := by decide +kernel
theorem dX7_level_154 : decode cX7_level 154 = .ok (.lstore 4, 2) := by decide +kernel
theorem dX7_level_156 : decode cX7_level 156 = .ok (.lload 17, 2) := by decide +kernel
theorem dX7_level_158 : decode cX7_level 158 = .ok (.lstore 6, 2) := by decide +kernel
theorem dX7_level_160 : decode cX7_level 160 = .ok (.iinc 8 1, 3) := by decide +kernel
theorem dX7_level_163 : decode cX7_level 163 = .ok (.goto (-150), 3) := by decide +kernel
theorem dX7_level_166 : decode cX7_level 166 = .ok (.iload_n 1, 1) := by decide +kernel
theorem dX7_level_167 : decode cX7_level 167 = .ok (.ireturn, 1) := by decide +kernel
def mX7_level : MM := (yX7_level, cX7_level, 25, Option.some Jvm.ClassFile.FieldType.int, { frames := 1, cells := 0, slots := 0, locals := 23 })
def X7_level_L13 (σ_ : SS)   : Nat → Int32 → Int64 → Int64 → Int64 → Int32 → Option Int32 :=
  lp (fun _ _ _ _ _ => none) fun rec v1_ w2_ w4_ w6_ v8_ =>
    if (9 : Int32) < v8_ then (
      some v1_
      ) else (
      bnd1 (fX6_notBelow σ_ (gR σ_ 1 2) v8_) fun v1 =>
      vthen (Int32.toInt64 v1) fun w4 =>
      vthen ((Int32.toInt64 (fX6_size σ_ (gR σ_ 1 2))) - w4) fun w5 =>
      bnd1 (fX6_sumNotBelow σ_ (gR σ_ 1 2) v8_) fun v6 =>
      vthen (Int32.toInt64 v6) fun w9 =>
      bnd1 (fX6_sumNotBelow σ_ (gR σ_ 1 2) (0 : Int32)) fun v10 =>
      vthen ((Int32.toInt64 v10) - w9) fun w13 =>
      vthen (w5 * w4) fun w14 =>
      if (lg_cmp w14 (0 : Int64)) ≤ 0 then (
        rec v1_ w2_ w4_ w6_ (v8_ + (1 : Int32))
        ) else (
        vthen ((w9 * w5) - (w13 * w4)) fun w15 =>
        grd (nzl w14) <|
        vthen ((w15 * w15) / w14) fun w17 =>
        vthen (lrm (w15 * w15) w14) fun w18 =>
        vthen (fun (_u : Unit) =>
          rec v8_ w17 w18 w14 (v8_ + (1 : Int32))
          ) fun j146 =>
        if 0 < (lg_cmp w17 w2_) then (
          j146 ()
          ) else (
          if (lg_cmp w17 w2_) = 0 then (
            if (lg_cmp (w18 * w6_) (w4_ * w14)) ≤ 0 then (
              rec v1_ w2_ w4_ w6_ (v8_ + (1 : Int32))
              ) else (
              j146 ()
              )
            ) else (
            rec v1_ w2_ w4_ w6_ (v8_ + (1 : Int32))
            )
          )
        )
      )

def fX7_level (σ0 : SS)  : Option Int32 :=
  X7_level_L13 σ0
  fuel (1 : Int32) (0 : Int64) (0 : Int64) (1 : Int64) (1 : Int32)

set_option maxRecDepth 20000 in
theorem sX7_level_L13 {g : GG} {r : Int32} {σ_ : SS} {σ0 : SS}   
    (hw_ : WT σ_)
    (h0_ : σ_ = σ0)
    (n : Nat) : ∀ (v1_ : Int32) (w2_ : Int64) (w4_ : Int64) (w6_ : Int64) (v8_ : Int32), X7_level_L13 σ_ n v1_ w2_ w4_ w6_ v8_ = some r → RR g mX7_level (FinR g mX7_level (some (.int r)) NF σ0) zF 13 [(0, .ref (ad g 1)), (1, .int v1_), (2, .long w2_), (4, .long w4_), (6, .long w6_), (8, .int v8_)] [] σ_ := by
  unfold X7_level_L13
  refine lp_ind (P := fun (rec : Int32 → Int64 → Int64 → Int64 → Int32 → Option Int32) => ∀ (v1_ : Int32) (w2_ : Int64) (w4_ : Int64) (w6_ : Int64) (v8_ : Int32), rec v1_ w2_ w4_ w6_ v8_ = some r → RR g mX7_level (FinR g mX7_level (some (.int r)) NF σ0) zF 13 [(0, .ref (ad g 1)), (1, .int v1_), (2, .long w2_), (4, .long w4_), (6, .long w6_), (8, .int v8_)] [] σ_) ?_ ?_ n
  · intro v1_ w2_ w4_ w6_ v8_ hr; cases hr
  intro rec ih v1_ w2_ w4_ w6_ v8_ hr
  subst h0_
  refine r_iload (pc := 13) (j := 5) dX7_level_13 rfl ?_
  refine r_bipush (pc := 15) (v := (9 : Int32)) dX7_level_15 rfl ?_
  refine r_icmp_gt (pc := 17) (tgt := 166) dX7_level_17 rfl (fun hc => ?_) (fun hc => ?_)
  · replace hr := ite_t hc hr
    refine r_iload_n (pc := 166) (j := 1) dX7_level_166 rfl rfl ?_
    exact l_opi hr (r_iret (pc := 167) (v := v1_) rfl rfl ⟨Nat.le_refl _, Nat.le_refl _⟩ dX7_level_167)
  replace hr := ite_f hc hr
  refine r_aload_n (pc := 20) (j := 0) dX7_level_20 rfl rfl ?_
  refine gf7_2 (pc := 21) tw_2_105 hw_ dX7_level_21 ?_
  refine r_iload (pc := 24) (j := 5) dX7_level_24 rfl ?_
  obtain ⟨v1, hv1, hr⟩ := bnd1_inv hr
  refine kX6_notBelow (pc := 26) hv1 (wt_sc hw_).1 tw_2_150 ⟨nle rfl, nle rfl⟩ (nle rfl) dX7_level_26 ?_
  refine r_i2l (pc := 29) dX7_level_29 ?_
  refine r_topl fun w4 ew4 => ?_
  replace hr := vthen_inv hr w4 ew4
  refine r_lstore (pc := 30) (ls1 := [(9, .long w4), (0, .ref (ad g 1)), (1, .int v1_), (2, .long w2_), (4, .long w4_), (6, .long w6_), (8, .int v8_)]) dX7_level_30 (nle rfl) rfl ?_
  refine r_aload_n (pc := 32) (j := 1) dX7_level_32 rfl rfl ?_
  refine gf7_2 (pc := 33) tw_2_105 hw_ dX7_level_33 ?_
  refine kX6_size (pc := 36) (hf := rfl) (wt_sc hw_).1 tw_3_124 ⟨nle rfl, nle rfl⟩ (nle rfl) dX7_level_36 ?_
  refine r_i2l (pc := 39) dX7_level_39 ?_
  refine r_lload (pc := 40) (j := 0) dX7_level_40 rfl ?_
  refine r_lsub (pc := 42) dX7_level_42 ?_
  refine r_topl fun w5 ew5 => ?_
  replace hr := vthen_inv hr w5 ew5
  refine r_lstore (pc := 43) (ls1 := [(11, .long w5), (9, .long w4), (0, .ref (ad g 1)), (1, .int v1_), (2, .long w2_), (4, .long w4_), (6, .long w6_), (8, .int v8_)]) dX7_level_43 (nle rfl) rfl ?_
  refine r_aload_n (pc := 45) (j := 2) dX7_level_45 rfl rfl ?_
  refine gf7_2 (pc := 46) tw_2_105 hw_ dX7_level_46 ?_
  refine r_iload (pc := 49) (j := 7) dX7_level_49 rfl ?_
  obtain ⟨v6, hv6, hr⟩ := bnd1_inv hr
  refine kX6_sumNotBelow (pc := 51) hv6 (wt_sc hw_).1 tw_2_154 ⟨nle rfl, nle rfl⟩ (nle rfl) dX7_level_51 ?_
  refine r_i2l (pc := 54) dX7_level_54 ?_
  refine r_topl fun w9 ew9 => ?_
  replace hr := vthen_inv hr w9 ew9
  refine r_lstore (pc := 55) (ls1 := [(13, .long w9), (11, .long w5), (9, .long w4), (0, .ref (ad g 1)), (1, .int v1_), (2, .long w2_), (4, .long w4_), (6, .long w6_), (8, .int v8_)]) dX7_level_55 (nle rfl) rfl ?_
  refine r_aload_n (pc := 57) (j := 3) dX7_level_57 rfl rfl ?_
  refine gf7_2 (pc := 58) tw_2_105 hw_ dX7_level_58 ?_
  refine r_iconst (pc := 61) (v := (0 : Int32)) dX7_level_61 rfl ?_
  obtain ⟨v10, hv10, hr⟩ := bnd1_inv hr
  refine kX6_sumNotBelow (pc := 62) hv10 (wt_sc hw_).1 tw_2_154 ⟨nle rfl, nle rfl⟩ (nle rfl) dX7_level_62 ?_
  refine r_i2l (pc := 65) dX7_level_65 ?_
  refine r_lload (pc := 66) (j := 0) dX7_level_66 rfl ?_
  refine r_lsub (pc := 68) dX7_level_68 ?_
  refine r_topl fun w13 ew13 => ?_
  replace hr := vthen_inv hr w13 ew13
  refine r_lstore (pc := 69) (ls1 := [(15, .long w13), (13, .long w9), (11, .long w5), (9, .long w4), (0, .ref (ad g 1)), (1, .int v1_), (2, .long w2_), (4, .long w4_), (6, .long w6_), (8, .int v8_)]) dX7_level_69 (nle rfl) rfl ?_
  refine r_lload (pc := 71) (j := 2) dX7_level_71 rfl ?_
  refine r_lload (pc := 73) (j := 3) dX7_level_73 rfl ?_
  refine r_lmul (pc := 75) dX7_level_75 ?_
  refine r_topl fun w14 ew14 => ?_
  replace hr := vthen_inv hr w14 ew14
  refine r_lstore (pc := 76) (ls1 := [(17, .long w14), (15, .long w13), (13, .long w9), (11, .long w5), (9, .long w4), (0, .ref (ad g 1)), (1, .int v1_), (2, .long w2_), (4, .long w4_), (6, .long w6_), (8, .int v8_)]) dX7_level_76 (nle rfl) rfl ?_
  refine r_lload (pc := 78) (j := 0) dX7_level_78 rfl ?_
  refine r_lconst (pc := 80) (v := (0 : Int64)) dX7_level_80 rfl ?_
  refine r_lcmp (pc := 81) dX7_level_81 ?_
  refine r_if_le (pc := 82) (tgt := 160) dX7_level_82 rfl (fun hc => ?_) (fun hc => ?_)
  · replace hr := ite_t hc hr
    refine r_iinc (pc := 160) (j := 10) (v := (v8_ + (1 : Int32))) (ls1 := [(8, .int (v8_ + (1 : Int32))), (17, .long w14), (15, .long w13), (13, .long w9), (11, .long w5), (9, .long w4), (0, .ref (ad g 1)), (1, .int v1_), (2, .long w2_), (4, .long w4_), (6, .long w6_)]) dX7_level_160 rfl rfl (nle rfl) rfl ?_
    refine r_goto (pc := 163) (tgt := 13) dX7_level_163 rfl ?_
    exact r_pick (ls1 := [(0, .ref (ad g 1)), (1, .int v1_), (2, .long w2_), (4, .long w4_), (6, .long w6_), (8, .int (v8_ + (1 : Int32)))]) [6, 7, 8, 9, 10, 0] rfl (ih v1_ w2_ w4_ w6_ (v8_ + (1 : Int32)) hr)
  replace hr := ite_f hc hr
  refine r_lload (pc := 85) (j := 2) dX7_level_85 rfl ?_
  refine r_lload (pc := 87) (j := 3) dX7_level_87 rfl ?_
  refine r_lmul (pc := 89) dX7_level_89 ?_
  refine r_lload (pc := 90) (j := 1) dX7_level_90 rfl ?_
  refine r_lload (pc := 92) (j := 4) dX7_level_92 rfl ?_
  refine r_lmul (pc := 94) dX7_level_94 ?_
  refine r_lsub (pc := 95) dX7_level_95 ?_
  refine r_topl fun w15 ew15 => ?_
  replace hr := vthen_inv hr w15 ew15
  refine r_lstore (pc := 96) (ls1 := [(19, .long w15), (17, .long w14), (15, .long w13), (13, .long w9), (11, .long w5), (9, .long w4), (0, .ref (ad g 1)), (1, .int v1_), (2, .long w2_), (4, .long w4_), (6, .long w6_), (8, .int v8_)]) dX7_level_96 (nle rfl) rfl ?_
  refine r_lload (pc := 98) (j := 0) dX7_level_98 rfl ?_
  refine r_lload (pc := 100) (j := 0) dX7_level_100 rfl ?_
  refine r_lmul (pc := 102) dX7_level_102 ?_
  refine r_lload (pc := 103) (j := 1) dX7_level_103 rfl ?_
  obtain ⟨h16, hr⟩ := grd_inv hr
  refine r_ldiv (pc := 105) dX7_level_105 (nzl_ne h16) ?_
  refine r_topl fun w17 ew17 => ?_
  replace hr := vthen_inv hr w17 ew17
  refine r_lstore (pc := 106) (ls1 := [(21, .long w17), (19, .long w15), (17, .long w14), (15, .long w13), (13, .long w9), (11, .long w5), (9, .long w4), (0, .ref (ad g 1)), (1, .int v1_), (2, .long w2_), (4, .long w4_), (6, .long w6_), (8, .int v8_)]) dX7_level_106 (nle rfl) rfl ?_
  refine r_lload (pc := 108) (j := 1) dX7_level_108 rfl ?_
  refine r_lload (pc := 110) (j := 1) dX7_level_110 rfl ?_
  refine r_lmul (pc := 112) dX7_level_112 ?_
  refine r_lload (pc := 113) (j := 2) dX7_level_113 rfl ?_
  refine r_lrem (pc := 115) dX7_level_115 (nzl_ne h16) ?_
  refine r_topl fun w18 ew18 => ?_
  replace hr := vthen_inv hr w18 ew18
  refine r_lstore (pc := 116) (ls1 := [(23, .long w18), (21, .long w17), (19, .long w15), (17, .long w14), (15, .long w13), (13, .long w9), (11, .long w5), (9, .long w4), (0, .ref (ad g 1)), (1, .int v1_), (2, .long w2_), (4, .long w4_), (6, .long w6_), (8, .int v8_)]) dX7_level_116 (nle rfl) rfl ?_
  refine r_lload (pc := 118) (j := 1) dX7_level_118 rfl ?_
  refine r_lload_n (pc := 120) (j := 10) dX7_level_120 rfl rfl ?_
  refine r_lcmp (pc := 121) dX7_level_121 ?_
  obtain ⟨j146, ej146, hr⟩ := vth_ex hr
  have hj146 : j146 () = some r → RR g mX7_level (FinR g mX7_level (some (.int r)) NF σ_) zF 146 [(0, .ref (ad g 1)), (8, .int v8_), (17, .long w14), (21, .long w17), (23, .long w18)] [] σ_ := by
    intro  hr
    replace hr := (congrFun ej146 ()).symm.trans hr
    refine r_iload (pc := 146) (j := 1) dX7_level_146 rfl ?_
    refine r_istore_n (pc := 148) (ls1 := [(1, .int v8_), (0, .ref (ad g 1)), (8, .int v8_), (17, .long w14), (21, .long w17), (23, .long w18)]) dX7_level_148 rfl (nle rfl) rfl ?_
    refine r_lload (pc := 149) (j := 4) dX7_level_149 rfl ?_
    refine r_lstore_n (pc := 151) (ls1 := [(2, .long w17), (1, .int v8_), (0, .ref (ad g 1)), (8, .int v8_), (17, .long w14), (21, .long w17), (23, .long w18)]) dX7_level_151 rfl (nle rfl) rfl ?_
    refine r_lload (pc := 152) (j := 6) dX7_level_152 rfl ?_
    refine r_lstore (pc := 154) (ls1 := [(4, .long w18), (2, .long w17), (1, .int v8_), (0, .ref (ad g 1)), (8, .int v8_), (17, .long w14), (21, .long w17), (23, .long w18)]) dX7_level_154 (nle rfl) rfl ?_
    refine r_lload (pc := 156) (j := 5) dX7_level_156 rfl ?_
    refine r_lstore (pc := 158) (ls1 := [(6, .long w14), (4, .long w18), (2, .long w17), (1, .int v8_), (0, .ref (ad g 1)), (8, .int v8_), (17, .long w14), (21, .long w17), (23, .long w18)]) dX7_level_158 (nle rfl) rfl ?_
    refine r_iinc (pc := 160) (j := 5) (v := (v8_ + (1 : Int32))) (ls1 := [(8, .int (v8_ + (1 : Int32))), (6, .long w14), (4, .long w18), (2, .long w17), (1, .int v8_), (0, .ref (ad g 1)), (17, .long w14), (21, .long w17), (23, .long w18)]) dX7_level_160 rfl rfl (nle rfl) rfl ?_
    refine r_goto (pc := 163) (tgt := 13) dX7_level_163 rfl ?_
    exact r_pick (ls1 := [(0, .ref (ad g 1)), (1, .int v8_), (2, .long w17), (4, .long w18), (6, .long w14), (8, .int (v8_ + (1 : Int32)))]) [5, 4, 3, 2, 1, 0] rfl (ih v8_ w17 w18 w14 (v8_ + (1 : Int32)) hr)
  refine r_if_gt (pc := 122) (tgt := 146) dX7_level_122 rfl (fun hc => ?_) (fun hc => ?_)
  · replace hr := ite_t hc hr
    exact r_pick (ls1 := [(0, .ref (ad g 1)), (8, .int v8_), (17, .long w14), (21, .long w17), (23, .long w18)]) [8, 13, 3, 1, 0] rfl (hj146  hr)
  replace hr := ite_f hc hr
  refine r_lload (pc := 125) (j := 1) dX7_level_125 rfl ?_
  refine r_lload_n (pc := 127) (j := 10) dX7_level_127 rfl rfl ?_
  refine r_lcmp (pc := 128) dX7_level_128 ?_
  refine r_if_ne (pc := 129) (tgt := 160) dX7_level_129 rfl (fun hc => ?_) (fun hc => ?_)
  · replace hr := ite_f hc hr
    refine r_iinc (pc := 160) (j := 13) (v := (v8_ + (1 : Int32))) (ls1 := [(8, .int (v8_ + (1 : Int32))), (23, .long w18), (21, .long w17), (19, .long w15), (17, .long w14), (15, .long w13), (13, .long w9), (11, .long w5), (9, .long w4), (0, .ref (ad g 1)), (1, .int v1_), (2, .long w2_), (4, .long w4_), (6, .long w6_)]) dX7_level_160 rfl rfl (nle rfl) rfl ?_
    refine r_goto (pc := 163) (tgt := 13) dX7_level_163 rfl ?_
    exact r_pick (ls1 := [(0, .ref (ad g 1)), (1, .int v1_), (2, .long w2_), (4, .long w4_), (6, .long w6_), (8, .int (v8_ + (1 : Int32)))]) [9, 10, 11, 12, 13, 0] rfl (ih v1_ w2_ w4_ w6_ (v8_ + (1 : Int32)) hr)
  replace hr := ite_t hc hr
  refine r_lload (pc := 132) (j := 0) dX7_level_132 rfl ?_
  refine r_lload (pc := 134) (j := 12) dX7_level_134 rfl ?_
  refine r_lmul (pc := 136) dX7_level_136 ?_
  refine r_lload (pc := 137) (j := 11) dX7_level_137 rfl ?_
  refine r_lload (pc := 139) (j := 3) dX7_level_139 rfl ?_
  refine r_lmul (pc := 141) dX7_level_141 ?_
  refine r_lcmp (pc := 142) dX7_level_142 ?_
  refine r_if_le (pc := 143) (tgt := 160) dX7_level_143 rfl (fun hc => ?_) (fun hc => ?_)
  · replace hr := ite_t hc hr
    refine r_iinc (pc := 160) (j := 13) (v := (v8_ + (1 : Int32))) (ls1 := [(8, .int (v8_ + (1 : Int32))), (23, .long w18), (21, .long w17), (19, .long w15), (17, .long w14), (15, .long w13), (13, .long w9), (11, .long w5), (9, .long w4), (0, .ref (ad g 1)), (1, .int v1_), (2, .long w2_), (4, .long w4_), (6, .long w6_)]) dX7_level_160 rfl rfl (nle rfl) rfl ?_
    refine r_goto (pc := 163) (tgt := 13) dX7_level_163 rfl ?_
    exact r_pick (ls1 := [(0, .ref (ad g 1)), (1, .int v1_), (2, .long w2_), (4, .long w4_), (6, .long w6_), (8, .int (v8_ + (1 : Int32)))]) [9, 10, 11, 12, 13, 0] rfl (ih v1_ w2_ w4_ w6_ (v8_ + (1 : Int32)) hr)
  replace hr := ite_f hc hr
  exact r_pick (ls1 := [(0, .ref (ad g 1)), (8, .int v8_), (17, .long w14), (21, .long w17), (23, .long w18)]) [8, 13, 3, 1, 0] rfl (hj146  hr)

set_option maxRecDepth 20000 in
theorem sX7_level {g : GG} {σ0 : SS}  {r : Int32} (hr : fX7_level σ0 = some r)  : Ct g mX7_level [.ref (ad g 1)] NF σ0 (some (.int r)) NF σ0 := by
  refine Ct.of (by decide +kernel) (nle rfl) fun hw0 => ?_
  have hw := hw0 rfl
  unfold fX7_level at hr
  change RR g mX7_level (FinR g mX7_level (some (.int r)) NF σ0) zF 0 [(0, .ref (ad g 1))] [] σ0
  refine r_iconst (pc := 0) (v := (1 : Int32)) dX7_level_0 rfl ?_
  refine r_istore_n (pc := 1) (ls1 := [(1, .int (1 : Int32)), (0, .ref (ad g 1))]) dX7_level_1 rfl (nle rfl) rfl ?_
  refine r_lconst (pc := 2) (v := (0 : Int64)) dX7_level_2 rfl ?_
  refine r_lstore_n (pc := 3) (ls1 := [(2, .long (0 : Int64)), (1, .int (1 : Int32)), (0, .ref (ad g 1))]) dX7_level_3 rfl (nle rfl) rfl ?_
  refine r_lconst (pc := 4) (v := (0 : Int64)) dX7_level_4 rfl ?_
  refine r_lstore (pc := 5) (ls1 := [(4, .long (0 : Int64)), (2, .long (0 : Int64)), (1, .int (1 : Int32)), (0, .ref (ad g 1))]) dX7_level_5 (nle rfl) rfl ?_
  refine r_lconst (pc := 7) (v := (1 : Int64)) dX7_level_7 rfl ?_
  refine r_lstore (pc := 8) (ls1 := [(6, .long (1 : Int64)), (4, .long (0 : Int64)), (2, .long (0 : Int64)), (1, .int (1 : Int32)), (0, .ref (ad g 1))]) dX7_level_8 (nle rfl) rfl ?_
  refine r_iconst (pc := 10) (v := (1 : Int32)) dX7_level_10 rfl ?_
  refine r_istore (pc := 11) (ls1 := [(8, .int (1 : Int32)), (6, .long (1 : Int64)), (4, .long (0 : Int64)), (2, .long (0 : Int64)), (1, .int (1 : Int32)), (0, .ref (ad g 1))]) dX7_level_11 (nle rfl) rfl ?_
  refine r_pick (ls1 := [(0, .ref (ad g 1)), (1, .int (1 : Int32)), (2, .long (0 : Int64)), (4, .long (0 : Int64)), (6, .long (1 : Int64)), (8, .int (1 : Int32))]) [5, 4, 3, 2, 1, 0] rfl ?_
  refine sX7_level_L13  hw rfl  fuel (1 : Int32) (0 : Int64) (0 : Int64) (1 : Int64) (1 : Int32) hr

theorem kX7_level {g : GG} {σ0 : SS}  {v : Int32} {M : MM} {F : State → Array Value → List Frame → State → Prop} {pc index : Nat} {ls : List (Nat × Value)} {rest : List Value} (hf : fX7_level σ0 = some v)  (hl : Cond.methodLink M.1.cls index yX7_level ∈ lw_gt) (hR : mX7_level.2.2.2.2.frames + 1 ≤ M.2.2.2.2.frames ∧ 8 + (mX7_level.2.2.1 + 11) + mX7_level.2.2.2.2.locals ≤ M.2.2.2.2.locals) (hrest : (rest.map fun v => v.category).sum ≤ 8) (hd : decode M.2.1 pc = .ok (.invokevirtual index, 3)) (k : RR g M F zF (pc + 3) ls (.int v :: rest) σ0) : RR g M F zF pc ls (.ref (ad g 1) :: rest) σ0 :=
  r_callV (z := zF) (N := mX7_level) (nn := 0) (o1 := some (.int v)) (sX7_level hf ) (rfl : shp 1 = (7, 0)) (by decide) (shp_le (rfl : shp 1 = (7, 0)) (nle rfl)) (ci := 7) rfl rfl tw_3_123 tw_1_1 hl tw_3_121 tw_3_122 ⟨by decide, by decide, rfl⟩ hR rfl hrest hd ⟨Nat.zero_le _, Nat.zero_le _⟩ rfl (fun h => k)

theorem dX6_isNothing_0 : decode cX6_isNothing 0 = .ok (.aload_n 0, 1) := by decide +kernel
theorem dX6_isNothing_1 : decode cX6_isNothing 1 = .ok (.getfield 18, 3) := by decide +kernel
theorem dX6_isNothing_4 : decode cX6_isNothing 4 = .ok (.ifCond .ne 7, 3) := by decide +kernel
theorem dX6_isNothing_7 : decode cX6_isNothing 7 = .ok (.iconst 1, 1) := by decide +kernel
theorem dX6_isNothing_8 : decode cX6_isNothing 8 = .ok (.goto 4, 3) := by decide +kernel
theorem dX6_isNothing_11 : decode cX6_isNothing 11 = .ok (.iconst 0, 1) := by decide +kernel
theorem dX6_isNothing_12 : decode cX6_isNothing 12 = .ok (.ireturn, 1) := by decide +kernel
def mX6_isNothing : MM := (yX6_isNothing, cX6_isNothing, 1, Option.some Jvm.ClassFile.FieldType.boolean, { frames := 0, cells := 0, slots := 0, locals := 0 })
def fX6_isNothing (σ0 : SS) (a0 : Nat) : Bool :=
  if (gI σ0 a0 0) = 0 then (
    true
    ) else (
    false
    )

set_option maxRecDepth 20000 in
theorem sX6_isNothing {g : GG} {σ0 : SS} {a0 : Nat} {r : Bool} (hr : fX6_isNothing σ0 a0 = r) (hs0 : shp a0 = (6, 0)) : Ct g mX6_isNothing [.ref (ad g a0)] NF σ0 (some (.int (b2i r))) NF σ0 := by
  refine Ct.of (by decide +kernel) (nle rfl) fun hw0 => ?_
  have hw := hw0 rfl
  unfold fX6_isNothing at hr
  change RR g mX6_isNothing (FinR g mX6_isNothing (some (.int (b2i r))) NF σ0) zF 0 [(0, .ref (ad g a0))] [] σ0
  refine r_aload_n (pc := 0) (j := 0) dX6_isNothing_0 rfl rfl ?_
  refine gf6_0 (pc := 1) tw_1_31 hs0 dX6_isNothing_1 ?_
  refine r_if_ne (pc := 4) (tgt := 11) dX6_isNothing_4 rfl (fun hc => ?_) (fun hc => ?_)
  · replace hr := ite_f hc hr
    refine r_iconst (pc := 11) (v := (0 : Int32)) dX6_isNothing_11 rfl ?_
    exact l_pz hr (r_zret (pc := 12) (v := b2i false) (ty := .boolean) rfl (b2i_nar _) rfl ⟨Nat.le_refl _, Nat.le_refl _⟩ dX6_isNothing_12)
  replace hr := ite_t hc hr
  refine r_iconst (pc := 7) (v := (1 : Int32)) dX6_isNothing_7 rfl ?_
  refine r_goto (pc := 8) (tgt := 12) dX6_isNothing_8 rfl ?_
  exact l_pz hr (r_zret (pc := 12) (v := b2i true) (ty := .boolean) rfl (b2i_nar _) rfl ⟨Nat.le_refl _, Nat.le_refl _⟩ dX6_isNothing_12)

theorem kX6_isNothing {g : GG} {σ0 : SS} {a0 : Nat} {v : Bool} {M : MM} {F : State → Array Value → List Frame → State → Prop} {pc index : Nat} {ls : List (Nat × Value)} {rest : List Value} (hf : fX6_isNothing σ0 a0 = v) (hs0 : shp a0 = (6, 0)) (hl : Cond.methodLink M.1.cls index yX6_isNothing ∈ lw_gt) (hR : mX6_isNothing.2.2.2.2.frames + 1 ≤ M.2.2.2.2.frames ∧ 8 + (mX6_isNothing.2.2.1 + 11) + mX6_isNothing.2.2.2.2.locals ≤ M.2.2.2.2.locals) (hrest : (rest.map fun v => v.category).sum ≤ 8) (hd : decode M.2.1 pc = .ok (.invokevirtual index, 3)) (k : RR g M F zF (pc + 3) ls (.int (b2i v) :: rest) σ0) : RR g M F zF pc ls (.ref (ad g a0) :: rest) σ0 :=
  r_callV (z := zF) (N := mX6_isNothing) (nn := 0) (o1 := some (.int (b2i v))) (sX6_isNothing hf hs0) hs0 (by decide) (shp_le hs0 (nle rfl)) (ci := 6) rfl rfl tw_2_192 tw_1_2 hl tw_2_190 tw_2_191 ⟨by decide, by decide, rfl⟩ hR rfl hrest hd ⟨Nat.zero_le _, Nat.zero_le _⟩ rfl (fun h => k)

theorem dX6_takeAll_0 : decode cX6_takeAll 0 = .ok (.aload_n 0, 1) := by decide +kernel
theorem dX6_takeAll_1 : decode cX6_takeAll 1 = .ok (.aload_n 1, 1) := by decide +kernel
theorem dX6_takeAll_2 : decode cX6_takeAll 2 = .ok (.getfield 18, 3) := by decide +kernel
theorem dX6_takeAll_5 : decode cX6_takeAll 5 = .ok (.putfield 18, 3) := by decide +kernel
theorem dX6_takeAll_8 : decode cX6_takeAll 8 = .ok (.aload_n 0, 1) := by decide +kernel
theorem dX6_takeAll_9 : decode cX6_takeAll 9 = .ok (.aload_n 1, 1) := by decide +kernel
theorem dX6_takeAll_10 : decode cX6_takeAll 10 = .ok (.getfield 22, 3) := by decide +kernel
theorem dX6_takeAll_13 : decode cX6_takeAll 13 = .ok (.putfield 22, 3) := by decide +kernel
theorem dX6_takeAll_16 : decode cX6_takeAll 16 = .ok (.aload_n 1, 1) := by decide +kernel
theorem dX6_takeAll_17 : decode cX6_takeAll 17 = .ok (.getfield 9, 3) := by decide +kernel
theorem dX6_takeAll_20 : decode cX6_takeAll 20 = .ok (.iconst 0, 1) := by decide +kernel
theorem dX6_takeAll_21 : decode cX6_takeAll 21 = .ok (.aload_n 0, 1) := by decide +kernel
theorem dX6_takeAll_22 : decode cX6_takeAll 22 = .ok (.getfield 9, 3) := by decide +kernel
theorem dX6_takeAll_25 : decode cX6_takeAll 25 = .ok (.iconst 0, 1) := by decide +kernel
theorem dX6_takeAll_26 : decode cX6_takeAll 26 = .ok (.sipush 1600, 3) := by decide +kernel
theorem dX6_takeAll_29 : decode cX6_takeAll 29 = .ok (.invokestatic 39, 3) := by decide +kernel
theorem dX6_takeAll_32 : decode cX6_takeAll 32 = .ok (.return_, 1) := by decide +kernel
def mX6_takeAll : MM := (yX6_takeAll, cX6_takeAll, 2, none, { frames := 1, cells := 0, slots := 0, locals := 26 })
def fX6_takeAll (σ : SS) (a0 : Nat) (a1 : Nat) : Option SS :=
  vthen (sI σ a0 0 (gI σ a1 0)) fun σ1 =>
  vthen (sI σ1 a0 1 (gI σ1 a1 1)) fun σ2 =>
  grd (cpOK (0 : Int32) (0 : Int32) (1600 : Int32) 1600 1600) <|
  vthen (cpA σ2 (a1 + 1) (0 : Int32) (a0 + 1) (0 : Int32) (1600 : Int32)) fun σ3 =>
  some σ3

set_option maxRecDepth 20000 in
theorem sX6_takeAll {g : GG} {σ : SS} {a0 : Nat} {a1 : Nat} {r : SS} (hr : fX6_takeAll σ a0 a1 = some r) (hs0 : shp a0 = (6, 0)) (hs1 : shp a1 = (6, 0)) : Ct g mX6_takeAll [.ref (ad g a0), .ref (ad g a1)] NF σ none NF r := by
  refine Ct.of (by decide +kernel) (nle rfl) fun hw0 => ?_
  have hw := hw0 rfl
  unfold fX6_takeAll at hr
  change RR g mX6_takeAll (FinR g mX6_takeAll none NF r) zF 0 [(0, .ref (ad g a0)), (1, .ref (ad g a1))] [] σ
  refine r_aload_n (pc := 0) (j := 0) dX6_takeAll_0 rfl rfl ?_
  refine r_aload_n (pc := 1) (j := 1) dX6_takeAll_1 rfl rfl ?_
  refine gf6_0 (pc := 2) tw_1_31 hs1 dX6_takeAll_2 ?_
  refine pf6_0 (pc := 5) tw_1_31 hs0 dX6_takeAll_5 fun σ1 eσ1 => ?_
  replace hr := vthen_inv hr σ1 eσ1
  have hσ1 := wtI eσ1 hw
  refine r_aload_n (pc := 8) (j := 0) dX6_takeAll_8 rfl rfl ?_
  refine r_aload_n (pc := 9) (j := 1) dX6_takeAll_9 rfl rfl ?_
  refine gf6_1 (pc := 10) tw_1_36 hs1 dX6_takeAll_10 ?_
  refine pf6_1 (pc := 13) tw_1_36 hs0 dX6_takeAll_13 fun σ2 eσ2 => ?_
  replace hr := vthen_inv hr σ2 eσ2
  have hσ2 := wtI eσ2 hσ1
  refine r_aload_n (pc := 16) (j := 1) dX6_takeAll_16 rfl rfl ?_
  refine gf6_2 (pc := 17) tw_1_38 hσ2 hs1 dX6_takeAll_17 ?_
  refine r_iconst (pc := 20) (v := (0 : Int32)) dX6_takeAll_20 rfl ?_
  refine r_aload_n (pc := 21) (j := 0) dX6_takeAll_21 rfl rfl ?_
  refine gf6_2 (pc := 22) tw_1_38 hσ2 hs0 dX6_takeAll_22 ?_
  refine r_iconst (pc := 25) (v := (0 : Int32)) dX6_takeAll_25 rfl ?_
  refine r_sipush (pc := 26) (v := (1600 : Int32)) dX6_takeAll_26 rfl ?_
  obtain ⟨h4, hr⟩ := grd_inv hr
  refine x_cpy (pc := 29) (sh6_2 hs1) (sh6_2 hs0) h4 tw_2_197 ⟨nle rfl, nle rfl⟩ (nle rfl) dX6_takeAll_29 fun σ3 eσ3 => ?_
  replace hr := vthen_inv hr σ3 eσ3
  have hσ3 := wtA eσ3 hσ2
  exact l_ov hr (r_vret (pc := 32) rfl rfl ⟨Nat.le_refl _, Nat.le_refl _⟩ dX6_takeAll_32)

theorem kX6_takeAll {g : GG} {σ : SS} {a0 : Nat} {a1 : Nat} {σ2 : SS} {M : MM} {F : State → Array Value → List Frame → State → Prop} {pc index : Nat} {ls : List (Nat × Value)} {rest : List Value} (hf : fX6_takeAll σ a0 a1 = some σ2) (hs0 : shp a0 = (6, 0)) (hs1 : shp a1 = (6, 0)) (hl : Cond.methodLink M.1.cls index yX6_takeAll ∈ lw_gt) (hR : mX6_takeAll.2.2.2.2.frames + 1 ≤ M.2.2.2.2.frames ∧ 8 + (mX6_takeAll.2.2.1 + 11) + mX6_takeAll.2.2.2.2.locals ≤ M.2.2.2.2.locals) (hrest : (rest.map fun v => v.category).sum ≤ 8) (hd : decode M.2.1 pc = .ok (.invokevirtual index, 3)) (k : WT σ2 → RR g M F zF (pc + 3) ls rest σ2) : RR g M F zF pc ls (.ref (ad g a1) :: .ref (ad g a0) :: rest) σ :=
  r_callV (z := zF) (N := mX6_takeAll) (nn := 1) (o1 := none) (sX6_takeAll hf hs0 hs1) hs0 (by decide) (shp_le hs0 (nle rfl)) (ci := 6) rfl rfl tw_2_196 tw_1_2 hl tw_2_194 tw_2_195 ⟨by decide, by decide, rfl⟩ hR rfl hrest hd ⟨Nat.zero_le _, Nat.zero_le _⟩ rfl (fun h => k (h rfl))

theorem dX7_back_0 : decode cX7_back 0 = .ok (.iload_n 1, 1) := by decide +kernel
theorem dX7_back_1 : decode cX7_back 1 = .ok (.ifCond .lt 20, 3) := by decide +kernel
theorem dX7_back_4 : decode cX7_back 4 = .ok (.iload_n 1, 1) := by decide +kernel
theorem dX7_back_5 : decode cX7_back 5 = .ok (.iconst 3, 1) := by decide +kernel
theorem dX7_back_6 : decode cX7_back 6 = .ok (.if_icmp .ge 15, 3) := by decide +kernel
theorem dX7_back_9 : decode cX7_back 9 = .ok (.aload_n 0, 1) := by decide +kernel
theorem dX7_back_10 : decode cX7_back 10 = .ok (.getfield 25, 3) := by decide +kernel
theorem dX7_back_13 : decode cX7_back 13 = .ok (.iload_n 1, 1) := by decide +kernel
theorem dX7_back_14 : decode cX7_back 14 = .ok (.aaload, 1) := by decide +kernel
theorem dX7_back_15 : decode cX7_back 15 = .ok (.invokevirtual 218, 3) := by decide +kernel
theorem dX7_back_18 : decode cX7_back 18 = .ok (.ifCond .eq 5, 3) := by decide +kernel
theorem dX7_back_21 : decode cX7_back 21 = .ok (.iconst 0, 1) := by decide +kernel
theorem dX7_back_22 : decode cX7_back 22 = .ok (.ireturn, 1) := by decide +kernel
theorem dX7_back_23 : decode cX7_back 23 = .ok (.aload_n 0, 1) := by decide +kernel
theorem dX7_back_24 : decode cX7_back 24 = .ok (.getfield 18, 3) := by decide +kernel
theorem dX7_back_27 : decode cX7_back 27 = .ok (.aload_n 0, 1) := by decide +kernel
theorem dX7_back_28 : decode cX7_back 28 = .ok (.getfield 25, 3) := by decide +kernel
theorem dX7_back_31 : decode cX7_back 31 = .ok (.iload_n 1, 1) := by decide +kernel
theorem dX7_back_32 : decode cX7_back 32 = .ok (.aaload, 1) := by decide +kernel
theorem dX7_back_33 : decode cX7_back 33 = .ok (.invokevirtual 190, 3) := by decide +kernel
theorem dX7_back_36 : decode cX7_back 36 = .ok (.iconst 1, 1) := by decide +kernel
theorem dX7_back_37 : decode cX7_back 37 = .ok (.ireturn, 1) := by decide +kernel
def mX7_back : MM := (yX7_back, cX7_back, 2, Option.some Jvm.ClassFile.FieldType.boolean, { frames := 2, cells := 0, slots := 0, locals := 47 })
def fX7_back (σ : SS) (a1 : Int32) : Option (Bool × SS) :=
  if a1 < 0 then (
    some (false, σ)
    ) else (
    if (3 : Int32) ≤ a1 then (
      some (false, σ)
      ) else (
      grd (inb a1 3) <|
      if (fX6_isNothing σ (gR σ 9 (Int32.toNatClampNeg a1))) = true then (
        some (false, σ)
        ) else (
        bnd1 (fX6_takeAll σ (gR σ 1 2) (gR σ 9 (Int32.toNatClampNeg a1))) fun σ2 =>
        some (true, σ2)
        )
      )
    )

set_option maxRecDepth 20000 in
theorem sX7_back {g : GG} {σ : SS} {a1 : Int32} {r : Bool × SS} (hr : fX7_back σ a1 = some r)  : Ct g mX7_back [.ref (ad g 1), .int a1] NF σ (some (.int (b2i r.1))) NF r.2 := by
  refine Ct.of (by decide +kernel) (nle rfl) fun hw0 => ?_
  have hw := hw0 rfl
  unfold fX7_back at hr
  change RR g mX7_back (FinR g mX7_back (some (.int (b2i r.1))) NF r.2) zF 0 [(0, .ref (ad g 1)), (1, .int a1)] [] σ
  refine r_iload_n (pc := 0) (j := 1) dX7_back_0 rfl rfl ?_
  refine r_if_lt (pc := 1) (tgt := 21) dX7_back_1 rfl (fun hc => ?_) (fun hc => ?_)
  · replace hr := ite_t hc hr
    refine r_iconst (pc := 21) (v := (0 : Int32)) dX7_back_21 rfl ?_
    exact l_osz hr (r_zret (pc := 22) (v := b2i false) (ty := .boolean) rfl (b2i_nar _) rfl ⟨Nat.le_refl _, Nat.le_refl _⟩ dX7_back_22)
  replace hr := ite_f hc hr
  refine r_iload_n (pc := 4) (j := 1) dX7_back_4 rfl rfl ?_
  refine r_iconst (pc := 5) (v := (3 : Int32)) dX7_back_5 rfl ?_
  refine r_icmp_ge (pc := 6) (tgt := 21) dX7_back_6 rfl (fun hc => ?_) (fun hc => ?_)
  · replace hr := ite_t hc hr
    refine r_iconst (pc := 21) (v := (0 : Int32)) dX7_back_21 rfl ?_
    exact l_osz hr (r_zret (pc := 22) (v := b2i false) (ty := .boolean) rfl (b2i_nar _) rfl ⟨Nat.le_refl _, Nat.le_refl _⟩ dX7_back_22)
  replace hr := ite_f hc hr
  refine r_aload_n (pc := 9) (j := 0) dX7_back_9 rfl rfl ?_
  refine gf7_4 (pc := 10) tw_2_107 hw dX7_back_10 ?_
  refine r_iload_n (pc := 13) (j := 1) dX7_back_13 rfl rfl ?_
  obtain ⟨h1, hr⟩ := grd_inv hr
  refine w_aald (pc := 14) hw h1 dX7_back_14 ?_
  refine kX6_isNothing (pc := 15) (hf := rfl) (dr_sh hw h1).1 tw_2_189 ⟨nle rfl, nle rfl⟩ (nle rfl) dX7_back_15 ?_
  refine r_ifB_eq (pc := 18) (tgt := 23) dX7_back_18 rfl (fun hc => ?_) (fun hc => ?_)
  · replace hr := ite_f hc hr
    refine r_aload_n (pc := 23) (j := 0) dX7_back_23 rfl rfl ?_
    refine gf7_2 (pc := 24) tw_2_105 hw dX7_back_24 ?_
    refine r_aload_n (pc := 27) (j := 0) dX7_back_27 rfl rfl ?_
    refine gf7_4 (pc := 28) tw_2_107 hw dX7_back_28 ?_
    refine r_iload_n (pc := 31) (j := 1) dX7_back_31 rfl rfl ?_
    refine w_aald (pc := 32) hw h1 dX7_back_32 ?_
    obtain ⟨σ2, eσ2, hr⟩ := bnd1_inv hr
    refine kX6_takeAll (pc := 33) eσ2 (wt_sc hw).1 (dr_sh hw h1).1 tw_2_193 ⟨nle rfl, nle rfl⟩ (nle rfl) dX7_back_33 fun hσ2 => ?_
    refine r_iconst (pc := 36) (v := (1 : Int32)) dX7_back_36 rfl ?_
    exact l_osz hr (r_zret (pc := 37) (v := b2i true) (ty := .boolean) rfl (b2i_nar _) rfl ⟨Nat.le_refl _, Nat.le_refl _⟩ dX7_back_37)
  replace hr := ite_t hc hr
  refine r_iconst (pc := 21) (v := (0 : Int32)) dX7_back_21 rfl ?_
  exact l_osz hr (r_zret (pc := 22) (v := b2i false) (ty := .boolean) rfl (b2i_nar _) rfl ⟨Nat.le_refl _, Nat.le_refl _⟩ dX7_back_22)

theorem kX7_back {g : GG} {σ : SS} {a1 : Int32} {v : Bool} {σ2 : SS} {M : MM} {F : State → Array Value → List Frame → State → Prop} {pc index : Nat} {ls : List (Nat × Value)} {rest : List Value} (hf : fX7_back σ a1 = some (v, σ2))  (hl : Cond.methodLink M.1.cls index yX7_back ∈ lw_gt) (hR : mX7_back.2.2.2.2.frames + 1 ≤ M.2.2.2.2.frames ∧ 8 + (mX7_back.2.2.1 + 11) + mX7_back.2.2.2.2.locals ≤ M.2.2.2.2.locals) (hrest : (rest.map fun v => v.category).sum ≤ 8) (hd : decode M.2.1 pc = .ok (.invokevirtual index, 3)) (k : WT σ2 → RR g M F zF (pc + 3) ls (.int (b2i v) :: rest) σ2) : RR g M F zF pc ls (.int a1 :: .ref (ad g 1) :: rest) σ :=
  r_callV (z := zF) (N := mX7_back) (nn := 1) (o1 := some (.int (b2i v))) (sX7_back hf ) (rfl : shp 1 = (7, 0)) (by decide) (shp_le (rfl : shp 1 = (7, 0)) (nle rfl)) (ci := 7) rfl rfl tw_2_188 tw_1_1 hl tw_2_186 tw_2_187 ⟨by decide, by decide, rfl⟩ hR rfl hrest hd ⟨Nat.zero_le _, Nat.zero_le _⟩ rfl (fun h => k (h rfl))

theorem dX7_marked_0 : decode cX7_marked 0 = .ok (.aload_n 0, 1) := by decide +kernel
theorem dX7_marked_1 : decode cX7_marked 1 = .ok (.getfield 62, 3) := by decide +kernel
theorem dX7_marked_4 : decode cX7_marked 4 = .ok (.aload_n 0, 1) := by decide +kernel
theorem dX7_marked_5 : decode cX7_marked 5 = .ok (.getfield 18, 3) := by decide +kernel
theorem dX7_marked_8 : decode cX7_marked 8 = .ok (.invokevirtual 252, 3) := by decide +kernel
theorem dX7_marked_11 : decode cX7_marked 11 = .ok (.ifCond .eq 7, 3) := by decide +kernel
theorem dX7_marked_14 : decode cX7_marked 14 = .ok (.iconst 1, 1) := by decide +kernel
theorem dX7_marked_15 : decode cX7_marked 15 = .ok (.goto 4, 3) := by decide +kernel
theorem dX7_marked_18 : decode cX7_marked 18 = .ok (.iconst 0, 1) := by decide +kernel
theorem dX7_marked_19 : decode cX7_marked 19 = .ok (.ireturn, 1) := by decide +kernel
def mX7_marked : MM := (yX7_marked, cX7_marked, 1, Option.some Jvm.ClassFile.FieldType.int, { frames := 4, cells := 0, slots := 0, locals := 102 })
def fX7_marked (σ : SS)  : Option (Int32 × SS) :=
  bnd (fX3_locate σ (gR σ 1 2)) fun b2 σ4 =>
  if b2 = true then (
    some ((1 : Int32), σ4)
    ) else (
    some ((0 : Int32), σ4)
    )

set_option maxRecDepth 20000 in
theorem sX7_marked {g : GG} {σ : SS}  {r : Int32 × SS} (hr : fX7_marked σ = some r)  : Ct g mX7_marked [.ref (ad g 1)] NF σ (some (.int r.1)) NF r.2 := by
  refine Ct.of (by decide +kernel) (nle rfl) fun hw0 => ?_
  have hw := hw0 rfl
  unfold fX7_marked at hr
  change RR g mX7_marked (FinR g mX7_marked (some (.int r.1)) NF r.2) zF 0 [(0, .ref (ad g 1))] [] σ
  refine r_aload_n (pc := 0) (j := 0) dX7_marked_0 rfl rfl ?_
  refine gf7_12 (pc := 1) tw_2_115 hw dX7_marked_1 ?_
  refine r_aload_n (pc := 4) (j := 0) dX7_marked_4 rfl rfl ?_
  refine gf7_2 (pc := 5) tw_2_105 hw dX7_marked_5 ?_
  obtain ⟨b2, σ4, eσ4, hr⟩ := bnd_inv hr
  refine kX3_locate (pc := 8) eσ4 (wt_sc hw).1 tw_2_204 ⟨nle rfl, nle rfl⟩ (nle rfl) dX7_marked_8 fun hσ4 => ?_
  refine r_ifB_eq (pc := 11) (tgt := 18) dX7_marked_11 rfl (fun hc => ?_) (fun hc => ?_)
  · replace hr := ite_f hc hr
    refine r_iconst (pc := 18) (v := (0 : Int32)) dX7_marked_18 rfl ?_
    exact l_osi hr (r_iret (pc := 19) (v := (0 : Int32)) rfl rfl ⟨Nat.le_refl _, Nat.le_refl _⟩ dX7_marked_19)
  replace hr := ite_t hc hr
  refine r_iconst (pc := 14) (v := (1 : Int32)) dX7_marked_14 rfl ?_
  refine r_goto (pc := 15) (tgt := 19) dX7_marked_15 rfl ?_
  exact l_osi hr (r_iret (pc := 19) (v := (1 : Int32)) rfl rfl ⟨Nat.le_refl _, Nat.le_refl _⟩ dX7_marked_19)

theorem kX7_marked {g : GG} {σ : SS}  {v : Int32} {σ2 : SS} {M : MM} {F : State → Array Value → List Frame → State → Prop} {pc index : Nat} {ls : List (Nat × Value)} {rest : List Value} (hf : fX7_marked σ = some (v, σ2))  (hl : Cond.methodLink M.1.cls index yX7_marked ∈ lw_gt) (hR : mX7_marked.2.2.2.2.frames + 1 ≤ M.2.2.2.2.frames ∧ 8 + (mX7_marked.2.2.1 + 11) + mX7_marked.2.2.2.2.locals ≤ M.2.2.2.2.locals) (hrest : (rest.map fun v => v.category).sum ≤ 8) (hd : decode M.2.1 pc = .ok (.invokevirtual index, 3)) (k : WT σ2 → RR g M F zF (pc + 3) ls (.int v :: rest) σ2) : RR g M F zF pc ls (.ref (ad g 1) :: rest) σ :=
  r_callV (z := zF) (N := mX7_marked) (nn := 0) (o1 := some (.int v)) (sX7_marked hf ) (rfl : shp 1 = (7, 0)) (by decide) (shp_le (rfl : shp 1 = (7, 0)) (nle rfl)) (ci := 7) rfl rfl tw_2_203 tw_1_1 hl tw_2_201 tw_2_202 ⟨by decide, by decide, rfl⟩ hR rfl hrest hd ⟨Nat.zero_le _, Nat.zero_le _⟩ rfl (fun h => k (h rfl))

theorem dX7_putOnTape_0 : decode cX7_putOnTape 0 = .ok (.bipush 24, 2) := by decide +kernel
theorem dX7_putOnTape_2 : decode cX7_putOnTape 2 = .ok (.istore_n 2, 1) := by decide +kernel
theorem dX7_putOnTape_3 : decode cX7_putOnTape 3 = .ok (.iload_n 2, 1) := by decide +kernel
theorem dX7_putOnTape_4 : decode cX7_putOnTape 4 = .ok (.ifCond .lt 45, 3) := by decide +kernel
theorem dX7_putOnTape_7 : decode cX7_putOnTape 7 = .ok (.aload_n 0, 1) := by decide +kernel
theorem dX7_putOnTape_8 : decode cX7_putOnTape 8 = .ok (.getfield 77, 3) := by decide +kernel
theorem dX7_putOnTape_11 : decode cX7_putOnTape 11 = .ok (.sipush 480, 3) := by decide +kernel
theorem dX7_putOnTape_14 : decode cX7_putOnTape 14 = .ok (.if_icmp .ge 29, 3) := by decide +kernel
theorem dX7_putOnTape_17 : decode cX7_putOnTape 17 = .ok (.aload_n 0, 1) := by decide +kernel
theorem dX7_putOnTape_18 : decode cX7_putOnTape 18 = .ok (.getfield 11, 3) := by decide +kernel
theorem dX7_putOnTape_21 : decode cX7_putOnTape 21 = .ok (.aload_n 0, 1) := by decide +kernel
theorem dX7_putOnTape_22 : decode cX7_putOnTape 22 = .ok (.getfield 77, 3) := by decide +kernel
theorem dX7_putOnTape_25 : decode cX7_putOnTape 25 = .ok (.iload_n 1, 1) := by decide +kernel
theorem dX7_putOnTape_26 : decode cX7_putOnTape 26 = .ok (.iload_n 2, 1) := by decide +kernel
theorem dX7_putOnTape_27 : decode cX7_putOnTape 27 = .ok (.ishr, 1) := by decide +kernel
theorem dX7_putOnTape_28 : decode cX7_putOnTape 28 = .ok (.sipush 255, 3) := by decide +kernel
theorem dX7_putOnTape_31 : decode cX7_putOnTape 31 = .ok (.iand, 1) := by decide +kernel
theorem dX7_putOnTape_32 : decode cX7_putOnTape 32 = .ok (.iastore, 1) := by decide +kernel
theorem dX7_putOnTape_33 : decode cX7_putOnTape 33 = .ok (.aload_n 0, 1) := by decide +kernel
theorem dX7_putOnTape_34 : decode cX7_putOnTape 34 = .ok (.dup, 1) := by decide +kernel
theorem dX7_putOnTape_35 : decode cX7_putOnTape 35 = .ok (.getfield 77, 3) := by decide +kernel
theorem dX7_putOnTape_38 : decode cX7_putOnTape 38 = .ok (.iconst 1, 1) := by decide +kernel
theorem dX7_putOnTape_39 : decode cX7_putOnTape 39 = .ok (.iadd, 1) := by decide +kernel
theorem dX7_putOnTape_40 : decode cX7_putOnTape 40 = .ok (.putfield 77, 3) := by decide +kernel
theorem dX7_putOnTape_43 : decode cX7_putOnTape 43 = .ok (.iinc 2 (-8), 3) := by decide +kernel
theorem dX7_putOnTape_46 : decode cX7_putOnTape 46 = .ok (.goto (-43), 3) := by decide +kernel
theorem dX7_putOnTape_49 : decode cX7_putOnTape 49 = .ok (.return_, 1) := by decide +kernel
def mX7_putOnTape : MM := (yX7_putOnTape, cX7_putOnTape, 3, none, { frames := 0, cells := 0, slots := 0, locals := 0 })
def X7_putOnTape_L3 (u1_ : Int32)  : Nat → Int32 → SS → Option SS :=
  lp (fun _ _ => none) fun rec v2_ σ_ =>
    if v2_ < 0 then (
      some σ_
      ) else (
      if (480 : Int32) ≤ (gI σ_ 1 1) then (
        rec (v2_ + (-8 : Int32)) σ_
        ) else (
        grd (inb (gI σ_ 1 1) 480) <|
        vthen (sI σ_ 2 (Int32.toNatClampNeg (gI σ_ 1 1)) ((u1_ >>> (v2_ &&& 31)) &&& (255 : Int32))) fun σ2 =>
        vthen (sI σ2 1 1 ((gI σ2 1 1) + (1 : Int32))) fun σ3 =>
        rec (v2_ + (-8 : Int32)) σ3
        )
      )

def fX7_putOnTape (σ : SS) (a1 : Int32) : Option SS :=
  X7_putOnTape_L3 a1
  fuel (24 : Int32) σ

set_option maxRecDepth 20000 in
theorem sX7_putOnTape_L3 {g : GG} {r : SS} {u1_ : Int32}  
    (n : Nat) : ∀ (v2_ : Int32) (σ_ : SS), X7_putOnTape_L3 u1_ n v2_ σ_ = some r → WT σ_ → RR g mX7_putOnTape (FinR g mX7_putOnTape none NF r) zF 3 [(0, .ref (ad g 1)), (1, .int u1_), (2, .int v2_)] [] σ_ := by
  unfold X7_putOnTape_L3
  refine lp_ind (P := fun (rec : Int32 → SS → Option SS) => ∀ (v2_ : Int32) (σ_ : SS), rec v2_ σ_ = some r → WT σ_ → RR g mX7_putOnTape (FinR g mX7_putOnTape none NF r) zF 3 [(0, .ref (ad g 1)), (1, .int u1_), (2, .int v2_)] [] σ_) ?_ ?_ n
  · intro v2_ σ_ hr; cases hr
  intro rec ih v2_ σ_ hr hw_
  refine r_iload_n (pc := 3) (j := 2) dX7_putOnTape_3 rfl rfl ?_
  refine r_if_lt (pc := 4) (tgt := 49) dX7_putOnTape_4 rfl (fun hc => ?_) (fun hc => ?_)
  · replace hr := ite_t hc hr
    exact l_ov hr (r_vret (pc := 49) rfl rfl ⟨Nat.le_refl _, Nat.le_refl _⟩ dX7_putOnTape_49)
  replace hr := ite_f hc hr
  refine r_aload_n (pc := 7) (j := 0) dX7_putOnTape_7 rfl rfl ?_
  refine gf7_1 (pc := 8) tw_2_104 rfl dX7_putOnTape_8 ?_
  refine r_sipush (pc := 11) (v := (480 : Int32)) dX7_putOnTape_11 rfl ?_
  refine r_icmp_ge (pc := 14) (tgt := 43) dX7_putOnTape_14 rfl (fun hc => ?_) (fun hc => ?_)
  · replace hr := ite_t hc hr
    refine r_iinc (pc := 43) (j := 2) (v := (v2_ + (-8 : Int32))) (ls1 := [(2, .int (v2_ + (-8 : Int32))), (0, .ref (ad g 1)), (1, .int u1_)]) dX7_putOnTape_43 rfl rfl (nle rfl) rfl ?_
    refine r_goto (pc := 46) (tgt := 3) dX7_putOnTape_46 rfl ?_
    exact r_pick (ls1 := [(0, .ref (ad g 1)), (1, .int u1_), (2, .int (v2_ + (-8 : Int32)))]) [1, 2, 0] rfl (ih (v2_ + (-8 : Int32)) σ_ hr hw_)
  replace hr := ite_f hc hr
  refine r_aload_n (pc := 17) (j := 0) dX7_putOnTape_17 rfl rfl ?_
  refine gf7_0 (pc := 18) tw_2_103 hw_ dX7_putOnTape_18 ?_
  refine r_aload_n (pc := 21) (j := 0) dX7_putOnTape_21 rfl rfl ?_
  refine gf7_1 (pc := 22) tw_2_104 rfl dX7_putOnTape_22 ?_
  refine r_iload_n (pc := 25) (j := 1) dX7_putOnTape_25 rfl rfl ?_
  refine r_iload_n (pc := 26) (j := 2) dX7_putOnTape_26 rfl rfl ?_
  refine r_ishr (pc := 27) dX7_putOnTape_27 ?_
  refine r_sipush (pc := 28) (v := (255 : Int32)) dX7_putOnTape_28 rfl ?_
  refine r_iand (pc := 31) dX7_putOnTape_31 ?_
  obtain ⟨h1, hr⟩ := grd_inv hr
  refine x_iast (pc := 32) (j := (Int32.toNatClampNeg (gI σ_ 1 1))) rfl h1 rfl dX7_putOnTape_32 fun σ2 eσ2 => ?_
  replace hr := vthen_inv hr σ2 eσ2
  have hσ2 := wtI eσ2 hw_
  refine r_aload_n (pc := 33) (j := 0) dX7_putOnTape_33 rfl rfl ?_
  refine r_dup (pc := 34) dX7_putOnTape_34 rfl ?_
  refine gf7_1 (pc := 35) tw_2_104 rfl dX7_putOnTape_35 ?_
  refine r_iconst (pc := 38) (v := (1 : Int32)) dX7_putOnTape_38 rfl ?_
  refine r_iadd (pc := 39) dX7_putOnTape_39 ?_
  refine pf7_1 (pc := 40) tw_2_104 rfl dX7_putOnTape_40 fun σ3 eσ3 => ?_
  replace hr := vthen_inv hr σ3 eσ3
  have hσ3 := wtI eσ3 hσ2
  refine r_iinc (pc := 43) (j := 2) (v := (v2_ + (-8 : Int32))) (ls1 := [(2, .int (v2_ + (-8 : Int32))), (0, .ref (ad g 1)), (1, .int u1_)]) dX7_putOnTape_43 rfl rfl (nle rfl) rfl ?_
  refine r_goto (pc := 46) (tgt := 3) dX7_putOnTape_46 rfl ?_
  exact r_pick (ls1 := [(0, .ref (ad g 1)), (1, .int u1_), (2, .int (v2_ + (-8 : Int32)))]) [1, 2, 0] rfl (ih (v2_ + (-8 : Int32)) σ3 hr hσ3)

set_option maxRecDepth 20000 in
theorem sX7_putOnTape {g : GG} {σ : SS} {a1 : Int32} {r : SS} (hr : fX7_putOnTape σ a1 = some r)  : Ct g mX7_putOnTape [.ref (ad g 1), .int a1] NF σ none NF r := by
  refine Ct.of (by decide +kernel) (nle rfl) fun hw0 => ?_
  have hw := hw0 rfl
  unfold fX7_putOnTape at hr
  change RR g mX7_putOnTape (FinR g mX7_putOnTape none NF r) zF 0 [(0, .ref (ad g 1)), (1, .int a1)] [] σ
  refine r_bipush (pc := 0) (v := (24 : Int32)) dX7_putOnTape_0 rfl ?_
  refine r_istore_n (pc := 2) (ls1 := [(2, .int (24 : Int32)), (0, .ref (ad g 1)), (1, .int a1)]) dX7_putOnTape_2 rfl (nle rfl) rfl ?_
  refine r_pick (ls1 := [(0, .ref (ad g 1)), (1, .int a1), (2, .int (24 : Int32))]) [1, 2, 0] rfl ?_
  refine sX7_putOnTape_L3     fuel (24 : Int32) σ hr hw

theorem kX7_putOnTape {g : GG} {σ : SS} {a1 : Int32} {σ2 : SS} {M : MM} {F : State → Array Value → List Frame → State → Prop} {pc index : Nat} {ls : List (Nat × Value)} {rest : List Value} (hf : fX7_putOnTape σ a1 = some σ2)  (hl : Cond.methodLink M.1.cls index yX7_putOnTape ∈ lw_gt) (hR : mX7_putOnTape.2.2.2.2.frames + 1 ≤ M.2.2.2.2.frames ∧ 8 + (mX7_putOnTape.2.2.1 + 11) + mX7_putOnTape.2.2.2.2.locals ≤ M.2.2.2.2.locals) (hrest : (rest.map fun v => v.category).sum ≤ 8) (hd : decode M.2.1 pc = .ok (.invokevirtual index, 3)) (k : WT σ2 → RR g M F zF (pc + 3) ls rest σ2) : RR g M F zF pc ls (.int a1 :: .ref (ad g 1) :: rest) σ :=
  r_callV (z := zF) (N := mX7_putOnTape) (nn := 1) (o1 := none) (sX7_putOnTape hf ) (rfl : shp 1 = (7, 0)) (by decide) (shp_le (rfl : shp 1 = (7, 0)) (nle rfl)) (ci := 7) rfl rfl tw_3_151 tw_1_1 hl tw_3_150 tp_12 ⟨by decide, by decide, rfl⟩ hR rfl hrest hd ⟨Nat.zero_le _, Nat.zero_le _⟩ rfl (fun h => k (h rfl))

theorem dX7_feed_0 : decode cX7_feed 0 = .ok (.aload_n 0, 1) := by decide +kernel
theorem dX7_feed_1 : decode cX7_feed 1 = .ok (.getfield 77, 3) := by decide +kernel
theorem dX7_feed_4 : decode cX7_feed 4 = .ok (.bipush 20, 2) := by decide +kernel
theorem dX7_feed_6 : decode cX7_feed 6 = .ok (.iadd, 1) := by decide +kernel
theorem dX7_feed_7 : decode cX7_feed 7 = .ok (.sipush 480, 3) := by decide +kernel
theorem dX7_feed_10 : decode cX7_feed 10 = .ok (.if_icmp .le 5, 3) := by decide +kernel
theorem dX7_feed_13 : decode cX7_feed 13 = .ok (.iconst (-1), 1) := by decide +kernel
theorem dX7_feed_14 : decode cX7_feed 14 = .ok (.ireturn, 1) := by decide +kernel
theorem dX7_feed_15 : decode cX7_feed 15 = .ok (.aload_n 0, 1) := by decide +kernel
theorem dX7_feed_16 : decode cX7_feed 16 = .ok (.iload_n 1, 1) := by decide +kernel
theorem dX7_feed_17 : decode cX7_feed 17 = .ok (.invokevirtual 80, 3) := by decide +kernel
theorem dX7_feed_20 : decode cX7_feed 20 = .ok (.aload_n 0, 1) := by decide +kernel
theorem dX7_feed_21 : decode cX7_feed 21 = .ok (.iload_n 2, 1) := by decide +kernel
theorem dX7_feed_22 : decode cX7_feed 22 = .ok (.invokevirtual 80, 3) := by decide +kernel
theorem dX7_feed_25 : decode cX7_feed 25 = .ok (.aload_n 0, 1) := by decide +kernel
theorem dX7_feed_26 : decode cX7_feed 26 = .ok (.iload_n 3, 1) := by decide +kernel
theorem dX7_feed_27 : decode cX7_feed 27 = .ok (.invokevirtual 80, 3) := by decide +kernel
theorem dX7_feed_30 : decode cX7_feed 30 = .ok (.aload_n 0, 1) := by decide +kernel
theorem dX7_feed_31 : decode cX7_feed 31 = .ok (.iload 4, 2) := by decide +kernel
theorem dX7_feed_33 : decode cX7_feed 33 = .ok (.invokevirtual 80, 3) := by decide +kernel
theorem dX7_feed_36 : decode cX7_feed 36 = .ok (.aload_n 0, 1) := by decide +kernel
theorem dX7_feed_37 : decode cX7_feed 37 = .ok (.iload 5, 2) := by decide +kernel
theorem dX7_feed_39 : decode cX7_feed 39 = .ok (.invokevirtual 80, 3) := by decide +kernel
theorem dX7_feed_42 : decode cX7_feed 42 = .ok (.aload_n 0, 1) := by decide +kernel
theorem dX7_feed_43 : decode cX7_feed 43 = .ok (.getfield 77, 3) := by decide +kernel
theorem dX7_feed_46 : decode cX7_feed 46 = .ok (.ireturn, 1) := by decide +kernel
def mX7_feed : MM := (yX7_feed, cX7_feed, 6, Option.some Jvm.ClassFile.FieldType.int, { frames := 1, cells := 0, slots := 0, locals := 22 })
def fX7_feed (σ : SS) (a1 : Int32) (a2 : Int32) (a3 : Int32) (a4 : Int32) (a5 : Int32) : Option (Int32 × SS) :=
  if ((gI σ 1 1) + (20 : Int32)) ≤ (480 : Int32) then (
    bnd1 (fX7_putOnTape σ a1) fun σ1 =>
    bnd1 (fX7_putOnTape σ1 a2) fun σ2 =>
    bnd1 (fX7_putOnTape σ2 a3) fun σ3 =>
    bnd1 (fX7_putOnTape σ3 a4) fun σ4 =>
    bnd1 (fX7_putOnTape σ4 a5) fun σ5 =>
    some ((gI σ5 1 1), σ5)
    ) else (
    some ((-1 : Int32), σ)
    )

set_option maxRecDepth 20000 in
theorem sX7_feed {g : GG} {σ : SS} {a1 : Int32} {a2 : Int32} {a3 : Int32} {a4 : Int32} {a5 : Int32} {r : Int32 × SS} (hr : fX7_feed σ a1 a2 a3 a4 a5 = some r)  : Ct g mX7_feed [.ref (ad g 1), .int a1, .int a2, .int a3, .int a4, .int a5] NF σ (some (.int r.1)) NF r.2 := by
  refine Ct.of (by decide +kernel) (nle rfl) fun hw0 => ?_
  have hw := hw0 rfl
  unfold fX7_feed at hr
  change RR g mX7_feed (FinR g mX7_feed (some (.int r.1)) NF r.2) zF 0 [(0, .ref (ad g 1)), (1, .int a1), (2, .int a2), (3, .int a3), (4, .int a4), (5, .int a5)] [] σ
  refine r_aload_n (pc := 0) (j := 0) dX7_feed_0 rfl rfl ?_
  refine gf7_1 (pc := 1) tw_2_104 rfl dX7_feed_1 ?_
  refine r_bipush (pc := 4) (v := (20 : Int32)) dX7_feed_4 rfl ?_
  refine r_iadd (pc := 6) dX7_feed_6 ?_
  refine r_sipush (pc := 7) (v := (480 : Int32)) dX7_feed_7 rfl ?_
  refine r_icmp_le (pc := 10) (tgt := 15) dX7_feed_10 rfl (fun hc => ?_) (fun hc => ?_)
  · replace hr := ite_t hc hr
    refine r_aload_n (pc := 15) (j := 0) dX7_feed_15 rfl rfl ?_
    refine r_iload_n (pc := 16) (j := 1) dX7_feed_16 rfl rfl ?_
    obtain ⟨σ1, eσ1, hr⟩ := bnd1_inv hr
    refine kX7_putOnTape (pc := 17) eσ1 tw_3_148 ⟨nle rfl, nle rfl⟩ (nle rfl) dX7_feed_17 fun hσ1 => ?_
    refine r_aload_n (pc := 20) (j := 0) dX7_feed_20 rfl rfl ?_
    refine r_iload_n (pc := 21) (j := 2) dX7_feed_21 rfl rfl ?_
    obtain ⟨σ2, eσ2, hr⟩ := bnd1_inv hr
    refine kX7_putOnTape (pc := 22) eσ2 tw_3_148 ⟨nle rfl, nle rfl⟩ (nle rfl) dX7_feed_22 fun hσ2 => ?_
    refine r_aload_n (pc := 25) (j := 0) dX7_feed_25 rfl rfl ?_
    refine r_iload_n (pc := 26) (j := 3) dX7_feed_26 rfl rfl ?_
    obtain ⟨σ3, eσ3, hr⟩ := bnd1_inv hr
    refine kX7_putOnTape (pc := 27) eσ3 tw_3_148 ⟨nle rfl, nle rfl⟩ (nle rfl) dX7_feed_27 fun hσ3 => ?_
    refine r_aload_n (pc := 30) (j := 0) dX7_feed_30 rfl rfl ?_
    refine r_iload (pc := 31) (j := 4) dX7_feed_31 rfl ?_
    obtain ⟨σ4, eσ4, hr⟩ := bnd1_inv hr
    refine kX7_putOnTape (pc := 33) eσ4 tw_3_148 ⟨nle rfl, nle rfl⟩ (nle rfl) dX7_feed_33 fun hσ4 => ?_
    refine r_aload_n (pc := 36) (j := 0) dX7_feed_36 rfl rfl ?_
    refine r_iload (pc := 37) (j := 5) dX7_feed_37 rfl ?_
    obtain ⟨σ5, eσ5, hr⟩ := bnd1_inv hr
    refine kX7_putOnTape (pc := 39) eσ5 tw_3_148 ⟨nle rfl, nle rfl⟩ (nle rfl) dX7_feed_39 fun hσ5 => ?_
    refine r_aload_n (pc := 42) (j := 0) dX7_feed_42 rfl rfl ?_
    refine gf7_1 (pc := 43) tw_2_104 rfl dX7_feed_43 ?_
    exact l_osi hr (r_iret (pc := 46) (v := (gI σ5 1 1)) rfl rfl ⟨Nat.le_refl _, Nat.le_refl _⟩ dX7_feed_46)
  replace hr := ite_f hc hr
  refine r_iconst (pc := 13) (v := (-1 : Int32)) dX7_feed_13 rfl ?_
  exact l_osi hr (r_iret (pc := 14) (v := (-1 : Int32)) rfl rfl ⟨Nat.le_refl _, Nat.le_refl _⟩ dX7_feed_14)

theorem kX7_feed {g : GG} {σ : SS} {a1 : Int32} {a2 : Int32} {a3 : Int32} {a4 : Int32} {a5 : Int32} {v : Int32} {σ2 : SS} {M : MM} {F : State → Array Value → List Frame → State → Prop} {pc index : Nat} {ls : List (Nat × Value)} {rest : List Value} (hf : fX7_feed σ a1 a2 a3 a4 a5 = some (v, σ2))  (hl : Cond.methodLink M.1.cls index yX7_feed ∈ lw_gt) (hR : mX7_feed.2.2.2.2.frames + 1 ≤ M.2.2.2.2.frames ∧ 8 + (mX7_feed.2.2.1 + 11) + mX7_feed.2.2.2.2.locals ≤ M.2.2.2.2.locals) (hrest : (rest.map fun v => v.category).sum ≤ 8) (hd : decode M.2.1 pc = .ok (.invokevirtual index, 3)) (k : WT σ2 → RR g M F zF (pc + 3) ls (.int v :: rest) σ2) : RR g M F zF pc ls (.int a5 :: .int a4 :: .int a3 :: .int a2 :: .int a1 :: .ref (ad g 1) :: rest) σ :=
  r_callV (z := zF) (N := mX7_feed) (nn := 5) (o1 := some (.int v)) (sX7_feed hf ) (rfl : shp 1 = (7, 0)) (by decide) (shp_le (rfl : shp 1 = (7, 0)) (nle rfl)) (ci := 7) rfl rfl tw_3_147 tw_1_1 hl tw_3_145 tw_3_146 ⟨by decide, by decide, rfl⟩ hR rfl hrest hd ⟨Nat.zero_le _, Nat.zero_le _⟩ rfl (fun h => k (h rfl))

theorem dX1_empty_0 : decode cX1_empty 0 = .ok (.aload_n 0, 1) := by decide +kernel
theorem dX1_empty_1 : decode cX1_empty 1 = .ok (.iconst 0, 1) := by decide +kernel
theorem dX1_empty_2 : decode cX1_empty 2 = .ok (.putfield 34, 3) := by decide +kernel
theorem dX1_empty_5 : decode cX1_empty 5 = .ok (.aload_n 0, 1) := by decide +kernel
theorem dX1_empty_6 : decode cX1_empty 6 = .ok (.iconst 0, 1) := by decide +kernel
theorem dX1_empty_7 : decode cX1_empty 7 = .ok (.putfield 38, 3) := by decide +kernel
theorem dX1_empty_10 : decode cX1_empty 10 = .ok (.aload_n 0, 1) := by decide +kernel
theorem dX1_empty_11 : decode cX1_empty 11 = .ok (.iconst 0, 1) := by decide +kernel
theorem dX1_empty_12 : decode cX1_empty 12 = .ok (.putfield 42, 3) := by decide +kernel
theorem dX1_empty_15 : decode cX1_empty 15 = .ok (.aload_n 0, 1) := by decide +kernel
theorem dX1_empty_16 : decode cX1_empty 16 = .ok (.iconst 0, 1) := by decide +kernel
theorem dX1_empty_17 : decode cX1_empty 17 = .ok (.putfield 45, 3) := by decide +kernel
theorem dX1_empty_20 : decode cX1_empty 20 = .ok (.aload_n 0, 1) := by decide +kernel
theorem dX1_empty_21 : decode cX1_empty 21 = .ok (.iconst 0, 1) := by decide +kernel
theorem dX1_empty_22 : decode cX1_empty 22 = .ok (.putfield 48, 3) := by decide +kernel
theorem dX1_empty_25 : decode cX1_empty 25 = .ok (.aload_n 0, 1) := by decide +kernel
theorem dX1_empty_26 : decode cX1_empty 26 = .ok (.iconst 0, 1) := by decide +kernel
theorem dX1_empty_27 : decode cX1_empty 27 = .ok (.putfield 51, 3) := by decide +kernel
theorem dX1_empty_30 : decode cX1_empty 30 = .ok (.aload_n 0, 1) := by decide +kernel
theorem dX1_empty_31 : decode cX1_empty 31 = .ok (.iconst 0, 1) := by decide +kernel
theorem dX1_empty_32 : decode cX1_empty 32 = .ok (.putfield 54, 3) := by decide +kernel
theorem dX1_empty_35 : decode cX1_empty 35 = .ok (.return_, 1) := by decide +kernel
def mX1_empty : MM := (yX1_empty, cX1_empty, 1, none, { frames := 0, cells := 0, slots := 0, locals := 0 })
def fX1_empty (σ : SS) (a0 : Nat) : Option SS :=
  vthen (sI σ a0 0 (0 : Int32)) fun σ1 =>
  vthen (sI σ1 a0 1 (0 : Int32)) fun σ2 =>
  vthen (sI σ2 a0 2 (0 : Int32)) fun σ3 =>
  vthen (sI σ3 a0 3 (0 : Int32)) fun σ4 =>
  vthen (sI σ4 a0 4 (0 : Int32)) fun σ5 =>
  vthen (sI σ5 a0 5 (0 : Int32)) fun σ6 =>
  vthen (sI σ6 a0 6 (0 : Int32)) fun σ7 =>
  some σ7

set_option maxRecDepth 20000 in
theorem sX1_empty {g : GG} {σ : SS} {a0 : Nat} {r : SS} (hr : fX1_empty σ a0 = some r) (hs0 : shp a0 = (1, 0)) : Ct g mX1_empty [.ref (ad g a0)] NF σ none NF r := by
  refine Ct.of (by decide +kernel) (nle rfl) fun hw0 => ?_
  have hw := hw0 rfl
  unfold fX1_empty at hr
  change RR g mX1_empty (FinR g mX1_empty none NF r) zF 0 [(0, .ref (ad g a0))] [] σ
  refine r_aload_n (pc := 0) (j := 0) dX1_empty_0 rfl rfl ?_
  refine r_iconst (pc := 1) (v := (0 : Int32)) dX1_empty_1 rfl ?_
  refine pf1_0 (pc := 2) tw_1_58 hs0 rfl dX1_empty_2 fun σ1 eσ1 => ?_
  replace hr := vthen_inv hr σ1 eσ1
  have hσ1 := wtI eσ1 hw
  refine r_aload_n (pc := 5) (j := 0) dX1_empty_5 rfl rfl ?_
  refine r_iconst (pc := 6) (v := (0 : Int32)) dX1_empty_6 rfl ?_
  refine pf1_1 (pc := 7) tw_1_61 hs0 dX1_empty_7 fun σ2 eσ2 => ?_
  replace hr := vthen_inv hr σ2 eσ2
  have hσ2 := wtI eσ2 hσ1
  refine r_aload_n (pc := 10) (j := 0) dX1_empty_10 rfl rfl ?_
  refine r_iconst (pc := 11) (v := (0 : Int32)) dX1_empty_11 rfl ?_
  refine pf1_2 (pc := 12) tw_1_65 hs0 dX1_empty_12 fun σ3 eσ3 => ?_
  replace hr := vthen_inv hr σ3 eσ3
  have hσ3 := wtI eσ3 hσ2
  refine r_aload_n (pc := 15) (j := 0) dX1_empty_15 rfl rfl ?_
  refine r_iconst (pc := 16) (v := (0 : Int32)) dX1_empty_16 rfl ?_
  refine pf1_3 (pc := 17) tw_1_69 hs0 dX1_empty_17 fun σ4 eσ4 => ?_
  replace hr := vthen_inv hr σ4 eσ4
  have hσ4 := wtI eσ4 hσ3
  refine r_aload_n (pc := 20) (j := 0) dX1_empty_20 rfl rfl ?_
  refine r_iconst (pc := 21) (v := (0 : Int32)) dX1_empty_21 rfl ?_
  refine pf1_4 (pc := 22) tw_1_73 hs0 dX1_empty_22 fun σ5 eσ5 => ?_
  replace hr := vthen_inv hr σ5 eσ5
  have hσ5 := wtI eσ5 hσ4
  refine r_aload_n (pc := 25) (j := 0) dX1_empty_25 rfl rfl ?_
  refine r_iconst (pc := 26) (v := (0 : Int32)) dX1_empty_26 rfl ?_
  refine pf1_5 (pc := 27) tw_1_77 hs0 dX1_empty_27 fun σ6 eσ6 => ?_
  replace hr := vthen_inv hr σ6 eσ6
  have hσ6 := wtI eσ6 hσ5
  refine r_aload_n (pc := 30) (j := 0) dX1_empty_30 rfl rfl ?_
  refine r_iconst (pc := 31) (v := (0 : Int32)) dX1_empty_31 rfl ?_
  refine pf1_6 (pc := 32) tw_1_81 hs0 dX1_empty_32 fun σ7 eσ7 => ?_
  replace hr := vthen_inv hr σ7 eσ7
  have hσ7 := wtI eσ7 hσ6
  exact l_ov hr (r_vret (pc := 35) rfl rfl ⟨Nat.le_refl _, Nat.le_refl _⟩ dX1_empty_35)

theorem kX1_empty {g : GG} {σ : SS} {a0 : Nat} {σ2 : SS} {M : MM} {F : State → Array Value → List Frame → State → Prop} {pc index : Nat} {ls : List (Nat × Value)} {rest : List Value} (hf : fX1_empty σ a0 = some σ2) (hs0 : shp a0 = (1, 0)) (hl : Cond.methodLink M.1.cls index yX1_empty ∈ lw_gt) (hR : mX1_empty.2.2.2.2.frames + 1 ≤ M.2.2.2.2.frames ∧ 8 + (mX1_empty.2.2.1 + 11) + mX1_empty.2.2.2.2.locals ≤ M.2.2.2.2.locals) (hrest : (rest.map fun v => v.category).sum ≤ 8) (hd : decode M.2.1 pc = .ok (.invokevirtual index, 3)) (k : WT σ2 → RR g M F zF (pc + 3) ls rest σ2) : RR g M F zF pc ls (.ref (ad g a0) :: rest) σ :=
  r_callV (z := zF) (N := mX1_empty) (nn := 0) (o1 := none) (sX1_empty hf hs0) hs0 (by decide) (shp_le hs0 (nle rfl)) (ci := 1) rfl rfl tw_3_165 tw_1_3 hl tw_3_163 tw_3_164 ⟨by decide, by decide, rfl⟩ hR rfl hrest hd ⟨Nat.zero_le _, Nat.zero_le _⟩ rfl (fun h => k (h rfl))

theorem dX2_kindOf_0 : decode cX2_kindOf 0 = .ok (.iload_n 0, 1) := by decide +kernel
theorem dX2_kindOf_1 : decode cX2_kindOf 1 = .ok (.bipush 97, 2) := by decide +kernel
theorem dX2_kindOf_3 : decode cX2_kindOf 3 = .ok (.if_icmp .lt 11, 3) := by decide +kernel
theorem dX2_kindOf_6 : decode cX2_kindOf 6 = .ok (.iload_n 0, 1) := by decide +kernel
theorem dX2_kindOf_7 : decode cX2_kindOf 7 = .ok (.bipush 122, 2) := by decide +kernel
theorem dX2_kindOf_9 : decode cX2_kindOf 9 = .ok (.if_icmp .gt 5, 3) := by decide +kernel
theorem dX2_kindOf_12 : decode cX2_kindOf 12 = .ok (.iconst 1, 1) := by decide +kernel
theorem dX2_kindOf_13 : decode cX2_kindOf 13 = .ok (.ireturn, 1) := by decide +kernel
theorem dX2_kindOf_14 : decode cX2_kindOf 14 = .ok (.iload_n 0, 1) := by decide +kernel
theorem dX2_kindOf_15 : decode cX2_kindOf 15 = .ok (.bipush 48, 2) := by decide +kernel
theorem dX2_kindOf_17 : decode cX2_kindOf 17 = .ok (.if_icmp .lt 11, 3) := by decide +kernel
theorem dX2_kindOf_20 : decode cX2_kindOf 20 = .ok (.iload_n 0, 1) := by decide +kernel
theorem dX2_kindOf_21 : decode cX2_kindOf 21 = .ok (.bipush 57, 2) := by decide +kernel
theorem dX2_kindOf_23 : decode cX2_kindOf 23 = .ok (.if_icmp .gt 5, 3) := by decide +kernel
theorem dX2_kindOf_26 : decode cX2_kindOf 26 = .ok (.iconst 2, 1) := by decide +kernel
theorem dX2_kindOf_27 : decode cX2_kindOf 27 = .ok (.ireturn, 1) := by decide +kernel
theorem dX2_kindOf_28 : decode cX2_kindOf 28 = .ok (.iload_n 0, 1) := by decide +kernel
theorem dX2_kindOf_29 : decode cX2_kindOf 29 = .ok (.bipush 44, 2) := by decide +kernel
theorem dX2_kindOf_31 : decode cX2_kindOf 31 = .ok (.if_icmp .ne 5, 3) := by decide +kernel
theorem dX2_kindOf_34 : decode cX2_kindOf 34 = .ok (.iconst 3, 1) := by decide +kernel
theorem dX2_kindOf_35 : decode cX2_kindOf 35 = .ok (.ireturn, 1) := by decide +kernel
theorem dX2_kindOf_36 : decode cX2_kindOf 36 = .ok (.iload_n 0, 1) := by decide +kernel
theorem dX2_kindOf_37 : decode cX2_kindOf 37 = .ok (.bipush 59, 2) := by decide +kernel
theorem dX2_kindOf_39 : decode cX2_kindOf 39 = .ok (.if_icmp .ne 7, 3) := by decide +kernel
theorem dX2_kindOf_42 : decode cX2_kindOf 42 = .ok (.iconst 4, 1) := by decide +kernel
theorem dX2_kindOf_43 : decode cX2_kindOf 43 = .ok (.goto 4, 3) := by decide +kernel
theorem dX2_kindOf_46 : decode cX2_kindOf 46 = .ok (.iconst 5, 1) := by decide +kernel
theorem dX2_kindOf_47 : decode cX2_kindOf 47 = .ok (.ireturn, 1) := by decide +kernel
def mX2_kindOf : MM := (yX2_kindOf, cX2_kindOf, 1, Option.some Jvm.ClassFile.FieldType.int, { frames := 0, cells := 0, slots := 0, locals := 0 })
def fX2_kindOf (σ0 : SS) (a0 : Int32) : Int32 :=
  vthen (fun (_u : Unit) =>
    vthen (fun (_u : Unit) =>
      if a0 = (44 : Int32) then (
        (3 : Int32)
        ) else (
        if a0 = (59 : Int32) then (
          (4 : Int32)
          ) else (
          (5 : Int32)
          )
        )
      ) fun j28 =>
    if a0 < (48 : Int32) then (
      j28 ()
      ) else (
      if (57 : Int32) < a0 then (
        j28 ()
        ) else (
        (2 : Int32)
        )
      )
    ) fun j14 =>
  if a0 < (97 : Int32) then (
    j14 ()
    ) else (
    if (122 : Int32) < a0 then (
      j14 ()
      ) else (
      (1 : Int32)
      )
    )

set_option maxRecDepth 20000 in
theorem sX2_kindOf {g : GG} {σ0 : SS} {a0 : Int32} {r : Int32} (hr : fX2_kindOf σ0 a0 = r)  : Ct g mX2_kindOf [.int a0] NF σ0 (some (.int r)) NF σ0 := by
  refine Ct.of (by decide +kernel) (nle rfl) fun hw0 => ?_
  have hw := hw0 rfl
  unfold fX2_kindOf at hr
  change RR g mX2_kindOf (FinR g mX2_kindOf (some (.int r)) NF σ0) zF 0 [(0, .int a0)] [] σ0
  refine r_iload_n (pc := 0) (j := 0) dX2_kindOf_0 rfl rfl ?_
  refine r_bipush (pc := 1) (v := (97 : Int32)) dX2_kindOf_1 rfl ?_
  obtain ⟨j14, ej14, hr⟩ := vth_ex hr
  have hj14 : j14 () = r → RR g mX2_kindOf (FinR g mX2_kindOf (some (.int r)) NF σ0) zF 14 [(0, .int a0)] [] σ0 := by
    intro  hr
    replace hr := (congrFun ej14 ()).symm.trans hr
    refine r_iload_n (pc := 14) (j := 0) dX2_kindOf_14 rfl rfl ?_
    refine r_bipush (pc := 15) (v := (48 : Int32)) dX2_kindOf_15 rfl ?_
    obtain ⟨j28, ej28, hr⟩ := vth_ex hr
    have hj28 : j28 () = r → RR g mX2_kindOf (FinR g mX2_kindOf (some (.int r)) NF σ0) zF 28 [(0, .int a0)] [] σ0 := by
      intro  hr
      replace hr := (congrFun ej28 ()).symm.trans hr
      refine r_iload_n (pc := 28) (j := 0) dX2_kindOf_28 rfl rfl ?_
      refine r_bipush (pc := 29) (v := (44 : Int32)) dX2_kindOf_29 rfl ?_
      refine r_icmp_ne (pc := 31) (tgt := 36) dX2_kindOf_31 rfl (fun hc => ?_) (fun hc => ?_)
      · replace hr := ite_f hc hr
        refine r_iload_n (pc := 36) (j := 0) dX2_kindOf_36 rfl rfl ?_
        refine r_bipush (pc := 37) (v := (59 : Int32)) dX2_kindOf_37 rfl ?_
        refine r_icmp_ne (pc := 39) (tgt := 46) dX2_kindOf_39 rfl (fun hc => ?_) (fun hc => ?_)
        · replace hr := ite_f hc hr
          refine r_iconst (pc := 46) (v := (5 : Int32)) dX2_kindOf_46 rfl ?_
          exact l_pi hr (r_iret (pc := 47) (v := (5 : Int32)) rfl rfl ⟨Nat.le_refl _, Nat.le_refl _⟩ dX2_kindOf_47)
        replace hr := ite_t hc hr
        refine r_iconst (pc := 42) (v := (4 : Int32)) dX2_kindOf_42 rfl ?_
        refine r_goto (pc := 43) (tgt := 47) dX2_kindOf_43 rfl ?_
        exact l_pi hr (r_iret (pc := 47) (v := (4 : Int32)) rfl rfl ⟨Nat.le_refl _, Nat.le_refl _⟩ dX2_kindOf_47)
      replace hr := ite_t hc hr
      refine r_iconst (pc := 34) (v := (3 : Int32)) dX2_kindOf_34 rfl ?_
      exact l_pi hr (r_iret (pc := 35) (v := (3 : Int32)) rfl rfl ⟨Nat.le_refl _, Nat.le_refl _⟩ dX2_kindOf_35)
    refine r_icmp_lt (pc := 17) (tgt := 28) dX2_kindOf_17 rfl (fun hc => ?_) (fun hc => ?_)
    · replace hr := ite_t hc hr
      exact r_pick (ls1 := [(0, .int a0)]) [0] rfl (hj28  hr)
    replace hr := ite_f hc hr
    refine r_iload_n (pc := 20) (j := 0) dX2_kindOf_20 rfl rfl ?_
    refine r_bipush (pc := 21) (v := (57 : Int32)) dX2_kindOf_21 rfl ?_
    refine r_icmp_gt (pc := 23) (tgt := 28) dX2_kindOf_23 rfl (fun hc => ?_) (fun hc => ?_)
    · replace hr := ite_t hc hr
      exact r_pick (ls1 := [(0, .int a0)]) [0] rfl (hj28  hr)
    replace hr := ite_f hc hr
    refine r_iconst (pc := 26) (v := (2 : Int32)) dX2_kindOf_26 rfl ?_
    exact l_pi hr (r_iret (pc := 27) (v := (2 : Int32)) rfl rfl ⟨Nat.le_refl _, Nat.le_refl _⟩ dX2_kindOf_27)
  refine r_icmp_lt (pc := 3) (tgt := 14) dX2_kindOf_3 rfl (fun hc => ?_) (fun hc => ?_)
  · replace hr := ite_t hc hr
    exact r_pick (ls1 := [(0, .int a0)]) [0] rfl (hj14  hr)
  replace hr := ite_f hc hr
  refine r_iload_n (pc := 6) (j := 0) dX2_kindOf_6 rfl rfl ?_
  refine r_bipush (pc := 7) (v := (122 : Int32)) dX2_kindOf_7 rfl ?_
  refine r_icmp_gt (pc := 9) (tgt := 14) dX2_kindOf_9 rfl (fun hc => ?_) (fun hc => ?_)
  · replace hr := ite_t hc hr
    exact r_pick (ls1 := [(0, .int a0)]) [0] rfl (hj14  hr)
  replace hr := ite_f hc hr
  refine r_iconst (pc := 12) (v := (1 : Int32)) dX2_kindOf_12 rfl ?_
  exact l_pi hr (r_iret (pc := 13) (v := (1 : Int32)) rfl rfl ⟨Nat.le_refl _, Nat.le_refl _⟩ dX2_kindOf_13)

theorem kX2_kindOf {g : GG} {σ0 : SS} {a0 : Int32} {v : Int32} {M : MM} {F : State → Array Value → List Frame → State → Prop} {pc index : Nat} {ls : List (Nat × Value)} {rest : List Value} (hf : fX2_kindOf σ0 a0 = v)  (hl : Cond.methodLink M.1.cls index yX2_kindOf ∈ lw_gt) (hR : mX2_kindOf.2.2.2.2.frames + 1 ≤ M.2.2.2.2.frames ∧ 8 + (mX2_kindOf.2.2.1 + 11) + mX2_kindOf.2.2.2.2.locals ≤ M.2.2.2.2.locals) (hrest : (rest.map fun v => v.category).sum ≤ 8) (hd : decode M.2.1 pc = .ok (.invokestatic index, 3)) (k : RR g M F zF (pc + 3) ls (.int v :: rest) σ0) : RR g M F zF pc ls (.int a0 :: rest) σ0 :=
  r_callS (z := zF) (N := mX2_kindOf) (nn := 1) (o1 := some (.int v)) (sX2_kindOf hf ) tw_3_172 tw_1_4 hl tw_3_171 ⟨by decide, by decide, rfl⟩ hR rfl hrest hd ⟨Nat.zero_le _, Nat.zero_le _⟩ rfl (fun h => k)

theorem dX2_numberRead_0 : decode cX2_numberRead 0 = .ok (.iconst 0, 1) := by decide +kernel
theorem dX2_numberRead_1 : decode cX2_numberRead 1 = .ok (.istore_n 1, 1) := by decide +kernel
theorem dX2_numberRead_2 : decode cX2_numberRead 2 = .ok (.aload_n 0, 1) := by decide +kernel
theorem dX2_numberRead_3 : decode cX2_numberRead 3 = .ok (.getfield 136, 3) := by decide +kernel
theorem dX2_numberRead_6 : decode cX2_numberRead 6 = .ok (.istore_n 2, 1) := by decide +kernel
theorem dX2_numberRead_7 : decode cX2_numberRead 7 = .ok (.iload_n 2, 1) := by decide +kernel
theorem dX2_numberRead_8 : decode cX2_numberRead 8 = .ok (.aload_n 0, 1) := by decide +kernel
theorem dX2_numberRead_9 : decode cX2_numberRead 9 = .ok (.getfield 31, 3) := by decide +kernel
theorem dX2_numberRead_12 : decode cX2_numberRead 12 = .ok (.if_icmp .ge 35, 3) := by decide +kernel
theorem dX2_numberRead_15 : decode cX2_numberRead 15 = .ok (.iload_n 1, 1) := by decide +kernel
theorem dX2_numberRead_16 : decode cX2_numberRead 16 = .ok (.bipush 10, 2) := by decide +kernel
theorem dX2_numberRead_18 : decode cX2_numberRead 18 = .ok (.imul, 1) := by decide +kernel
theorem dX2_numberRead_19 : decode cX2_numberRead 19 = .ok (.aload_n 0, 1) := by decide +kernel
theorem dX2_numberRead_20 : decode cX2_numberRead 20 = .ok (.getfield 9, 3) := by decide +kernel
theorem dX2_numberRead_23 : decode cX2_numberRead 23 = .ok (.iload_n 2, 1) := by decide +kernel
theorem dX2_numberRead_24 : decode cX2_numberRead 24 = .ok (.iaload, 1) := by decide +kernel
theorem dX2_numberRead_25 : decode cX2_numberRead 25 = .ok (.iadd, 1) := by decide +kernel
theorem dX2_numberRead_26 : decode cX2_numberRead 26 = .ok (.bipush 48, 2) := by decide +kernel
theorem dX2_numberRead_28 : decode cX2_numberRead 28 = .ok (.isub, 1) := by decide +kernel
theorem dX2_numberRead_29 : decode cX2_numberRead 29 = .ok (.istore_n 1, 1) := by decide +kernel
theorem dX2_numberRead_30 : decode cX2_numberRead 30 = .ok (.iload_n 1, 1) := by decide +kernel
theorem dX2_numberRead_31 : decode cX2_numberRead 31 = .ok (.sipush 999, 3) := by decide +kernel
theorem dX2_numberRead_34 : decode cX2_numberRead 34 = .ok (.if_icmp .le 7, 3) := by decide +kernel
theorem dX2_numberRead_37 : decode cX2_numberRead 37 = .ok (.sipush 999, 3) := by decide +kernel
theorem dX2_numberRead_40 : decode cX2_numberRead 40 = .ok (.istore_n 1, 1) := by decide +kernel
theorem dX2_numberRead_41 : decode cX2_numberRead 41 = .ok (.iinc 2 1, 3) := by decide +kernel
theorem dX2_numberRead_44 : decode cX2_numberRead 44 = .ok (.goto (-37), 3) := by decide +kernel
theorem dX2_numberRead_47 : decode cX2_numberRead 47 = .ok (.iload_n 1, 1) := by decide +kernel
theorem dX2_numberRead_48 : decode cX2_numberRead 48 = .ok (.ireturn, 1) := by decide +kernel
def mX2_numberRead : MM := (yX2_numberRead, cX2_numberRead, 3, Option.some Jvm.ClassFile.FieldType.int, { frames := 0, cells := 0, slots := 0, locals := 0 })
def X2_numberRead_L7 (σ_ : SS)   : Nat → Int32 → Int32 → Option Int32 :=
  lp (fun _ _ => none) fun rec v1_ v2_ =>
    if (gI σ_ 26 3) ≤ v2_ then (
      some v1_
      ) else (
      grd (inb v2_ 400) <|
      vthen (((v1_ * (10 : Int32)) + (gI σ_ 27 (Int32.toNatClampNeg v2_))) - (48 : Int32)) fun v3 =>
      if v3 ≤ (999 : Int32) then (
        rec v3 (v2_ + (1 : Int32))
        ) else (
        rec (999 : Int32) (v2_ + (1 : Int32))
        )
      )

def fX2_numberRead (σ0 : SS)  : Option Int32 :=
  vthen (gI σ0 26 2) fun v1 =>
  X2_numberRead_L7 σ0
  fuel (0 : Int32) v1

set_option maxRecDepth 20000 in
theorem sX2_numberRead_L7 {g : GG} {r : Int32} {σ_ : SS} {σ0 : SS}   
    (hw_ : WT σ_)
    (h0_ : σ_ = σ0)
    (n : Nat) : ∀ (v1_ : Int32) (v2_ : Int32), X2_numberRead_L7 σ_ n v1_ v2_ = some r → RR g mX2_numberRead (FinR g mX2_numberRead (some (.int r)) NF σ0) zF 7 [(0, .ref (ad g 26)), (1, .int v1_), (2, .int v2_)] [] σ_ := by
  unfold X2_numberRead_L7
  refine lp_ind (P := fun (rec : Int32 → Int32 → Option Int32) => ∀ (v1_ : Int32) (v2_ : Int32), rec v1_ v2_ = some r → RR g mX2_numberRead (FinR g mX2_numberRead (some (.int r)) NF σ0) zF 7 [(0, .ref (ad g 26)), (1, .int v1_), (2, .int v2_)] [] σ_) ?_ ?_ n
  · intro v1_ v2_ hr; cases hr
  intro rec ih v1_ v2_ hr
  subst h0_
  refine r_iload_n (pc := 7) (j := 2) dX2_numberRead_7 rfl rfl ?_
  refine r_aload_n (pc := 8) (j := 0) dX2_numberRead_8 rfl rfl ?_
  refine gf2_3 (pc := 9) tw_1_147 rfl dX2_numberRead_9 ?_
  refine r_icmp_ge (pc := 12) (tgt := 47) dX2_numberRead_12 rfl (fun hc => ?_) (fun hc => ?_)
  · replace hr := ite_t hc hr
    refine r_iload_n (pc := 47) (j := 1) dX2_numberRead_47 rfl rfl ?_
    exact l_opi hr (r_iret (pc := 48) (v := v1_) rfl rfl ⟨Nat.le_refl _, Nat.le_refl _⟩ dX2_numberRead_48)
  replace hr := ite_f hc hr
  refine r_iload_n (pc := 15) (j := 1) dX2_numberRead_15 rfl rfl ?_
  refine r_bipush (pc := 16) (v := (10 : Int32)) dX2_numberRead_16 rfl ?_
  refine r_imul (pc := 18) dX2_numberRead_18 ?_
  refine r_aload_n (pc := 19) (j := 0) dX2_numberRead_19 rfl rfl ?_
  refine gf2_0 (pc := 20) tw_1_144 hw_ dX2_numberRead_20 ?_
  refine r_iload_n (pc := 23) (j := 2) dX2_numberRead_23 rfl rfl ?_
  obtain ⟨h2, hr⟩ := grd_inv hr
  refine x_iald (pc := 24) (k := (Int32.toNatClampNeg v2_)) rfl h2 rfl dX2_numberRead_24 ?_
  refine r_iadd (pc := 25) dX2_numberRead_25 ?_
  refine r_bipush (pc := 26) (v := (48 : Int32)) dX2_numberRead_26 rfl ?_
  refine r_isub (pc := 28) dX2_numberRead_28 ?_
  refine r_topi fun v3 ev3 => ?_
  replace hr := vthen_inv hr v3 ev3
  refine r_istore_n (pc := 29) (ls1 := [(1, .int v3), (0, .ref (ad g 26)), (2, .int v2_)]) dX2_numberRead_29 rfl (nle rfl) rfl ?_
  refine r_iload_n (pc := 30) (j := 0) dX2_numberRead_30 rfl rfl ?_
  refine r_sipush (pc := 31) (v := (999 : Int32)) dX2_numberRead_31 rfl ?_
  refine r_icmp_le (pc := 34) (tgt := 41) dX2_numberRead_34 rfl (fun hc => ?_) (fun hc => ?_)
  · replace hr := ite_t hc hr
    refine r_iinc (pc := 41) (j := 2) (v := (v2_ + (1 : Int32))) (ls1 := [(2, .int (v2_ + (1 : Int32))), (1, .int v3), (0, .ref (ad g 26))]) dX2_numberRead_41 rfl rfl (nle rfl) rfl ?_
    refine r_goto (pc := 44) (tgt := 7) dX2_numberRead_44 rfl ?_
    exact r_pick (ls1 := [(0, .ref (ad g 26)), (1, .int v3), (2, .int (v2_ + (1 : Int32)))]) [2, 1, 0] rfl (ih v3 (v2_ + (1 : Int32)) hr)
  replace hr := ite_f hc hr
  refine r_sipush (pc := 37) (v := (999 : Int32)) dX2_numberRead_37 rfl ?_
  refine r_istore_n (pc := 40) (ls1 := [(1, .int (999 : Int32)), (0, .ref (ad g 26)), (2, .int v2_)]) dX2_numberRead_40 rfl (nle rfl) rfl ?_
  refine r_iinc (pc := 41) (j := 2) (v := (v2_ + (1 : Int32))) (ls1 := [(2, .int (v2_ + (1 : Int32))), (1, .int (999 : Int32)), (0, .ref (ad g 26))]) dX2_numberRead_41 rfl rfl (nle rfl) rfl ?_
  refine r_goto (pc := 44) (tgt := 7) dX2_numberRead_44 rfl ?_
  exact r_pick (ls1 := [(0, .ref (ad g 26)), (1, .int (999 : Int32)), (2, .int (v2_ + (1 : Int32)))]) [2, 1, 0] rfl (ih (999 : Int32) (v2_ + (1 : Int32)) hr)

set_option maxRecDepth 20000 in
theorem sX2_numberRead {g : GG} {σ0 : SS}  {r : Int32} (hr : fX2_numberRead σ0 = some r)  : Ct g mX2_numberRead [.ref (ad g 26)] NF σ0 (some (.int r)) NF σ0 := by
  refine Ct.of (by decide +kernel) (nle rfl) fun hw0 => ?_
  have hw := hw0 rfl
  unfold fX2_numberRead at hr
  change RR g mX2_numberRead (FinR g mX2_numberRead (some (.int r)) NF σ0) zF 0 [(0, .ref (ad g 26))] [] σ0
  refine r_iconst (pc := 0) (v := (0 : Int32)) dX2_numberRead_0 rfl ?_
  refine r_istore_n (pc := 1) (ls1 := [(1, .int (0 : Int32)), (0, .ref (ad g 26))]) dX2_numberRead_1 rfl (nle rfl) rfl ?_
  refine r_aload_n (pc := 2) (j := 1) dX2_numberRead_2 rfl rfl ?_
  refine gf2_2 (pc := 3) tw_1_146 rfl dX2_numberRead_3 ?_
  refine r_topi fun v1 ev1 => ?_
  replace hr := vthen_inv hr v1 ev1
  refine r_istore_n (pc := 6) (ls1 := [(2, .int v1), (1, .int (0 : Int32)), (0, .ref (ad g 26))]) dX2_numberRead_6 rfl (nle rfl) rfl ?_
  refine r_pick (ls1 := [(0, .ref (ad g 26)), (1, .int (0 : Int32)), (2, .int v1)]) [2, 1, 0] rfl ?_
  refine sX2_numberRead_L7  hw rfl  fuel (0 : Int32) v1 hr

theorem kX2_numberRead {g : GG} {σ0 : SS}  {v : Int32} {M : MM} {F : State → Array Value → List Frame → State → Prop} {pc index : Nat} {ls : List (Nat × Value)} {rest : List Value} (hf : fX2_numberRead σ0 = some v)  (hl : Cond.methodLink M.1.cls index yX2_numberRead ∈ lw_gt) (hR : mX2_numberRead.2.2.2.2.frames + 1 ≤ M.2.2.2.2.frames ∧ 8 + (mX2_numberRead.2.2.1 + 11) + mX2_numberRead.2.2.2.2.locals ≤ M.2.2.2.2.locals) (hrest : (rest.map fun v => v.category).sum ≤ 8) (hd : decode M.2.1 pc = .ok (.invokevirtual index, 3)) (k : RR g M F zF (pc + 3) ls (.int v :: rest) σ0) : RR g M F zF pc ls (.ref (ad g 26) :: rest) σ0 :=
  r_callV (z := zF) (N := mX2_numberRead) (nn := 0) (o1 := some (.int v)) (sX2_numberRead hf ) (rfl : shp 26 = (2, 0)) (by decide) (shp_le (rfl : shp 26 = (2, 0)) (nle rfl)) (ci := 2) rfl rfl tw_3_176 tw_1_4 hl tw_3_175 tp_14 ⟨by decide, by decide, rfl⟩ hR rfl hrest hd ⟨Nat.zero_le _, Nat.zero_le _⟩ rfl (fun h => k)

theorem dX2_advance_0 : decode cX2_advance 0 = .ok (.aload_n 0, 1) := by decide +kernel
theorem dX2_advance_1 : decode cX2_advance 1 = .ok (.aload_n 0, 1) := by decide +kernel
theorem dX2_advance_2 : decode cX2_advance 2 = .ok (.getfield 31, 3) := by decide +kernel
theorem dX2_advance_5 : decode cX2_advance 5 = .ok (.putfield 136, 3) := by decide +kernel
theorem dX2_advance_8 : decode cX2_advance 8 = .ok (.aload_n 0, 1) := by decide +kernel
theorem dX2_advance_9 : decode cX2_advance 9 = .ok (.getfield 136, 3) := by decide +kernel
theorem dX2_advance_12 : decode cX2_advance 12 = .ok (.aload_n 0, 1) := by decide +kernel
theorem dX2_advance_13 : decode cX2_advance 13 = .ok (.getfield 21, 3) := by decide +kernel
theorem dX2_advance_16 : decode cX2_advance 16 = .ok (.if_icmp .ge 44, 3) := by decide +kernel
theorem dX2_advance_19 : decode cX2_advance 19 = .ok (.aload_n 0, 1) := by decide +kernel
theorem dX2_advance_20 : decode cX2_advance 20 = .ok (.getfield 9, 3) := by decide +kernel
theorem dX2_advance_23 : decode cX2_advance 23 = .ok (.aload_n 0, 1) := by decide +kernel
theorem dX2_advance_24 : decode cX2_advance 24 = .ok (.getfield 136, 3) := by decide +kernel
theorem dX2_advance_27 : decode cX2_advance 27 = .ok (.iaload, 1) := by decide +kernel
theorem dX2_advance_28 : decode cX2_advance 28 = .ok (.bipush 32, 2) := by decide +kernel
theorem dX2_advance_30 : decode cX2_advance 30 = .ok (.if_icmp .eq 17, 3) := by decide +kernel
theorem dX2_advance_33 : decode cX2_advance 33 = .ok (.aload_n 0, 1) := by decide +kernel
theorem dX2_advance_34 : decode cX2_advance 34 = .ok (.getfield 9, 3) := by decide +kernel
theorem dX2_advance_37 : decode cX2_advance 37 = .ok (.aload_n 0, 1) := by decide +kernel
theorem dX2_advance_38 : decode cX2_advance 38 = .ok (.getfield 136, 3) := by decide +kernel
theorem dX2_advance_41 : decode cX2_advance 41 = .ok (.iaload, 1) := by decide +kernel
theorem dX2_advance_42 : decode cX2_advance 42 = .ok (.bipush 10, 2) := by decide +kernel
theorem dX2_advance_44 : decode cX2_advance 44 = .ok (.if_icmp .ne 16, 3) := by decide +kernel
theorem dX2_advance_47 : decode cX2_advance 47 = .ok (.aload_n 0, 1) := by decide +kernel
theorem dX2_advance_48 : decode cX2_advance 48 = .ok (.dup, 1) := by decide +kernel
theorem dX2_advance_49 : decode cX2_advance 49 = .ok (.getfield 136, 3) := by decide +kernel
theorem dX2_advance_52 : decode cX2_advance 52 = .ok (.iconst 1, 1) := by decide +kernel
theorem dX2_advance_53 : decode cX2_advance 53 = .ok (.iadd, 1) := by decide +kernel
theorem dX2_advance_54 : decode cX2_advance 54 = .ok (.putfield 136, 3) := by decide +kernel
theorem dX2_advance_57 : decode cX2_advance 57 = .ok (.goto (-49), 3) := by decide +kernel
theorem dX2_advance_60 : decode cX2_advance 60 = .ok (.aload_n 0, 1) := by decide +kernel
theorem dX2_advance_61 : decode cX2_advance 61 = .ok (.aload_n 0, 1) := by decide +kernel
theorem dX2_advance_62 : decode cX2_advance 62 = .ok (.getfield 136, 3) := by decide +kernel
theorem dX2_advance_65 : decode cX2_advance 65 = .ok (.putfield 31, 3) := by decide +kernel
theorem dX2_advance_68 : decode cX2_advance 68 = .ok (.aload_n 0, 1) := by decide +kernel
theorem dX2_advance_69 : decode cX2_advance 69 = .ok (.getfield 136, 3) := by decide +kernel
theorem dX2_advance_72 : decode cX2_advance 72 = .ok (.aload_n 0, 1) := by decide +kernel
theorem dX2_advance_73 : decode cX2_advance 73 = .ok (.getfield 21, 3) := by decide +kernel
theorem dX2_advance_76 : decode cX2_advance 76 = .ok (.if_icmp .lt 9, 3) := by decide +kernel
theorem dX2_advance_79 : decode cX2_advance 79 = .ok (.aload_n 0, 1) := by decide +kernel
theorem dX2_advance_80 : decode cX2_advance 80 = .ok (.iconst 0, 1) := by decide +kernel
theorem dX2_advance_81 : decode cX2_advance 81 = .ok (.putfield 87, 3) := by decide +kernel
theorem dX2_advance_84 : decode cX2_advance 84 = .ok (.return_, 1) := by decide +kernel
theorem dX2_advance_85 : decode cX2_advance 85 = .ok (.aload_n 0, 1) := by decide +kernel
theorem dX2_advance_86 : decode cX2_advance 86 = .ok (.aload_n 0, 1) := by decide +kernel
theorem dX2_advance_87 : decode cX2_advance 87 = .ok (.getfield 9, 3) := by decide +kernel
theorem dX2_advance_90 : decode cX2_advance 90 = .ok (.aload_n 0, 1) := by decide +kernel
theorem dX2_advance_91 : decode cX2_advance 91 = .ok (.getfield 136, 3) := by decide +kernel
theorem dX2_advance_94 : decode cX2_advance 94 = .ok (.iaload, 1) := by decide +kernel
theorem dX2_advance_95 : decode cX2_advance 95 = .ok (.invokestatic 159, 3) := by decide +kernel
theorem dX2_advance_98 : decode cX2_advance 98 = .ok (.putfield 87, 3) := by decide +kernel
theorem dX2_advance_101 : decode cX2_advance 101 = .ok (.aload_n 0, 1) := by decide +kernel
theorem dX2_advance_102 : decode cX2_advance 102 = .ok (.dup, 1) := by decide +kernel
theorem dX2_advance_103 : decode cX2_advance 103 = .ok (.getfield 31, 3) := by decide +kernel
theorem dX2_advance_106 : decode cX2_advance 106 = .ok (.iconst 1, 1) := by decide +kernel
theorem dX2_advance_107 : decode cX2_advance 107 = .ok (.iadd, 1) := by decide +kernel
theorem dX2_advance_108 : decode cX2_advance 108 = .ok (.putfield 31, 3) := by decide +kernel
theorem dX2_advance_111 : decode cX2_advance 111 = .ok (.aload_n 0, 1) := by decide +kernel
theorem dX2_advance_112 : decode cX2_advance 112 = .ok (.getfield 87, 3) := by decide +kernel
theorem dX2_advance_115 : decode cX2_advance 115 = .ok (.iconst 1, 1) := by decide +kernel
theorem dX2_advance_116 : decode cX2_advance 116 = .ok (.if_icmp .eq 11, 3) := by decide +kernel
theorem dX2_advance_119 : decode cX2_advance 119 = .ok (.aload_n 0, 1) := by decide +kernel
theorem dX2_advance_120 : decode cX2_advance 120 = .ok (.getfield 87, 3) := by decide +kernel
theorem dX2_advance_123 : decode cX2_advance 123 = .ok (.iconst 2, 1) := by decide +kernel
theorem dX2_advance_124 : decode cX2_advance 124 = .ok (.if_icmp .ne 46, 3) := by decide +kernel
theorem dX2_advance_127 : decode cX2_advance 127 = .ok (.aload_n 0, 1) := by decide +kernel
theorem dX2_advance_128 : decode cX2_advance 128 = .ok (.getfield 31, 3) := by decide +kernel
theorem dX2_advance_131 : decode cX2_advance 131 = .ok (.aload_n 0, 1) := by decide +kernel
theorem dX2_advance_132 : decode cX2_advance 132 = .ok (.getfield 21, 3) := by decide +kernel
theorem dX2_advance_135 : decode cX2_advance 135 = .ok (.if_icmp .ge 35, 3) := by decide +kernel
theorem dX2_advance_138 : decode cX2_advance 138 = .ok (.aload_n 0, 1) := by decide +kernel
theorem dX2_advance_139 : decode cX2_advance 139 = .ok (.getfield 9, 3) := by decide +kernel
theorem dX2_advance_142 : decode cX2_advance 142 = .ok (.aload_n 0, 1) := by decide +kernel
theorem dX2_advance_143 : decode cX2_advance 143 = .ok (.getfield 31, 3) := by decide +kernel
theorem dX2_advance_146 : decode cX2_advance 146 = .ok (.iaload, 1) := by decide +kernel
theorem dX2_advance_147 : decode cX2_advance 147 = .ok (.invokestatic 159, 3) := by decide +kernel
theorem dX2_advance_150 : decode cX2_advance 150 = .ok (.aload_n 0, 1) := by decide +kernel
theorem dX2_advance_151 : decode cX2_advance 151 = .ok (.getfield 87, 3) := by decide +kernel
theorem dX2_advance_154 : decode cX2_advance 154 = .ok (.if_icmp .ne 16, 3) := by decide +kernel
theorem dX2_advance_157 : decode cX2_advance 157 = .ok (.aload_n 0, 1) := by decide +kernel
theorem dX2_advance_158 : decode cX2_advance 158 = .ok (.dup, 1) := by decide +kernel
theorem dX2_advance_159 : decode cX2_advance 159 = .ok (.getfield 31, 3) := by decide +kernel
theorem dX2_advance_162 : decode cX2_advance 162 = .ok (.iconst 1, 1) := by decide +kernel
theorem dX2_advance_163 : decode cX2_advance 163 = .ok (.iadd, 1) := by decide +kernel
theorem dX2_advance_164 : decode cX2_advance 164 = .ok (.putfield 31, 3) := by decide +kernel
theorem dX2_advance_167 : decode cX2_advance 167 = .ok (.goto (-40), 3) := by decide +kernel
theorem dX2_advance_170 : decode cX2_advance 170 = .ok (.aload_n 0, 1) := by decide +kernel
theorem dX2_advance_171 : decode cX2_advance 171 = .ok (.getfield 87, 3) := by decide +kernel
theorem dX2_advance_174 : decode cX2_advance 174 = .ok (.iconst 2, 1) := by decide +kernel
theorem dX2_advance_175 : decode cX2_advance 175 = .ok (.if_icmp .ne 11, 3) := by decide +kernel
theorem dX2_advance_178 : decode cX2_advance 178 = .ok (.aload_n 0, 1) := by decide +kernel
theorem dX2_advance_179 : decode cX2_advance 179 = .ok (.aload_n 0, 1) := by decide +kernel
theorem dX2_advance_180 : decode cX2_advance 180 = .ok (.invokevirtual 163, 3) := by decide +kernel
theorem dX2_advance_183 : decode cX2_advance 183 = .ok (.putfield 120, 3) := by decide +kernel
theorem dX2_advance_186 : decode cX2_advance 186 = .ok (.return_, 1) := by decide +kernel
def mX2_advance : MM := (yX2_advance, cX2_advance, 1, none, { frames := 1, cells := 0, slots := 0, locals := 22 })
def X2_advance_L8  (k60 : SS → Option SS) : Nat → SS → Option SS :=
  lp (fun _ => none) fun rec σ_ =>
    if (gI σ_ 26 1) ≤ (gI σ_ 26 2) then (
      k60 σ_
      ) else (
      grd (inb (gI σ_ 26 2) 400) <|
      vthen (fun (_u : Unit) =>
        vthen (sI σ_ 26 2 ((gI σ_ 26 2) + (1 : Int32))) fun σ3 =>
        rec σ3
        ) fun j47 =>
      if (gI σ_ 27 (Int32.toNatClampNeg (gI σ_ 26 2))) = (32 : Int32) then (
        j47 ()
        ) else (
        if (gI σ_ 27 (Int32.toNatClampNeg (gI σ_ 26 2))) = (10 : Int32) then (
          j47 ()
          ) else (
          k60 σ_
          )
        )
      )

def X2_advance_L127  (k170 : SS → Option SS) : Nat → SS → Option SS :=
  lp (fun _ => none) fun rec σ_ =>
    if (gI σ_ 26 1) ≤ (gI σ_ 26 3) then (
      k170 σ_
      ) else (
      grd (inb (gI σ_ 26 3) 400) <|
      if (fX2_kindOf σ_ (gI σ_ 27 (Int32.toNatClampNeg (gI σ_ 26 3)))) = (gI σ_ 26 4) then (
        vthen (sI σ_ 26 3 ((gI σ_ 26 3) + (1 : Int32))) fun σ15 =>
        rec σ15
        ) else (
        k170 σ_
        )
      )

def fX2_advance (σ : SS)  : Option SS :=
  vthen (sI σ 26 2 (gI σ 26 3)) fun σ1 =>
  X2_advance_L8
  (fun σ4 =>
    vthen (sI σ4 26 3 (gI σ4 26 2)) fun σ5 =>
    if (gI σ5 26 2) < (gI σ5 26 1) then (
      grd (inb (gI σ5 26 2) 400) <|
      vthen (sI σ5 26 4 (fX2_kindOf σ5 (gI σ5 27 (Int32.toNatClampNeg (gI σ5 26 2))))) fun σ7 =>
      vthen (sI σ7 26 3 ((gI σ7 26 3) + (1 : Int32))) fun σ8 =>
      vthen (fun  (σ9 : SS) =>
        if (gI σ9 26 4) = (2 : Int32) then (
          bnd1 (fX2_numberRead σ9) fun v10 =>
          vthen (sI σ9 26 5 v10) fun σ13 =>
          some σ13
          ) else (
          some σ9
          )
        ) fun j170 =>
      vthen (fun (_u : Unit) =>
        X2_advance_L127
        (fun σ16 =>
          j170 σ16
          )
        fuel σ8
        ) fun j127 =>
      if (gI σ8 26 4) = (1 : Int32) then (
        j127 ()
        ) else (
        if (gI σ8 26 4) = (2 : Int32) then (
          j127 ()
          ) else (
          j170 σ8
          )
        )
      ) else (
      vthen (sI σ5 26 4 (0 : Int32)) fun σ17 =>
      some σ17
      )
    )
  fuel σ1

set_option maxRecDepth 20000 in
theorem sX2_advance_L8 {g : GG} {r : SS}  {k60 : SS → Option SS} 
    (hk60 : ∀ (σ_ : SS), k60 σ_ = some r → WT σ_ → RR g mX2_advance (FinR g mX2_advance none NF r) zF 60 [(0, .ref (ad g 26))] [] σ_)
    (n : Nat) : ∀ (σ_ : SS), X2_advance_L8 k60 n σ_ = some r → WT σ_ → RR g mX2_advance (FinR g mX2_advance none NF r) zF 8 [(0, .ref (ad g 26))] [] σ_ := by
  unfold X2_advance_L8
  refine lp_ind (P := fun (rec : SS → Option SS) => ∀ (σ_ : SS), rec σ_ = some r → WT σ_ → RR g mX2_advance (FinR g mX2_advance none NF r) zF 8 [(0, .ref (ad g 26))] [] σ_) ?_ ?_ n
  · intro σ_ hr; cases hr
  intro rec ih σ_ hr hw_
  refine r_aload_n (pc := 8) (j := 0) dX2_advance_8 rfl rfl ?_
  refine gf2_2 (pc := 9) tw_1_146 rfl dX2_advance_9 ?_
  refine r_aload_n (pc := 12) (j := 0) dX2_advance_12 rfl rfl ?_
  refine gf2_1 (pc := 13) tw_1_145 rfl dX2_advance_13 ?_
  refine r_icmp_ge (pc := 16) (tgt := 60) dX2_advance_16 rfl (fun hc => ?_) (fun hc => ?_)
  · replace hr := ite_t hc hr
    exact r_pick (ls1 := [(0, .ref (ad g 26))]) [0] rfl (hk60 σ_ hr hw_)
  replace hr := ite_f hc hr
  refine r_aload_n (pc := 19) (j := 0) dX2_advance_19 rfl rfl ?_
  refine gf2_0 (pc := 20) tw_1_144 hw_ dX2_advance_20 ?_
  refine r_aload_n (pc := 23) (j := 0) dX2_advance_23 rfl rfl ?_
  refine gf2_2 (pc := 24) tw_1_146 rfl dX2_advance_24 ?_
  obtain ⟨h2, hr⟩ := grd_inv hr
  refine x_iald (pc := 27) (k := (Int32.toNatClampNeg (gI σ_ 26 2))) rfl h2 rfl dX2_advance_27 ?_
  refine r_bipush (pc := 28) (v := (32 : Int32)) dX2_advance_28 rfl ?_
  obtain ⟨j47, ej47, hr⟩ := vth_ex hr
  have hj47 : j47 () = some r → RR g mX2_advance (FinR g mX2_advance none NF r) zF 47 [(0, .ref (ad g 26))] [] σ_ := by
    intro  hr
    replace hr := (congrFun ej47 ()).symm.trans hr
    refine r_aload_n (pc := 47) (j := 0) dX2_advance_47 rfl rfl ?_
    refine r_dup (pc := 48) dX2_advance_48 rfl ?_
    refine gf2_2 (pc := 49) tw_1_146 rfl dX2_advance_49 ?_
    refine r_iconst (pc := 52) (v := (1 : Int32)) dX2_advance_52 rfl ?_
    refine r_iadd (pc := 53) dX2_advance_53 ?_
    refine pf2_2 (pc := 54) tw_1_146 rfl dX2_advance_54 fun σ3 eσ3 => ?_
    replace hr := vthen_inv hr σ3 eσ3
    have hσ3 := wtI eσ3 hw_
    refine r_goto (pc := 57) (tgt := 8) dX2_advance_57 rfl ?_
    exact r_pick (ls1 := [(0, .ref (ad g 26))]) [0] rfl (ih σ3 hr hσ3)
  refine r_icmp_eq (pc := 30) (tgt := 47) dX2_advance_30 rfl (fun hc => ?_) (fun hc => ?_)
  · replace hr := ite_t hc hr
    exact r_pick (ls1 := [(0, .ref (ad g 26))]) [0] rfl (hj47  hr)
  replace hr := ite_f hc hr
  refine r_aload_n (pc := 33) (j := 0) dX2_advance_33 rfl rfl ?_
  refine gf2_0 (pc := 34) tw_1_144 hw_ dX2_advance_34 ?_
  refine r_aload_n (pc := 37) (j := 0) dX2_advance_37 rfl rfl ?_
  refine gf2_2 (pc := 38) tw_1_146 rfl dX2_advance_38 ?_
  refine x_iald (pc := 41) (k := (Int32.toNatClampNeg (gI σ_ 26 2))) rfl h2 rfl dX2_advance_41 ?_
  refine r_bipush (pc := 42) (v := (10 : Int32)) dX2_advance_42 rfl ?_
  refine r_icmp_ne (pc := 44) (tgt := 60) dX2_advance_44 rfl (fun hc => ?_) (fun hc => ?_)
  · replace hr := ite_f hc hr
    exact r_pick (ls1 := [(0, .ref (ad g 26))]) [0] rfl (hk60 σ_ hr hw_)
  replace hr := ite_t hc hr
  exact r_pick (ls1 := [(0, .ref (ad g 26))]) [0] rfl (hj47  hr)

set_option maxRecDepth 20000 in
theorem sX2_advance_L127 {g : GG} {r : SS}  {k170 : SS → Option SS} 
    (hk170 : ∀ (σ_ : SS), k170 σ_ = some r → WT σ_ → RR g mX2_advance (FinR g mX2_advance none NF r) zF 170 [(0, .ref (ad g 26))] [] σ_)
    (n : Nat) : ∀ (σ_ : SS), X2_advance_L127 k170 n σ_ = some r → WT σ_ → RR g mX2_advance (FinR g mX2_advance none NF r) zF 127 [(0, .ref (ad g 26))] [] σ_ := by
  unfold X2_advance_L127
  refine lp_ind (P := fun (rec : SS → Option SS) => ∀ (σ_ : SS), rec σ_ = some r → WT σ_ → RR g mX2_advance (FinR g mX2_advance none NF r) zF 127 [(0, .ref (ad g 26))] [] σ_) ?_ ?_ n
  · intro σ_ hr; cases hr
  intro rec ih σ_ hr hw_
  refine r_aload_n (pc := 127) (j := 0) dX2_advance_127 rfl rfl ?_
  refine gf2_3 (pc := 128) tw_1_147 rfl dX2_advance_128 ?_
  refine r_aload_n (pc := 131) (j := 0) dX2_advance_131 rfl rfl ?_
  refine gf2_1 (pc := 132) tw_1_145 rfl dX2_advance_132 ?_
  refine r_icmp_ge (pc := 135) (tgt := 170) dX2_advance_135 rfl (fun hc => ?_) (fun hc => ?_)
  · replace hr := ite_t hc hr
    exact r_pick (ls1 := [(0, .ref (ad g 26))]) [0] rfl (hk170 σ_ hr hw_)
  replace hr := ite_f hc hr
  refine r_aload_n (pc := 138) (j := 0) dX2_advance_138 rfl rfl ?_
  refine gf2_0 (pc := 139) tw_1_144 hw_ dX2_advance_139 ?_
  refine r_aload_n (pc := 142) (j := 0) dX2_advance_142 rfl rfl ?_
  refine gf2_3 (pc := 143) tw_1_147 rfl dX2_advance_143 ?_
  obtain ⟨h14, hr⟩ := grd_inv hr
  refine x_iald (pc := 146) (k := (Int32.toNatClampNeg (gI σ_ 26 3))) rfl h14 rfl dX2_advance_146 ?_
  refine kX2_kindOf (pc := 147) (hf := rfl) tw_3_170 ⟨nle rfl, nle rfl⟩ (nle rfl) dX2_advance_147 ?_
  refine r_aload_n (pc := 150) (j := 0) dX2_advance_150 rfl rfl ?_
  refine gf2_4 (pc := 151) tw_1_148 rfl dX2_advance_151 ?_
  refine r_icmp_ne (pc := 154) (tgt := 170) dX2_advance_154 rfl (fun hc => ?_) (fun hc => ?_)
  · replace hr := ite_f hc hr
    exact r_pick (ls1 := [(0, .ref (ad g 26))]) [0] rfl (hk170 σ_ hr hw_)
  replace hr := ite_t hc hr
  refine r_aload_n (pc := 157) (j := 0) dX2_advance_157 rfl rfl ?_
  refine r_dup (pc := 158) dX2_advance_158 rfl ?_
  refine gf2_3 (pc := 159) tw_1_147 rfl dX2_advance_159 ?_
  refine r_iconst (pc := 162) (v := (1 : Int32)) dX2_advance_162 rfl ?_
  refine r_iadd (pc := 163) dX2_advance_163 ?_
  refine pf2_3 (pc := 164) tw_1_147 rfl dX2_advance_164 fun σ15 eσ15 => ?_
  replace hr := vthen_inv hr σ15 eσ15
  have hσ15 := wtI eσ15 hw_
  refine r_goto (pc := 167) (tgt := 127) dX2_advance_167 rfl ?_
  exact r_pick (ls1 := [(0, .ref (ad g 26))]) [0] rfl (ih σ15 hr hσ15)

set_option maxRecDepth 20000 in
theorem sX2_advance {g : GG} {σ : SS}  {r : SS} (hr : fX2_advance σ = some r)  : Ct g mX2_advance [.ref (ad g 26)] NF σ none NF r := by
  refine Ct.of (by decide +kernel) (nle rfl) fun hw0 => ?_
  have hw := hw0 rfl
  unfold fX2_advance at hr
  change RR g mX2_advance (FinR g mX2_advance none NF r) zF 0 [(0, .ref (ad g 26))] [] σ
  refine r_aload_n (pc := 0) (j := 0) dX2_advance_0 rfl rfl ?_
  refine r_aload_n (pc := 1) (j := 0) dX2_advance_1 rfl rfl ?_
  refine gf2_3 (pc := 2) tw_1_147 rfl dX2_advance_2 ?_
  refine pf2_2 (pc := 5) tw_1_146 rfl dX2_advance_5 fun σ1 eσ1 => ?_
  replace hr := vthen_inv hr σ1 eσ1
  have hσ1 := wtI eσ1 hw
  refine r_pick (ls1 := [(0, .ref (ad g 26))]) [0] rfl ?_
  refine sX2_advance_L8    (fun σ4 hr hσ4 => ?_) fuel σ1 hr hσ1
  refine r_aload_n (pc := 60) (j := 0) dX2_advance_60 rfl rfl ?_
  refine r_aload_n (pc := 61) (j := 0) dX2_advance_61 rfl rfl ?_
  refine gf2_2 (pc := 62) tw_1_146 rfl dX2_advance_62 ?_
  refine pf2_3 (pc := 65) tw_1_147 rfl dX2_advance_65 fun σ5 eσ5 => ?_
  replace hr := vthen_inv hr σ5 eσ5
  have hσ5 := wtI eσ5 hσ4
  refine r_aload_n (pc := 68) (j := 0) dX2_advance_68 rfl rfl ?_
  refine gf2_2 (pc := 69) tw_1_146 rfl dX2_advance_69 ?_
  refine r_aload_n (pc := 72) (j := 0) dX2_advance_72 rfl rfl ?_
  refine gf2_1 (pc := 73) tw_1_145 rfl dX2_advance_73 ?_
  refine r_icmp_lt (pc := 76) (tgt := 85) dX2_advance_76 rfl (fun hc => ?_) (fun hc => ?_)
  · replace hr := ite_t hc hr
    refine r_aload_n (pc := 85) (j := 0) dX2_advance_85 rfl rfl ?_
    refine r_aload_n (pc := 86) (j := 0) dX2_advance_86 rfl rfl ?_
    refine gf2_0 (pc := 87) tw_1_144 hσ5 dX2_advance_87 ?_
    refine r_aload_n (pc := 90) (j := 0) dX2_advance_90 rfl rfl ?_
    refine gf2_2 (pc := 91) tw_1_146 rfl dX2_advance_91 ?_
    obtain ⟨h6, hr⟩ := grd_inv hr
    refine x_iald (pc := 94) (k := (Int32.toNatClampNeg (gI σ5 26 2))) rfl h6 rfl dX2_advance_94 ?_
    refine kX2_kindOf (pc := 95) (hf := rfl) tw_3_170 ⟨nle rfl, nle rfl⟩ (nle rfl) dX2_advance_95 ?_
    refine pf2_4 (pc := 98) tw_1_148 rfl dX2_advance_98 fun σ7 eσ7 => ?_
    replace hr := vthen_inv hr σ7 eσ7
    have hσ7 := wtI eσ7 hσ5
    refine r_aload_n (pc := 101) (j := 0) dX2_advance_101 rfl rfl ?_
    refine r_dup (pc := 102) dX2_advance_102 rfl ?_
    refine gf2_3 (pc := 103) tw_1_147 rfl dX2_advance_103 ?_
    refine r_iconst (pc := 106) (v := (1 : Int32)) dX2_advance_106 rfl ?_
    refine r_iadd (pc := 107) dX2_advance_107 ?_
    refine pf2_3 (pc := 108) tw_1_147 rfl dX2_advance_108 fun σ8 eσ8 => ?_
    replace hr := vthen_inv hr σ8 eσ8
    have hσ8 := wtI eσ8 hσ7
    refine r_aload_n (pc := 111) (j := 0) dX2_advance_111 rfl rfl ?_
    refine gf2_4 (pc := 112) tw_1_148 rfl dX2_advance_112 ?_
    refine r_iconst (pc := 115) (v := (1 : Int32)) dX2_advance_115 rfl ?_
    obtain ⟨j170, ej170, hr⟩ := vth_ex hr
    have hj170 : ∀ (σ9 : SS), j170 σ9 = some r → WT σ9 → RR g mX2_advance (FinR g mX2_advance none NF r) zF 170 [(0, .ref (ad g 26))] [] σ9 := by
      intro σ9 hr hσ9
      replace hr := (congrFun ej170 σ9).symm.trans hr
      refine r_aload_n (pc := 170) (j := 0) dX2_advance_170 rfl rfl ?_
      refine gf2_4 (pc := 171) tw_1_148 rfl dX2_advance_171 ?_
      refine r_iconst (pc := 174) (v := (2 : Int32)) dX2_advance_174 rfl ?_
      refine r_icmp_ne (pc := 175) (tgt := 186) dX2_advance_175 rfl (fun hc => ?_) (fun hc => ?_)
      · replace hr := ite_f hc hr
        exact l_ov hr (r_vret (pc := 186) rfl rfl ⟨Nat.le_refl _, Nat.le_refl _⟩ dX2_advance_186)
      replace hr := ite_t hc hr
      refine r_aload_n (pc := 178) (j := 0) dX2_advance_178 rfl rfl ?_
      refine r_aload_n (pc := 179) (j := 0) dX2_advance_179 rfl rfl ?_
      obtain ⟨v10, hv10, hr⟩ := bnd1_inv hr
      refine kX2_numberRead (pc := 180) hv10 tw_3_173 ⟨nle rfl, nle rfl⟩ (nle rfl) dX2_advance_180 ?_
      refine pf2_5 (pc := 183) tw_1_149 rfl dX2_advance_183 fun σ13 eσ13 => ?_
      replace hr := vthen_inv hr σ13 eσ13
      have hσ13 := wtI eσ13 hσ9
      exact l_ov hr (r_vret (pc := 186) rfl rfl ⟨Nat.le_refl _, Nat.le_refl _⟩ dX2_advance_186)
    obtain ⟨j127, ej127, hr⟩ := vth_ex hr
    have hj127 : j127 () = some r → RR g mX2_advance (FinR g mX2_advance none NF r) zF 127 [(0, .ref (ad g 26))] [] σ8 := by
      intro  hr
      replace hr := (congrFun ej127 ()).symm.trans hr
      refine r_pick (ls1 := [(0, .ref (ad g 26))]) [0] rfl ?_
      refine sX2_advance_L127    (fun σ16 hr hσ16 => ?_) fuel σ8 hr hσ8
      exact r_pick (ls1 := [(0, .ref (ad g 26))]) [0] rfl (hj170 σ16 hr hσ16)
    refine r_icmp_eq (pc := 116) (tgt := 127) dX2_advance_116 rfl (fun hc => ?_) (fun hc => ?_)
    · replace hr := ite_t hc hr
      exact r_pick (ls1 := [(0, .ref (ad g 26))]) [0] rfl (hj127  hr)
    replace hr := ite_f hc hr
    refine r_aload_n (pc := 119) (j := 0) dX2_advance_119 rfl rfl ?_
    refine gf2_4 (pc := 120) tw_1_148 rfl dX2_advance_120 ?_
    refine r_iconst (pc := 123) (v := (2 : Int32)) dX2_advance_123 rfl ?_
    refine r_icmp_ne (pc := 124) (tgt := 170) dX2_advance_124 rfl (fun hc => ?_) (fun hc => ?_)
    · replace hr := ite_f hc hr
      exact r_pick (ls1 := [(0, .ref (ad g 26))]) [0] rfl (hj170 σ8 hr hσ8)
    replace hr := ite_t hc hr
    exact r_pick (ls1 := [(0, .ref (ad g 26))]) [0] rfl (hj127  hr)
  replace hr := ite_f hc hr
  refine r_aload_n (pc := 79) (j := 0) dX2_advance_79 rfl rfl ?_
  refine r_iconst (pc := 80) (v := (0 : Int32)) dX2_advance_80 rfl ?_
  refine pf2_4 (pc := 81) tw_1_148 rfl dX2_advance_81 fun σ17 eσ17 => ?_
  replace hr := vthen_inv hr σ17 eσ17
  have hσ17 := wtI eσ17 hσ5
  exact l_ov hr (r_vret (pc := 84) rfl rfl ⟨Nat.le_refl _, Nat.le_refl _⟩ dX2_advance_84)

theorem kX2_advance {g : GG} {σ : SS}  {σ2 : SS} {M : MM} {F : State → Array Value → List Frame → State → Prop} {pc index : Nat} {ls : List (Nat × Value)} {rest : List Value} (hf : fX2_advance σ = some σ2)  (hl : Cond.methodLink M.1.cls index yX2_advance ∈ lw_gt) (hR : mX2_advance.2.2.2.2.frames + 1 ≤ M.2.2.2.2.frames ∧ 8 + (mX2_advance.2.2.1 + 11) + mX2_advance.2.2.2.2.locals ≤ M.2.2.2.2.locals) (hrest : (rest.map fun v => v.category).sum ≤ 8) (hd : decode M.2.1 pc = .ok (.invokevirtual index, 3)) (k : WT σ2 → RR g M F zF (pc + 3) ls rest σ2) : RR g M F zF pc ls (.ref (ad g 26) :: rest) σ :=
  r_callV (z := zF) (N := mX2_advance) (nn := 0) (o1 := none) (sX2_advance hf ) (rfl : shp 26 = (2, 0)) (by decide) (shp_le (rfl : shp 26 = (2, 0)) (nle rfl)) (ci := 2) rfl rfl tw_3_169 tw_1_4 hl tw_3_168 tp_13 ⟨by decide, by decide, rfl⟩ hR rfl hrest hd ⟨Nat.zero_le _, Nat.zero_le _⟩ rfl (fun h => k (h rfl))

theorem dX2_isWord_0 : decode cX2_isWord 0 = .ok (.aload_n 0, 1) := by decide +kernel
theorem dX2_isWord_1 : decode cX2_isWord 1 = .ok (.getfield 87, 3) := by decide +kernel
theorem dX2_isWord_4 : decode cX2_isWord 4 = .ok (.iconst 1, 1) := by decide +kernel
theorem dX2_isWord_5 : decode cX2_isWord 5 = .ok (.if_icmp .ne 19, 3) := by decide +kernel
theorem dX2_isWord_8 : decode cX2_isWord 8 = .ok (.aload_n 0, 1) := by decide +kernel
theorem dX2_isWord_9 : decode cX2_isWord 9 = .ok (.getfield 31, 3) := by decide +kernel
theorem dX2_isWord_12 : decode cX2_isWord 12 = .ok (.aload_n 0, 1) := by decide +kernel
theorem dX2_isWord_13 : decode cX2_isWord 13 = .ok (.getfield 136, 3) := by decide +kernel
theorem dX2_isWord_16 : decode cX2_isWord 16 = .ok (.isub, 1) := by decide +kernel
theorem dX2_isWord_17 : decode cX2_isWord 17 = .ok (.aload_n 1, 1) := by decide +kernel
theorem dX2_isWord_18 : decode cX2_isWord 18 = .ok (.invokevirtual 150, 3) := by decide +kernel
theorem dX2_isWord_21 : decode cX2_isWord 21 = .ok (.if_icmp .eq 5, 3) := by decide +kernel
theorem dX2_isWord_24 : decode cX2_isWord 24 = .ok (.iconst 0, 1) := by decide +kernel
theorem dX2_isWord_25 : decode cX2_isWord 25 = .ok (.ireturn, 1) := by decide +kernel
theorem dX2_isWord_26 : decode cX2_isWord 26 = .ok (.iconst 0, 1) := by decide +kernel
theorem dX2_isWord_27 : decode cX2_isWord 27 = .ok (.istore_n 2, 1) := by decide +kernel
theorem dX2_isWord_28 : decode cX2_isWord 28 = .ok (.iload_n 2, 1) := by decide +kernel
theorem dX2_isWord_29 : decode cX2_isWord 29 = .ok (.aload_n 1, 1) := by decide +kernel
theorem dX2_isWord_30 : decode cX2_isWord 30 = .ok (.invokevirtual 150, 3) := by decide +kernel
theorem dX2_isWord_33 : decode cX2_isWord 33 = .ok (.if_icmp .ge 30, 3) := by decide +kernel
theorem dX2_isWord_36 : decode cX2_isWord 36 = .ok (.aload_n 0, 1) := by decide +kernel
theorem dX2_isWord_37 : decode cX2_isWord 37 = .ok (.getfield 9, 3) := by decide +kernel
theorem dX2_isWord_40 : decode cX2_isWord 40 = .ok (.aload_n 0, 1) := by decide +kernel
theorem dX2_isWord_41 : decode cX2_isWord 41 = .ok (.getfield 136, 3) := by decide +kernel
theorem dX2_isWord_44 : decode cX2_isWord 44 = .ok (.iload_n 2, 1) := by decide +kernel
theorem dX2_isWord_45 : decode cX2_isWord 45 = .ok (.iadd, 1) := by decide +kernel
theorem dX2_isWord_46 : decode cX2_isWord 46 = .ok (.iaload, 1) := by decide +kernel
theorem dX2_isWord_47 : decode cX2_isWord 47 = .ok (.aload_n 1, 1) := by decide +kernel
theorem dX2_isWord_48 : decode cX2_isWord 48 = .ok (.iload_n 2, 1) := by decide +kernel
theorem dX2_isWord_49 : decode cX2_isWord 49 = .ok (.invokevirtual 155, 3) := by decide +kernel
theorem dX2_isWord_52 : decode cX2_isWord 52 = .ok (.if_icmp .eq 5, 3) := by decide +kernel
theorem dX2_isWord_55 : decode cX2_isWord 55 = .ok (.iconst 0, 1) := by decide +kernel
theorem dX2_isWord_56 : decode cX2_isWord 56 = .ok (.ireturn, 1) := by decide +kernel
theorem dX2_isWord_57 : decode cX2_isWord 57 = .ok (.iinc 2 1, 3) := by decide +kernel
theorem dX2_isWord_60 : decode cX2_isWord 60 = .ok (.goto (-32), 3) := by decide +kernel
theorem dX2_isWord_63 : decode cX2_isWord 63 = .ok (.iconst 1, 1) := by decide +kernel
theorem dX2_isWord_64 : decode cX2_isWord 64 = .ok (.ireturn, 1) := by decide +kernel
def mX2_isWord : MM := (yX2_isWord, cX2_isWord, 3, Option.some Jvm.ClassFile.FieldType.boolean, { frames := 5, cells := 0, slots := 0, locals := 150 })
def X2_isWord_L28 (σ_ : SS) (o1_ : Nat)  : Nat → Int32 → Option Bool :=
  lp (fun _ => none) fun rec v2_ =>
    if (stLen o1_) ≤ v2_ then (
      some true
      ) else (
      grd (inb ((gI σ_ 26 2) + v2_) 400) <|
      grd (inb v2_ (stL.getD o1_ 0)) <|
      if (gI σ_ 27 (Int32.toNatClampNeg ((gI σ_ 26 2) + v2_))) = (stCh o1_ (Int32.toNatClampNeg v2_)) then (
        rec (v2_ + (1 : Int32))
        ) else (
        some false
        )
      )

def fX2_isWord (σ0 : SS) (a1 : Nat) : Option Bool :=
  if (gI σ0 26 4) = (1 : Int32) then (
    if ((gI σ0 26 3) - (gI σ0 26 2)) = (stLen a1) then (
      X2_isWord_L28 σ0 a1
      fuel (0 : Int32)
      ) else (
      some false
      )
    ) else (
    some false
    )

set_option maxRecDepth 20000 in
theorem sX2_isWord_L28 {g : GG} {r : Bool} {σ_ : SS} {σ0 : SS} {o1_ : Nat}  (hs1_ : o1_ < 6)
    (hw_ : WT σ_)
    (h0_ : σ_ = σ0)
    (n : Nat) : ∀ (v2_ : Int32), X2_isWord_L28 σ_ o1_ n v2_ = some r → RR g mX2_isWord (FinR g mX2_isWord (some (.int (b2i r))) NF σ0) zF 28 [(0, .ref (ad g 26)), (1, .ref (ad g (1010 + o1_))), (2, .int v2_)] [] σ_ := by
  unfold X2_isWord_L28
  refine lp_ind (P := fun (rec : Int32 → Option Bool) => ∀ (v2_ : Int32), rec v2_ = some r → RR g mX2_isWord (FinR g mX2_isWord (some (.int (b2i r))) NF σ0) zF 28 [(0, .ref (ad g 26)), (1, .ref (ad g (1010 + o1_))), (2, .int v2_)] [] σ_) ?_ ?_ n
  · intro v2_ hr; cases hr
  intro rec ih v2_ hr
  subst h0_
  refine r_iload_n (pc := 28) (j := 2) dX2_isWord_28 rfl rfl ?_
  refine r_aload_n (pc := 29) (j := 1) dX2_isWord_29 rfl rfl ?_
  refine x_slen (pc := 30) (w := o1_) hs1_ tw_3_190 ⟨nle rfl, nle rfl⟩ (nle rfl) dX2_isWord_30 ?_
  refine r_icmp_ge (pc := 33) (tgt := 63) dX2_isWord_33 rfl (fun hc => ?_) (fun hc => ?_)
  · replace hr := ite_t hc hr
    refine r_iconst (pc := 63) (v := (1 : Int32)) dX2_isWord_63 rfl ?_
    exact l_opz hr (r_zret (pc := 64) (v := b2i true) (ty := .boolean) rfl (b2i_nar _) rfl ⟨Nat.le_refl _, Nat.le_refl _⟩ dX2_isWord_64)
  replace hr := ite_f hc hr
  refine r_aload_n (pc := 36) (j := 0) dX2_isWord_36 rfl rfl ?_
  refine gf2_0 (pc := 37) tw_1_144 hw_ dX2_isWord_37 ?_
  refine r_aload_n (pc := 40) (j := 0) dX2_isWord_40 rfl rfl ?_
  refine gf2_2 (pc := 41) tw_1_146 rfl dX2_isWord_41 ?_
  refine r_iload_n (pc := 44) (j := 2) dX2_isWord_44 rfl rfl ?_
  refine r_iadd (pc := 45) dX2_isWord_45 ?_
  obtain ⟨h1, hr⟩ := grd_inv hr
  refine x_iald (pc := 46) (k := (Int32.toNatClampNeg ((gI σ_ 26 2) + v2_))) rfl h1 rfl dX2_isWord_46 ?_
  refine r_aload_n (pc := 47) (j := 1) dX2_isWord_47 rfl rfl ?_
  refine r_iload_n (pc := 48) (j := 2) dX2_isWord_48 rfl rfl ?_
  obtain ⟨h2, hr⟩ := grd_inv hr
  refine x_sch (pc := 49) (w := o1_) hs1_ h2 tw_3_200 ⟨nle rfl, nle rfl⟩ (nle rfl) dX2_isWord_49 ?_
  refine r_icmp_eq (pc := 52) (tgt := 57) dX2_isWord_52 rfl (fun hc => ?_) (fun hc => ?_)
  · replace hr := ite_t hc hr
    refine r_iinc (pc := 57) (j := 2) (v := (v2_ + (1 : Int32))) (ls1 := [(2, .int (v2_ + (1 : Int32))), (0, .ref (ad g 26)), (1, .ref (ad g (1010 + o1_)))]) dX2_isWord_57 rfl rfl (nle rfl) rfl ?_
    refine r_goto (pc := 60) (tgt := 28) dX2_isWord_60 rfl ?_
    exact r_pick (ls1 := [(0, .ref (ad g 26)), (1, .ref (ad g (1010 + o1_))), (2, .int (v2_ + (1 : Int32)))]) [1, 2, 0] rfl (ih (v2_ + (1 : Int32)) hr)
  replace hr := ite_f hc hr
  refine r_iconst (pc := 55) (v := (0 : Int32)) dX2_isWord_55 rfl ?_
  exact l_opz hr (r_zret (pc := 56) (v := b2i false) (ty := .boolean) rfl (b2i_nar _) rfl ⟨Nat.le_refl _, Nat.le_refl _⟩ dX2_isWord_56)

set_option maxRecDepth 20000 in
theorem sX2_isWord {g : GG} {σ0 : SS} {a1 : Nat} {r : Bool} (hr : fX2_isWord σ0 a1 = some r) (hs1 : a1 < 6) : Ct g mX2_isWord [.ref (ad g 26), .ref (ad g (1010 + a1))] NF σ0 (some (.int (b2i r))) NF σ0 := by
  refine Ct.of (by decide +kernel) (nle rfl) fun hw0 => ?_
  have hw := hw0 rfl
  unfold fX2_isWord at hr
  change RR g mX2_isWord (FinR g mX2_isWord (some (.int (b2i r))) NF σ0) zF 0 [(0, .ref (ad g 26)), (1, .ref (ad g (1010 + a1)))] [] σ0
  refine r_aload_n (pc := 0) (j := 0) dX2_isWord_0 rfl rfl ?_
  refine gf2_4 (pc := 1) tw_1_148 rfl dX2_isWord_1 ?_
  refine r_iconst (pc := 4) (v := (1 : Int32)) dX2_isWord_4 rfl ?_
  refine r_icmp_ne (pc := 5) (tgt := 24) dX2_isWord_5 rfl (fun hc => ?_) (fun hc => ?_)
  · replace hr := ite_f hc hr
    refine r_iconst (pc := 24) (v := (0 : Int32)) dX2_isWord_24 rfl ?_
    exact l_opz hr (r_zret (pc := 25) (v := b2i false) (ty := .boolean) rfl (b2i_nar _) rfl ⟨Nat.le_refl _, Nat.le_refl _⟩ dX2_isWord_25)
  replace hr := ite_t hc hr
  refine r_aload_n (pc := 8) (j := 0) dX2_isWord_8 rfl rfl ?_
  refine gf2_3 (pc := 9) tw_1_147 rfl dX2_isWord_9 ?_
  refine r_aload_n (pc := 12) (j := 0) dX2_isWord_12 rfl rfl ?_
  refine gf2_2 (pc := 13) tw_1_146 rfl dX2_isWord_13 ?_
  refine r_isub (pc := 16) dX2_isWord_16 ?_
  refine r_aload_n (pc := 17) (j := 1) dX2_isWord_17 rfl rfl ?_
  refine x_slen (pc := 18) (w := a1) hs1 tw_3_190 ⟨nle rfl, nle rfl⟩ (nle rfl) dX2_isWord_18 ?_
  refine r_icmp_eq (pc := 21) (tgt := 26) dX2_isWord_21 rfl (fun hc => ?_) (fun hc => ?_)
  · replace hr := ite_t hc hr
    refine r_iconst (pc := 26) (v := (0 : Int32)) dX2_isWord_26 rfl ?_
    refine r_istore_n (pc := 27) (ls1 := [(2, .int (0 : Int32)), (0, .ref (ad g 26)), (1, .ref (ad g (1010 + a1)))]) dX2_isWord_27 rfl (nle rfl) rfl ?_
    refine r_pick (ls1 := [(0, .ref (ad g 26)), (1, .ref (ad g (1010 + a1))), (2, .int (0 : Int32))]) [1, 2, 0] rfl ?_
    refine sX2_isWord_L28 hs1 hw rfl  fuel (0 : Int32) hr
  replace hr := ite_f hc hr
  refine r_iconst (pc := 24) (v := (0 : Int32)) dX2_isWord_24 rfl ?_
  exact l_opz hr (r_zret (pc := 25) (v := b2i false) (ty := .boolean) rfl (b2i_nar _) rfl ⟨Nat.le_refl _, Nat.le_refl _⟩ dX2_isWord_25)

theorem kX2_isWord {g : GG} {σ0 : SS} {a1 : Nat} {v : Bool} {M : MM} {F : State → Array Value → List Frame → State → Prop} {pc index : Nat} {ls : List (Nat × Value)} {rest : List Value} (hf : fX2_isWord σ0 a1 = some v) (hs1 : a1 < 6) (hl : Cond.methodLink M.1.cls index yX2_isWord ∈ lw_gt) (hR : mX2_isWord.2.2.2.2.frames + 1 ≤ M.2.2.2.2.frames ∧ 8 + (mX2_isWord.2.2.1 + 11) + mX2_isWord.2.2.2.2.locals ≤ M.2.2.2.2.locals) (hrest : (rest.map fun v => v.category).sum ≤ 8) (hd : decode M.2.1 pc = .ok (.invokevirtual index, 3)) (k : RR g M F zF (pc + 3) ls (.int (b2i v) :: rest) σ0) : RR g M F zF pc ls (.ref (ad g (1010 + a1)) :: .ref (ad g 26) :: rest) σ0 :=
  r_callV (z := zF) (N := mX2_isWord) (nn := 1) (o1 := some (.int (b2i v))) (sX2_isWord hf hs1) (rfl : shp 26 = (2, 0)) (by decide) (shp_le (rfl : shp 26 = (2, 0)) (nle rfl)) (ci := 2) rfl rfl tw_3_189 tw_1_4 hl tw_3_188 tp_17 ⟨by decide, by decide, rfl⟩ hR rfl hrest hd ⟨Nat.zero_le _, Nat.zero_le _⟩ rfl (fun h => k)

theorem dX2_refuse_0 : decode cX2_refuse 0 = .ok (.aload_n 0, 1) := by decide +kernel
theorem dX2_refuse_1 : decode cX2_refuse 1 = .ok (.sipush (-1000), 3) := by decide +kernel
theorem dX2_refuse_4 : decode cX2_refuse 4 = .ok (.iload_n 1, 1) := by decide +kernel
theorem dX2_refuse_5 : decode cX2_refuse 5 = .ok (.imul, 1) := by decide +kernel
theorem dX2_refuse_6 : decode cX2_refuse 6 = .ok (.aload_n 0, 1) := by decide +kernel
theorem dX2_refuse_7 : decode cX2_refuse 7 = .ok (.getfield 136, 3) := by decide +kernel
theorem dX2_refuse_10 : decode cX2_refuse 10 = .ok (.isub, 1) := by decide +kernel
theorem dX2_refuse_11 : decode cX2_refuse 11 = .ok (.putfield 34, 3) := by decide +kernel
theorem dX2_refuse_14 : decode cX2_refuse 14 = .ok (.iconst 0, 1) := by decide +kernel
theorem dX2_refuse_15 : decode cX2_refuse 15 = .ok (.ireturn, 1) := by decide +kernel
def mX2_refuse : MM := (yX2_refuse, cX2_refuse, 2, Option.some Jvm.ClassFile.FieldType.boolean, { frames := 0, cells := 0, slots := 0, locals := 0 })
def fX2_refuse (σ : SS) (a1 : Int32) : Option (Bool × SS) :=
  vthen (sI σ 26 7 (((-1000 : Int32) * a1) - (gI σ 26 2))) fun σ1 =>
  some (false, σ1)

set_option maxRecDepth 20000 in
theorem sX2_refuse {g : GG} {σ : SS} {a1 : Int32} {r : Bool × SS} (hr : fX2_refuse σ a1 = some r)  : Ct g mX2_refuse [.ref (ad g 26), .int a1] NF σ (some (.int (b2i r.1))) NF r.2 := by
  refine Ct.of (by decide +kernel) (nle rfl) fun hw0 => ?_
  have hw := hw0 rfl
  unfold fX2_refuse at hr
  change RR g mX2_refuse (FinR g mX2_refuse (some (.int (b2i r.1))) NF r.2) zF 0 [(0, .ref (ad g 26)), (1, .int a1)] [] σ
  refine r_aload_n (pc := 0) (j := 0) dX2_refuse_0 rfl rfl ?_
  refine r_sipush (pc := 1) (v := (-1000 : Int32)) dX2_refuse_1 rfl ?_
  refine r_iload_n (pc := 4) (j := 1) dX2_refuse_4 rfl rfl ?_
  refine r_imul (pc := 5) dX2_refuse_5 ?_
  refine r_aload_n (pc := 6) (j := 0) dX2_refuse_6 rfl rfl ?_
  refine gf2_2 (pc := 7) tw_1_146 rfl dX2_refuse_7 ?_
  refine r_isub (pc := 10) dX2_refuse_10 ?_
  refine pf2_7 (pc := 11) tw_1_151 rfl dX2_refuse_11 fun σ1 eσ1 => ?_
  replace hr := vthen_inv hr σ1 eσ1
  have hσ1 := wtI eσ1 hw
  refine r_iconst (pc := 14) (v := (0 : Int32)) dX2_refuse_14 rfl ?_
  exact l_osz hr (r_zret (pc := 15) (v := b2i false) (ty := .boolean) rfl (b2i_nar _) rfl ⟨Nat.le_refl _, Nat.le_refl _⟩ dX2_refuse_15)

theorem kX2_refuse {g : GG} {σ : SS} {a1 : Int32} {v : Bool} {σ2 : SS} {M : MM} {F : State → Array Value → List Frame → State → Prop} {pc index : Nat} {ls : List (Nat × Value)} {rest : List Value} (hf : fX2_refuse σ a1 = some (v, σ2))  (hl : Cond.methodLink M.1.cls index yX2_refuse ∈ lw_gt) (hR : mX2_refuse.2.2.2.2.frames + 1 ≤ M.2.2.2.2.frames ∧ 8 + (mX2_refuse.2.2.1 + 11) + mX2_refuse.2.2.2.2.locals ≤ M.2.2.2.2.locals) (hrest : (rest.map fun v => v.category).sum ≤ 8) (hd : decode M.2.1 pc = .ok (.invokevirtual index, 3)) (k : WT σ2 → RR g M F zF (pc + 3) ls (.int (b2i v) :: rest) σ2) : RR g M F zF pc ls (.int a1 :: .ref (ad g 26) :: rest) σ :=
  r_callV (z := zF) (N := mX2_refuse) (nn := 1) (o1 := some (.int (b2i v))) (sX2_refuse hf ) (rfl : shp 26 = (2, 0)) (by decide) (shp_le (rfl : shp 26 = (2, 0)) (nle rfl)) (ci := 2) rfl rfl tw_4_1 tw_1_4 hl tw_4_0 tp_18 ⟨by decide, by decide, rfl⟩ hR rfl hrest hd ⟨Nat.zero_le _, Nat.zero_le _⟩ rfl (fun h => k (h rfl))

