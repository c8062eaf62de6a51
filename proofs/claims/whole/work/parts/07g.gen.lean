/-! Walks written by a program out of the bytecode: each method as a function over the store, and its contract. -/
theorem dX8_judged_0 : decode cX8_judged 0 = .ok (.aload_n 0, 1) := by decide +kernel
theorem dX8_judged_1 : decode cX8_judged 1 = .ok (.iload_n 1, 1) := by decide +kernel
theorem dX8_judged_2 : decode cX8_judged 2 = .ok (.invokevirtual 269, 3) := by decide +kernel
theorem dX8_judged_5 : decode cX8_judged 5 = .ok (.ifCond .eq 12, 3) := by decide +kernel
theorem dX8_judged_8 : decode cX8_judged 8 = .ok (.iload_n 2, 1) := by decide +kernel
theorem dX8_judged_9 : decode cX8_judged 9 = .ok (.iconst 0, 1) := by decide +kernel
theorem dX8_judged_10 : decode cX8_judged 10 = .ok (.iconst 4, 1) := by decide +kernel
theorem dX8_judged_11 : decode cX8_judged 11 = .ok (.invokestatic 165, 3) := by decide +kernel
theorem dX8_judged_14 : decode cX8_judged 14 = .ok (.ifCond .ne 7, 3) := by decide +kernel
theorem dX8_judged_17 : decode cX8_judged 17 = .ok (.ldc_w 400, 3) := by decide +kernel
theorem dX8_judged_20 : decode cX8_judged 20 = .ok (.ireturn, 1) := by decide +kernel
theorem dX8_judged_21 : decode cX8_judged 21 = .ok (.aload_n 0, 1) := by decide +kernel
theorem dX8_judged_22 : decode cX8_judged 22 = .ok (.invokevirtual 373, 3) := by decide +kernel
theorem dX8_judged_25 : decode cX8_judged 25 = .ok (.ifCond .ne 7, 3) := by decide +kernel
theorem dX8_judged_28 : decode cX8_judged 28 = .ok (.sipush (-1000), 3) := by decide +kernel
theorem dX8_judged_31 : decode cX8_judged 31 = .ok (.ireturn, 1) := by decide +kernel
theorem dX8_judged_32 : decode cX8_judged 32 = .ok (.aload_n 0, 1) := by decide +kernel
theorem dX8_judged_33 : decode cX8_judged 33 = .ok (.iload_n 1, 1) := by decide +kernel
theorem dX8_judged_34 : decode cX8_judged 34 = .ok (.aload_n 0, 1) := by decide +kernel
theorem dX8_judged_35 : decode cX8_judged 35 = .ok (.getfield 53, 3) := by decide +kernel
theorem dX8_judged_38 : decode cX8_judged 38 = .ok (.iconst 3, 1) := by decide +kernel
theorem dX8_judged_39 : decode cX8_judged 39 = .ok (.iaload, 1) := by decide +kernel
theorem dX8_judged_40 : decode cX8_judged 40 = .ok (.invokevirtual 401, 3) := by decide +kernel
theorem dX8_judged_43 : decode cX8_judged 43 = .ok (.iload_n 2, 1) := by decide +kernel
theorem dX8_judged_44 : decode cX8_judged 44 = .ok (.ifCond .ne 10, 3) := by decide +kernel
theorem dX8_judged_47 : decode cX8_judged 47 = .ok (.aload_n 0, 1) := by decide +kernel
theorem dX8_judged_48 : decode cX8_judged 48 = .ok (.getfield 385, 3) := by decide +kernel
theorem dX8_judged_51 : decode cX8_judged 51 = .ok (.goto 44, 3) := by decide +kernel
theorem dX8_judged_54 : decode cX8_judged 54 = .ok (.iload_n 2, 1) := by decide +kernel
theorem dX8_judged_55 : decode cX8_judged 55 = .ok (.iconst 1, 1) := by decide +kernel
theorem dX8_judged_56 : decode cX8_judged 56 = .ok (.if_icmp .ne 10, 3) := by decide +kernel
theorem dX8_judged_59 : decode cX8_judged 59 = .ok (.aload_n 0, 1) := by decide +kernel
theorem dX8_judged_60 : decode cX8_judged 60 = .ok (.getfield 391, 3) := by decide +kernel
theorem dX8_judged_63 : decode cX8_judged 63 = .ok (.goto 32, 3) := by decide +kernel
theorem dX8_judged_66 : decode cX8_judged 66 = .ok (.iload_n 2, 1) := by decide +kernel
theorem dX8_judged_67 : decode cX8_judged 67 = .ok (.iconst 2, 1) := by decide +kernel
theorem dX8_judged_68 : decode cX8_judged 68 = .ok (.if_icmp .ne 10, 3) := by decide +kernel
theorem dX8_judged_71 : decode cX8_judged 71 = .ok (.aload_n 0, 1) := by decide +kernel
theorem dX8_judged_72 : decode cX8_judged 72 = .ok (.getfield 388, 3) := by decide +kernel
theorem dX8_judged_75 : decode cX8_judged 75 = .ok (.goto 20, 3) := by decide +kernel
theorem dX8_judged_78 : decode cX8_judged 78 = .ok (.iload_n 2, 1) := by decide +kernel
theorem dX8_judged_79 : decode cX8_judged 79 = .ok (.iconst 3, 1) := by decide +kernel
theorem dX8_judged_80 : decode cX8_judged 80 = .ok (.if_icmp .ne 10, 3) := by decide +kernel
theorem dX8_judged_83 : decode cX8_judged 83 = .ok (.aload_n 0, 1) := by decide +kernel
theorem dX8_judged_84 : decode cX8_judged 84 = .ok (.getfield 379, 3) := by decide +kernel
theorem dX8_judged_87 : decode cX8_judged 87 = .ok (.goto 8, 3) := by decide +kernel
theorem dX8_judged_90 : decode cX8_judged 90 = .ok (.aload_n 0, 1) := by decide +kernel
theorem dX8_judged_91 : decode cX8_judged 91 = .ok (.iload_n 1, 1) := by decide +kernel
theorem dX8_judged_92 : decode cX8_judged 92 = .ok (.invokevirtual 404, 3) := by decide +kernel
theorem dX8_judged_95 : decode cX8_judged 95 = .ok (.ireturn, 1) := by decide +kernel
def mX8_judged : MM := (yX8_judged, cX8_judged, 3, Option.some Jvm.ClassFile.FieldType.int, { frames := 7, cells := 0, slots := 0, locals := 158 })
def fX8_judged (σ : SS) (a1 : Int32) (a2 : Int32) : Option (Int32 × SS) :=
  bnd1 (fX8_isQuestion σ a1) fun b2 =>
  if b2 = true then (
    if (fX8_in σ a2 (0 : Int32) (4 : Int32)) = true then (
      bnd (fX8_finds σ) fun b5 σ7 =>
      if b5 = true then (
        bnd1 (fX8_judges σ7 a1 (gI σ7 88 3)) fun σ8 =>
        if a2 = 0 then (
          some ((gI σ8 73 55), σ8)
          ) else (
          if a2 = (1 : Int32) then (
            some ((gI σ8 73 56), σ8)
            ) else (
            if a2 = (2 : Int32) then (
              some ((gI σ8 73 57), σ8)
              ) else (
              if a2 = (3 : Int32) then (
                some ((gI σ8 73 58), σ8)
                ) else (
                bnd1 (fX8_pointsOf σ8 a1) fun v9 =>
                some (v9, σ8)
                )
              )
            )
          )
        ) else (
        some ((-1000 : Int32), σ7)
        )
      ) else (
      some ((-2147483648 : Int32), σ)
      )
    ) else (
    some ((-2147483648 : Int32), σ)
    )

set_option maxRecDepth 20000 in
theorem sX8_judged {g : GG} {σ : SS} {a1 : Int32} {a2 : Int32} {r : Int32 × SS} (hr : fX8_judged σ a1 a2 = some r)  : Ct g mX8_judged [.ref (ad g 73), .int a1, .int a2] NF σ (some (.int r.1)) NF r.2 := by
  refine Ct.of (by decide +kernel) (nle rfl) fun hw0 => ?_
  have hw := hw0 rfl
  unfold fX8_judged at hr
  change RR g mX8_judged (FinR g mX8_judged (some (.int r.1)) NF r.2) zF 0 [(0, .ref (ad g 73)), (1, .int a1), (2, .int a2)] [] σ
  refine r_aload_n (pc := 0) (j := 0) dX8_judged_0 rfl rfl ?_
  refine r_iload_n (pc := 1) (j := 1) dX8_judged_1 rfl rfl ?_
  obtain ⟨b2, hb2, hr⟩ := bnd1_inv hr
  refine kX8_isQuestion (pc := 2) hb2 tw_6_141 ⟨nle rfl, nle rfl⟩ (nle rfl) dX8_judged_2 ?_
  refine r_ifB_eq (pc := 5) (tgt := 17) dX8_judged_5 rfl (fun hc => ?_) (fun hc => ?_)
  · replace hr := ite_f hc hr
    refine r_ldcw (pc := 17) (v := (-2147483648 : Int32)) dX8_judged_17 tw_7_106 ?_
    exact l_osi hr (r_iret (pc := 20) (v := (-2147483648 : Int32)) rfl rfl ⟨Nat.le_refl _, Nat.le_refl _⟩ dX8_judged_20)
  replace hr := ite_t hc hr
  refine r_iload_n (pc := 8) (j := 2) dX8_judged_8 rfl rfl ?_
  refine r_iconst (pc := 9) (v := (0 : Int32)) dX8_judged_9 rfl ?_
  refine r_iconst (pc := 10) (v := (4 : Int32)) dX8_judged_10 rfl ?_
  refine kX8_in (pc := 11) (hf := rfl) tw_6_65 ⟨nle rfl, nle rfl⟩ (nle rfl) dX8_judged_11 ?_
  refine r_ifB_ne (pc := 14) (tgt := 21) dX8_judged_14 rfl (fun hc => ?_) (fun hc => ?_)
  · replace hr := ite_t hc hr
    refine r_aload_n (pc := 21) (j := 0) dX8_judged_21 rfl rfl ?_
    obtain ⟨b5, σ7, eσ7, hr⟩ := bnd_inv hr
    refine kX8_finds (pc := 22) eσ7 tw_7_94 ⟨nle rfl, nle rfl⟩ (nle rfl) dX8_judged_22 fun hσ7 => ?_
    refine r_ifB_ne (pc := 25) (tgt := 32) dX8_judged_25 rfl (fun hc => ?_) (fun hc => ?_)
    · replace hr := ite_t hc hr
      refine r_aload_n (pc := 32) (j := 0) dX8_judged_32 rfl rfl ?_
      refine r_iload_n (pc := 33) (j := 1) dX8_judged_33 rfl rfl ?_
      refine r_aload_n (pc := 34) (j := 0) dX8_judged_34 rfl rfl ?_
      refine gf8_26 (pc := 35) tw_5_120 hσ7 dX8_judged_35 ?_
      refine r_iconst (pc := 38) (v := (3 : Int32)) dX8_judged_38 rfl ?_
      refine x_iald (pc := 39) (k := 3) rfl (by decide) rfl dX8_judged_39 ?_
      obtain ⟨σ8, eσ8, hr⟩ := bnd1_inv hr
      refine kX8_judges (pc := 40) eσ8 tw_7_107 ⟨nle rfl, nle rfl⟩ (nle rfl) dX8_judged_40 fun hσ8 => ?_
      refine r_iload_n (pc := 43) (j := 2) dX8_judged_43 rfl rfl ?_
      refine r_if_ne (pc := 44) (tgt := 54) dX8_judged_44 rfl (fun hc => ?_) (fun hc => ?_)
      · replace hr := ite_f hc hr
        refine r_iload_n (pc := 54) (j := 2) dX8_judged_54 rfl rfl ?_
        refine r_iconst (pc := 55) (v := (1 : Int32)) dX8_judged_55 rfl ?_
        refine r_icmp_ne (pc := 56) (tgt := 66) dX8_judged_56 rfl (fun hc => ?_) (fun hc => ?_)
        · replace hr := ite_f hc hr
          refine r_iload_n (pc := 66) (j := 2) dX8_judged_66 rfl rfl ?_
          refine r_iconst (pc := 67) (v := (2 : Int32)) dX8_judged_67 rfl ?_
          refine r_icmp_ne (pc := 68) (tgt := 78) dX8_judged_68 rfl (fun hc => ?_) (fun hc => ?_)
          · replace hr := ite_f hc hr
            refine r_iload_n (pc := 78) (j := 2) dX8_judged_78 rfl rfl ?_
            refine r_iconst (pc := 79) (v := (3 : Int32)) dX8_judged_79 rfl ?_
            refine r_icmp_ne (pc := 80) (tgt := 90) dX8_judged_80 rfl (fun hc => ?_) (fun hc => ?_)
            · replace hr := ite_f hc hr
              refine r_aload_n (pc := 90) (j := 0) dX8_judged_90 rfl rfl ?_
              refine r_iload_n (pc := 91) (j := 1) dX8_judged_91 rfl rfl ?_
              obtain ⟨v9, hv9, hr⟩ := bnd1_inv hr
              refine kX8_pointsOf (pc := 92) hv9 tw_7_119 ⟨nle rfl, nle rfl⟩ (nle rfl) dX8_judged_92 ?_
              exact l_osi hr (r_iret (pc := 95) (v := v9) rfl rfl ⟨Nat.le_refl _, Nat.le_refl _⟩ dX8_judged_95)
            replace hr := ite_t hc hr
            refine r_aload_n (pc := 83) (j := 0) dX8_judged_83 rfl rfl ?_
            refine gf8_58 (pc := 84) tw_5_152 rfl dX8_judged_84 ?_
            refine r_goto (pc := 87) (tgt := 95) dX8_judged_87 rfl ?_
            exact l_osi hr (r_iret (pc := 95) (v := (gI σ8 73 58)) rfl rfl ⟨Nat.le_refl _, Nat.le_refl _⟩ dX8_judged_95)
          replace hr := ite_t hc hr
          refine r_aload_n (pc := 71) (j := 0) dX8_judged_71 rfl rfl ?_
          refine gf8_57 (pc := 72) tw_5_151 rfl dX8_judged_72 ?_
          refine r_goto (pc := 75) (tgt := 95) dX8_judged_75 rfl ?_
          exact l_osi hr (r_iret (pc := 95) (v := (gI σ8 73 57)) rfl rfl ⟨Nat.le_refl _, Nat.le_refl _⟩ dX8_judged_95)
        replace hr := ite_t hc hr
        refine r_aload_n (pc := 59) (j := 0) dX8_judged_59 rfl rfl ?_
        refine gf8_56 (pc := 60) tw_5_150 rfl dX8_judged_60 ?_
        refine r_goto (pc := 63) (tgt := 95) dX8_judged_63 rfl ?_
        exact l_osi hr (r_iret (pc := 95) (v := (gI σ8 73 56)) rfl rfl ⟨Nat.le_refl _, Nat.le_refl _⟩ dX8_judged_95)
      replace hr := ite_t hc hr
      refine r_aload_n (pc := 47) (j := 0) dX8_judged_47 rfl rfl ?_
      refine gf8_55 (pc := 48) tw_5_149 rfl dX8_judged_48 ?_
      refine r_goto (pc := 51) (tgt := 95) dX8_judged_51 rfl ?_
      exact l_osi hr (r_iret (pc := 95) (v := (gI σ8 73 55)) rfl rfl ⟨Nat.le_refl _, Nat.le_refl _⟩ dX8_judged_95)
    replace hr := ite_f hc hr
    refine r_sipush (pc := 28) (v := (-1000 : Int32)) dX8_judged_28 rfl ?_
    exact l_osi hr (r_iret (pc := 31) (v := (-1000 : Int32)) rfl rfl ⟨Nat.le_refl _, Nat.le_refl _⟩ dX8_judged_31)
  replace hr := ite_f hc hr
  refine r_ldcw (pc := 17) (v := (-2147483648 : Int32)) dX8_judged_17 tw_7_106 ?_
  exact l_osi hr (r_iret (pc := 20) (v := (-2147483648 : Int32)) rfl rfl ⟨Nat.le_refl _, Nat.le_refl _⟩ dX8_judged_20)

theorem kX8_judged {g : GG} {σ : SS} {a1 : Int32} {a2 : Int32} {v : Int32} {σ2 : SS} {M : MM} {F : State → Array Value → List Frame → State → Prop} {pc index : Nat} {ls : List (Nat × Value)} {rest : List Value} (hf : fX8_judged σ a1 a2 = some (v, σ2))  (hl : Cond.methodLink M.1.cls index yX8_judged ∈ lw_gt) (hR : mX8_judged.2.2.2.2.frames + 1 ≤ M.2.2.2.2.frames ∧ 8 + (mX8_judged.2.2.1 + 11) + mX8_judged.2.2.2.2.locals ≤ M.2.2.2.2.locals) (hrest : (rest.map fun v => v.category).sum ≤ 8) (hd : decode M.2.1 pc = .ok (.invokevirtual index, 3)) (k : WT σ2 → RR g M F zF (pc + 3) ls (.int v :: rest) σ2) : RR g M F zF pc ls (.int a2 :: .int a1 :: .ref (ad g 73) :: rest) σ :=
  r_callV (z := zF) (N := mX8_judged) (nn := 2) (o1 := some (.int v)) (sX8_judged hf ) (rfl : shp 73 = (8, 0)) (by decide) (shp_le (rfl : shp 73 = (8, 0)) (nle rfl)) (ci := 8) rfl rfl tw_7_105 tw_1_10 hl tw_7_103 tw_7_104 ⟨by decide, by decide, rfl⟩ hR rfl hrest hd ⟨Nat.zero_le _, Nat.zero_le _⟩ rfl (fun h => k (h rfl))

theorem dX3_allGains_0 : decode cX3_allGains 0 = .ok (.iconst 0, 1) := by decide +kernel
theorem dX3_allGains_1 : decode cX3_allGains 1 = .ok (.istore_n 2, 1) := by decide +kernel
theorem dX3_allGains_2 : decode cX3_allGains 2 = .ok (.iconst 0, 1) := by decide +kernel
theorem dX3_allGains_3 : decode cX3_allGains 3 = .ok (.istore_n 3, 1) := by decide +kernel
theorem dX3_allGains_4 : decode cX3_allGains 4 = .ok (.iload_n 3, 1) := by decide +kernel
theorem dX3_allGains_5 : decode cX3_allGains 5 = .ok (.aload_n 1, 1) := by decide +kernel
theorem dX3_allGains_6 : decode cX3_allGains 6 = .ok (.getfield 140, 3) := by decide +kernel
theorem dX3_allGains_9 : decode cX3_allGains 9 = .ok (.if_icmp .ge 18, 3) := by decide +kernel
theorem dX3_allGains_12 : decode cX3_allGains 12 = .ok (.iload_n 2, 1) := by decide +kernel
theorem dX3_allGains_13 : decode cX3_allGains 13 = .ok (.aload_n 0, 1) := by decide +kernel
theorem dX3_allGains_14 : decode cX3_allGains 14 = .ok (.getfield 50, 3) := by decide +kernel
theorem dX3_allGains_17 : decode cX3_allGains 17 = .ok (.iload_n 3, 1) := by decide +kernel
theorem dX3_allGains_18 : decode cX3_allGains 18 = .ok (.iaload, 1) := by decide +kernel
theorem dX3_allGains_19 : decode cX3_allGains 19 = .ok (.iadd, 1) := by decide +kernel
theorem dX3_allGains_20 : decode cX3_allGains 20 = .ok (.istore_n 2, 1) := by decide +kernel
theorem dX3_allGains_21 : decode cX3_allGains 21 = .ok (.iinc 3 1, 3) := by decide +kernel
theorem dX3_allGains_24 : decode cX3_allGains 24 = .ok (.goto (-20), 3) := by decide +kernel
theorem dX3_allGains_27 : decode cX3_allGains 27 = .ok (.iload_n 2, 1) := by decide +kernel
theorem dX3_allGains_28 : decode cX3_allGains 28 = .ok (.ireturn, 1) := by decide +kernel
def mX3_allGains : MM := (yX3_allGains, cX3_allGains, 4, Option.some Jvm.ClassFile.FieldType.int, { frames := 0, cells := 0, slots := 0, locals := 0 })
def X3_allGains_L4 (σ_ : SS) (o1_ : Nat)  : Nat → Int32 → Int32 → Option Int32 :=
  lp (fun _ _ => none) fun rec v2_ v3_ =>
    if (gI σ_ o1_ 5) ≤ v3_ then (
      some v2_
      ) else (
      grd (inb v3_ 12) <|
      vthen (v2_ + (gI σ_ 57 (Int32.toNatClampNeg v3_))) fun v2 =>
      rec v2 (v3_ + (1 : Int32))
      )

def fX3_allGains (σ0 : SS) (a1 : Nat) : Option Int32 :=
  X3_allGains_L4 σ0 a1
  fuel (0 : Int32) (0 : Int32)

set_option maxRecDepth 20000 in
theorem sX3_allGains_L4 {g : GG} {r : Int32} {σ_ : SS} {σ0 : SS} {o1_ : Nat}  (hs1_ : shp o1_ = (1, 0))
    (hw_ : WT σ_)
    (h0_ : σ_ = σ0)
    (n : Nat) : ∀ (v2_ : Int32) (v3_ : Int32), X3_allGains_L4 σ_ o1_ n v2_ v3_ = some r → RR g mX3_allGains (FinR g mX3_allGains (some (.int r)) NF σ0) zF 4 [(0, .ref (ad g 31)), (1, .ref (ad g o1_)), (2, .int v2_), (3, .int v3_)] [] σ_ := by
  unfold X3_allGains_L4
  refine lp_ind (P := fun (rec : Int32 → Int32 → Option Int32) => ∀ (v2_ : Int32) (v3_ : Int32), rec v2_ v3_ = some r → RR g mX3_allGains (FinR g mX3_allGains (some (.int r)) NF σ0) zF 4 [(0, .ref (ad g 31)), (1, .ref (ad g o1_)), (2, .int v2_), (3, .int v3_)] [] σ_) ?_ ?_ n
  · intro v2_ v3_ hr; cases hr
  intro rec ih v2_ v3_ hr
  subst h0_
  refine r_iload_n (pc := 4) (j := 3) dX3_allGains_4 rfl rfl ?_
  refine r_aload_n (pc := 5) (j := 1) dX3_allGains_5 rfl rfl ?_
  refine gf1_5 (pc := 6) tw_1_81 hs1_ dX3_allGains_6 ?_
  refine r_icmp_ge (pc := 9) (tgt := 27) dX3_allGains_9 rfl (fun hc => ?_) (fun hc => ?_)
  · replace hr := ite_t hc hr
    refine r_iload_n (pc := 27) (j := 2) dX3_allGains_27 rfl rfl ?_
    exact l_opi hr (r_iret (pc := 28) (v := v2_) rfl rfl ⟨Nat.le_refl _, Nat.le_refl _⟩ dX3_allGains_28)
  replace hr := ite_f hc hr
  refine r_iload_n (pc := 12) (j := 2) dX3_allGains_12 rfl rfl ?_
  refine r_aload_n (pc := 13) (j := 0) dX3_allGains_13 rfl rfl ?_
  refine gf3_11 (pc := 14) tw_2_45 hw_ dX3_allGains_14 ?_
  refine r_iload_n (pc := 17) (j := 3) dX3_allGains_17 rfl rfl ?_
  obtain ⟨h1, hr⟩ := grd_inv hr
  refine x_iald (pc := 18) (k := (Int32.toNatClampNeg v3_)) rfl h1 rfl dX3_allGains_18 ?_
  refine r_iadd (pc := 19) dX3_allGains_19 ?_
  refine r_topi fun v2 ev2 => ?_
  replace hr := vthen_inv hr v2 ev2
  refine r_istore_n (pc := 20) (ls1 := [(2, .int v2), (0, .ref (ad g 31)), (1, .ref (ad g o1_)), (3, .int v3_)]) dX3_allGains_20 rfl (nle rfl) rfl ?_
  refine r_iinc (pc := 21) (j := 3) (v := (v3_ + (1 : Int32))) (ls1 := [(3, .int (v3_ + (1 : Int32))), (2, .int v2), (0, .ref (ad g 31)), (1, .ref (ad g o1_))]) dX3_allGains_21 rfl rfl (nle rfl) rfl ?_
  refine r_goto (pc := 24) (tgt := 4) dX3_allGains_24 rfl ?_
  exact r_pick (ls1 := [(0, .ref (ad g 31)), (1, .ref (ad g o1_)), (2, .int v2), (3, .int (v3_ + (1 : Int32)))]) [2, 3, 1, 0] rfl (ih v2 (v3_ + (1 : Int32)) hr)

set_option maxRecDepth 20000 in
theorem sX3_allGains {g : GG} {σ0 : SS} {a1 : Nat} {r : Int32} (hr : fX3_allGains σ0 a1 = some r) (hs1 : shp a1 = (1, 0)) : Ct g mX3_allGains [.ref (ad g 31), .ref (ad g a1)] NF σ0 (some (.int r)) NF σ0 := by
  refine Ct.of (by decide +kernel) (nle rfl) fun hw0 => ?_
  have hw := hw0 rfl
  unfold fX3_allGains at hr
  change RR g mX3_allGains (FinR g mX3_allGains (some (.int r)) NF σ0) zF 0 [(0, .ref (ad g 31)), (1, .ref (ad g a1))] [] σ0
  refine r_iconst (pc := 0) (v := (0 : Int32)) dX3_allGains_0 rfl ?_
  refine r_istore_n (pc := 1) (ls1 := [(2, .int (0 : Int32)), (0, .ref (ad g 31)), (1, .ref (ad g a1))]) dX3_allGains_1 rfl (nle rfl) rfl ?_
  refine r_iconst (pc := 2) (v := (0 : Int32)) dX3_allGains_2 rfl ?_
  refine r_istore_n (pc := 3) (ls1 := [(3, .int (0 : Int32)), (2, .int (0 : Int32)), (0, .ref (ad g 31)), (1, .ref (ad g a1))]) dX3_allGains_3 rfl (nle rfl) rfl ?_
  refine r_pick (ls1 := [(0, .ref (ad g 31)), (1, .ref (ad g a1)), (2, .int (0 : Int32)), (3, .int (0 : Int32))]) [2, 3, 1, 0] rfl ?_
  refine sX3_allGains_L4 hs1 hw rfl  fuel (0 : Int32) (0 : Int32) hr

theorem kX3_allGains {g : GG} {σ0 : SS} {a1 : Nat} {v : Int32} {M : MM} {F : State → Array Value → List Frame → State → Prop} {pc index : Nat} {ls : List (Nat × Value)} {rest : List Value} (hf : fX3_allGains σ0 a1 = some v) (hs1 : shp a1 = (1, 0)) (hl : Cond.methodLink M.1.cls index yX3_allGains ∈ lw_gt) (hR : mX3_allGains.2.2.2.2.frames + 1 ≤ M.2.2.2.2.frames ∧ 8 + (mX3_allGains.2.2.1 + 11) + mX3_allGains.2.2.2.2.locals ≤ M.2.2.2.2.locals) (hrest : (rest.map fun v => v.category).sum ≤ 8) (hd : decode M.2.1 pc = .ok (.invokevirtual index, 3)) (k : RR g M F zF (pc + 3) ls (.int v :: rest) σ0) : RR g M F zF pc ls (.ref (ad g a1) :: .ref (ad g 31) :: rest) σ0 :=
  r_callV (z := zF) (N := mX3_allGains) (nn := 1) (o1 := some (.int v)) (sX3_allGains hf hs1) (rfl : shp 31 = (3, 0)) (by decide) (shp_le (rfl : shp 31 = (3, 0)) (nle rfl)) (ci := 3) rfl rfl tw_4_160 tw_1_5 hl tw_4_158 tw_4_159 ⟨by decide, by decide, rfl⟩ hR rfl hrest hd ⟨Nat.zero_le _, Nat.zero_le _⟩ rfl (fun h => k)

theorem dX3_inState_0 : decode cX3_inState 0 = .ok (.iconst 0, 1) := by decide +kernel
theorem dX3_inState_1 : decode cX3_inState 1 = .ok (.istore_n 3, 1) := by decide +kernel
theorem dX3_inState_2 : decode cX3_inState 2 = .ok (.iconst 0, 1) := by decide +kernel
theorem dX3_inState_3 : decode cX3_inState 3 = .ok (.istore 4, 2) := by decide +kernel
theorem dX3_inState_5 : decode cX3_inState 5 = .ok (.iload 4, 2) := by decide +kernel
theorem dX3_inState_7 : decode cX3_inState 7 = .ok (.aload_n 1, 1) := by decide +kernel
theorem dX3_inState_8 : decode cX3_inState 8 = .ok (.getfield 140, 3) := by decide +kernel
theorem dX3_inState_11 : decode cX3_inState 11 = .ok (.if_icmp .ge 23, 3) := by decide +kernel
theorem dX3_inState_14 : decode cX3_inState 14 = .ok (.aload_n 0, 1) := by decide +kernel
theorem dX3_inState_15 : decode cX3_inState 15 = .ok (.getfield 41, 3) := by decide +kernel
theorem dX3_inState_18 : decode cX3_inState 18 = .ok (.iload 4, 2) := by decide +kernel
theorem dX3_inState_20 : decode cX3_inState 20 = .ok (.iaload, 1) := by decide +kernel
theorem dX3_inState_21 : decode cX3_inState 21 = .ok (.iload_n 2, 1) := by decide +kernel
theorem dX3_inState_22 : decode cX3_inState 22 = .ok (.if_icmp .ne 6, 3) := by decide +kernel
theorem dX3_inState_25 : decode cX3_inState 25 = .ok (.iinc 3 1, 3) := by decide +kernel
theorem dX3_inState_28 : decode cX3_inState 28 = .ok (.iinc 4 1, 3) := by decide +kernel
theorem dX3_inState_31 : decode cX3_inState 31 = .ok (.goto (-26), 3) := by decide +kernel
theorem dX3_inState_34 : decode cX3_inState 34 = .ok (.iload_n 3, 1) := by decide +kernel
theorem dX3_inState_35 : decode cX3_inState 35 = .ok (.ireturn, 1) := by decide +kernel
def mX3_inState : MM := (yX3_inState, cX3_inState, 5, Option.some Jvm.ClassFile.FieldType.int, { frames := 0, cells := 0, slots := 0, locals := 0 })
def X3_inState_L5 (σ_ : SS) (o1_ : Nat) (u2_ : Int32)  : Nat → Int32 → Int32 → Option Int32 :=
  lp (fun _ _ => none) fun rec v3_ v4_ =>
    if (gI σ_ o1_ 5) ≤ v4_ then (
      some v3_
      ) else (
      grd (inb v4_ 12) <|
      if (gI σ_ 54 (Int32.toNatClampNeg v4_)) = u2_ then (
        rec (v3_ + (1 : Int32)) (v4_ + (1 : Int32))
        ) else (
        rec v3_ (v4_ + (1 : Int32))
        )
      )

def fX3_inState (σ0 : SS) (a1 : Nat) (a2 : Int32) : Option Int32 :=
  X3_inState_L5 σ0 a1 a2
  fuel (0 : Int32) (0 : Int32)

set_option maxRecDepth 20000 in
theorem sX3_inState_L5 {g : GG} {r : Int32} {σ_ : SS} {σ0 : SS} {o1_ : Nat} {u2_ : Int32}  (hs1_ : shp o1_ = (1, 0))
    (hw_ : WT σ_)
    (h0_ : σ_ = σ0)
    (n : Nat) : ∀ (v3_ : Int32) (v4_ : Int32), X3_inState_L5 σ_ o1_ u2_ n v3_ v4_ = some r → RR g mX3_inState (FinR g mX3_inState (some (.int r)) NF σ0) zF 5 [(0, .ref (ad g 31)), (1, .ref (ad g o1_)), (2, .int u2_), (3, .int v3_), (4, .int v4_)] [] σ_ := by
  unfold X3_inState_L5
  refine lp_ind (P := fun (rec : Int32 → Int32 → Option Int32) => ∀ (v3_ : Int32) (v4_ : Int32), rec v3_ v4_ = some r → RR g mX3_inState (FinR g mX3_inState (some (.int r)) NF σ0) zF 5 [(0, .ref (ad g 31)), (1, .ref (ad g o1_)), (2, .int u2_), (3, .int v3_), (4, .int v4_)] [] σ_) ?_ ?_ n
  · intro v3_ v4_ hr; cases hr
  intro rec ih v3_ v4_ hr
  subst h0_
  refine r_iload (pc := 5) (j := 4) dX3_inState_5 rfl ?_
  refine r_aload_n (pc := 7) (j := 1) dX3_inState_7 rfl rfl ?_
  refine gf1_5 (pc := 8) tw_1_81 hs1_ dX3_inState_8 ?_
  refine r_icmp_ge (pc := 11) (tgt := 34) dX3_inState_11 rfl (fun hc => ?_) (fun hc => ?_)
  · replace hr := ite_t hc hr
    refine r_iload_n (pc := 34) (j := 3) dX3_inState_34 rfl rfl ?_
    exact l_opi hr (r_iret (pc := 35) (v := v3_) rfl rfl ⟨Nat.le_refl _, Nat.le_refl _⟩ dX3_inState_35)
  replace hr := ite_f hc hr
  refine r_aload_n (pc := 14) (j := 0) dX3_inState_14 rfl rfl ?_
  refine gf3_8 (pc := 15) tw_2_38 hw_ dX3_inState_15 ?_
  refine r_iload (pc := 18) (j := 4) dX3_inState_18 rfl ?_
  obtain ⟨h1, hr⟩ := grd_inv hr
  refine x_iald (pc := 20) (k := (Int32.toNatClampNeg v4_)) rfl h1 rfl dX3_inState_20 ?_
  refine r_iload_n (pc := 21) (j := 2) dX3_inState_21 rfl rfl ?_
  refine r_icmp_ne (pc := 22) (tgt := 28) dX3_inState_22 rfl (fun hc => ?_) (fun hc => ?_)
  · replace hr := ite_f hc hr
    refine r_iinc (pc := 28) (j := 4) (v := (v4_ + (1 : Int32))) (ls1 := [(4, .int (v4_ + (1 : Int32))), (0, .ref (ad g 31)), (1, .ref (ad g o1_)), (2, .int u2_), (3, .int v3_)]) dX3_inState_28 rfl rfl (nle rfl) rfl ?_
    refine r_goto (pc := 31) (tgt := 5) dX3_inState_31 rfl ?_
    exact r_pick (ls1 := [(0, .ref (ad g 31)), (1, .ref (ad g o1_)), (2, .int u2_), (3, .int v3_), (4, .int (v4_ + (1 : Int32)))]) [1, 2, 3, 4, 0] rfl (ih v3_ (v4_ + (1 : Int32)) hr)
  replace hr := ite_t hc hr
  refine r_iinc (pc := 25) (j := 3) (v := (v3_ + (1 : Int32))) (ls1 := [(3, .int (v3_ + (1 : Int32))), (0, .ref (ad g 31)), (1, .ref (ad g o1_)), (2, .int u2_), (4, .int v4_)]) dX3_inState_25 rfl rfl (nle rfl) rfl ?_
  refine r_iinc (pc := 28) (j := 4) (v := (v4_ + (1 : Int32))) (ls1 := [(4, .int (v4_ + (1 : Int32))), (3, .int (v3_ + (1 : Int32))), (0, .ref (ad g 31)), (1, .ref (ad g o1_)), (2, .int u2_)]) dX3_inState_28 rfl rfl (nle rfl) rfl ?_
  refine r_goto (pc := 31) (tgt := 5) dX3_inState_31 rfl ?_
  exact r_pick (ls1 := [(0, .ref (ad g 31)), (1, .ref (ad g o1_)), (2, .int u2_), (3, .int (v3_ + (1 : Int32))), (4, .int (v4_ + (1 : Int32)))]) [2, 3, 4, 1, 0] rfl (ih (v3_ + (1 : Int32)) (v4_ + (1 : Int32)) hr)

set_option maxRecDepth 20000 in
theorem sX3_inState {g : GG} {σ0 : SS} {a1 : Nat} {a2 : Int32} {r : Int32} (hr : fX3_inState σ0 a1 a2 = some r) (hs1 : shp a1 = (1, 0)) : Ct g mX3_inState [.ref (ad g 31), .ref (ad g a1), .int a2] NF σ0 (some (.int r)) NF σ0 := by
  refine Ct.of (by decide +kernel) (nle rfl) fun hw0 => ?_
  have hw := hw0 rfl
  unfold fX3_inState at hr
  change RR g mX3_inState (FinR g mX3_inState (some (.int r)) NF σ0) zF 0 [(0, .ref (ad g 31)), (1, .ref (ad g a1)), (2, .int a2)] [] σ0
  refine r_iconst (pc := 0) (v := (0 : Int32)) dX3_inState_0 rfl ?_
  refine r_istore_n (pc := 1) (ls1 := [(3, .int (0 : Int32)), (0, .ref (ad g 31)), (1, .ref (ad g a1)), (2, .int a2)]) dX3_inState_1 rfl (nle rfl) rfl ?_
  refine r_iconst (pc := 2) (v := (0 : Int32)) dX3_inState_2 rfl ?_
  refine r_istore (pc := 3) (ls1 := [(4, .int (0 : Int32)), (3, .int (0 : Int32)), (0, .ref (ad g 31)), (1, .ref (ad g a1)), (2, .int a2)]) dX3_inState_3 (nle rfl) rfl ?_
  refine r_pick (ls1 := [(0, .ref (ad g 31)), (1, .ref (ad g a1)), (2, .int a2), (3, .int (0 : Int32)), (4, .int (0 : Int32))]) [2, 3, 4, 1, 0] rfl ?_
  refine sX3_inState_L5 hs1 hw rfl  fuel (0 : Int32) (0 : Int32) hr

theorem kX3_inState {g : GG} {σ0 : SS} {a1 : Nat} {a2 : Int32} {v : Int32} {M : MM} {F : State → Array Value → List Frame → State → Prop} {pc index : Nat} {ls : List (Nat × Value)} {rest : List Value} (hf : fX3_inState σ0 a1 a2 = some v) (hs1 : shp a1 = (1, 0)) (hl : Cond.methodLink M.1.cls index yX3_inState ∈ lw_gt) (hR : mX3_inState.2.2.2.2.frames + 1 ≤ M.2.2.2.2.frames ∧ 8 + (mX3_inState.2.2.1 + 11) + mX3_inState.2.2.2.2.locals ≤ M.2.2.2.2.locals) (hrest : (rest.map fun v => v.category).sum ≤ 8) (hd : decode M.2.1 pc = .ok (.invokevirtual index, 3)) (k : RR g M F zF (pc + 3) ls (.int v :: rest) σ0) : RR g M F zF pc ls (.int a2 :: .ref (ad g a1) :: .ref (ad g 31) :: rest) σ0 :=
  r_callV (z := zF) (N := mX3_inState) (nn := 2) (o1 := some (.int v)) (sX3_inState hf hs1) (rfl : shp 31 = (3, 0)) (by decide) (shp_le (rfl : shp 31 = (3, 0)) (nle rfl)) (ci := 3) rfl rfl tw_4_164 tw_1_5 hl tw_4_162 tw_4_163 ⟨by decide, by decide, rfl⟩ hR rfl hrest hd ⟨Nat.zero_le _, Nat.zero_le _⟩ rfl (fun h => k)

theorem dX3_leftEmpty_0 : decode cX3_leftEmpty 0 = .ok (.iconst 0, 1) := by decide +kernel
theorem dX3_leftEmpty_1 : decode cX3_leftEmpty 1 = .ok (.istore_n 2, 1) := by decide +kernel
theorem dX3_leftEmpty_2 : decode cX3_leftEmpty 2 = .ok (.iconst 0, 1) := by decide +kernel
theorem dX3_leftEmpty_3 : decode cX3_leftEmpty 3 = .ok (.istore_n 3, 1) := by decide +kernel
theorem dX3_leftEmpty_4 : decode cX3_leftEmpty 4 = .ok (.iload_n 3, 1) := by decide +kernel
theorem dX3_leftEmpty_5 : decode cX3_leftEmpty 5 = .ok (.aload_n 1, 1) := by decide +kernel
theorem dX3_leftEmpty_6 : decode cX3_leftEmpty 6 = .ok (.getfield 140, 3) := by decide +kernel
theorem dX3_leftEmpty_9 : decode cX3_leftEmpty 9 = .ok (.if_icmp .ge 30, 3) := by decide +kernel
theorem dX3_leftEmpty_12 : decode cX3_leftEmpty 12 = .ok (.aload_n 0, 1) := by decide +kernel
theorem dX3_leftEmpty_13 : decode cX3_leftEmpty 13 = .ok (.getfield 41, 3) := by decide +kernel
theorem dX3_leftEmpty_16 : decode cX3_leftEmpty 16 = .ok (.iload_n 3, 1) := by decide +kernel
theorem dX3_leftEmpty_17 : decode cX3_leftEmpty 17 = .ok (.iaload, 1) := by decide +kernel
theorem dX3_leftEmpty_18 : decode cX3_leftEmpty 18 = .ok (.ifCond .ne 15, 3) := by decide +kernel
theorem dX3_leftEmpty_21 : decode cX3_leftEmpty 21 = .ok (.aload_n 0, 1) := by decide +kernel
theorem dX3_leftEmpty_22 : decode cX3_leftEmpty 22 = .ok (.getfield 38, 3) := by decide +kernel
theorem dX3_leftEmpty_25 : decode cX3_leftEmpty 25 = .ok (.iload_n 3, 1) := by decide +kernel
theorem dX3_leftEmpty_26 : decode cX3_leftEmpty 26 = .ok (.iaload, 1) := by decide +kernel
theorem dX3_leftEmpty_27 : decode cX3_leftEmpty 27 = .ok (.ifCond .ne 6, 3) := by decide +kernel
theorem dX3_leftEmpty_30 : decode cX3_leftEmpty 30 = .ok (.iinc 2 1, 3) := by decide +kernel
theorem dX3_leftEmpty_33 : decode cX3_leftEmpty 33 = .ok (.iinc 3 1, 3) := by decide +kernel
theorem dX3_leftEmpty_36 : decode cX3_leftEmpty 36 = .ok (.goto (-32), 3) := by decide +kernel
theorem dX3_leftEmpty_39 : decode cX3_leftEmpty 39 = .ok (.iload_n 2, 1) := by decide +kernel
theorem dX3_leftEmpty_40 : decode cX3_leftEmpty 40 = .ok (.ireturn, 1) := by decide +kernel
def mX3_leftEmpty : MM := (yX3_leftEmpty, cX3_leftEmpty, 4, Option.some Jvm.ClassFile.FieldType.int, { frames := 0, cells := 0, slots := 0, locals := 0 })
def X3_leftEmpty_L4 (σ_ : SS) (o1_ : Nat)  : Nat → Int32 → Int32 → Option Int32 :=
  lp (fun _ _ => none) fun rec v2_ v3_ =>
    if (gI σ_ o1_ 5) ≤ v3_ then (
      some v2_
      ) else (
      grd (inb v3_ 12) <|
      if (gI σ_ 54 (Int32.toNatClampNeg v3_)) = 0 then (
        if (gI σ_ 53 (Int32.toNatClampNeg v3_)) = 0 then (
          rec (v2_ + (1 : Int32)) (v3_ + (1 : Int32))
          ) else (
          rec v2_ (v3_ + (1 : Int32))
          )
        ) else (
        rec v2_ (v3_ + (1 : Int32))
        )
      )

def fX3_leftEmpty (σ0 : SS) (a1 : Nat) : Option Int32 :=
  X3_leftEmpty_L4 σ0 a1
  fuel (0 : Int32) (0 : Int32)

set_option maxRecDepth 20000 in
theorem sX3_leftEmpty_L4 {g : GG} {r : Int32} {σ_ : SS} {σ0 : SS} {o1_ : Nat}  (hs1_ : shp o1_ = (1, 0))
    (hw_ : WT σ_)
    (h0_ : σ_ = σ0)
    (n : Nat) : ∀ (v2_ : Int32) (v3_ : Int32), X3_leftEmpty_L4 σ_ o1_ n v2_ v3_ = some r → RR g mX3_leftEmpty (FinR g mX3_leftEmpty (some (.int r)) NF σ0) zF 4 [(0, .ref (ad g 31)), (1, .ref (ad g o1_)), (2, .int v2_), (3, .int v3_)] [] σ_ := by
  unfold X3_leftEmpty_L4
  refine lp_ind (P := fun (rec : Int32 → Int32 → Option Int32) => ∀ (v2_ : Int32) (v3_ : Int32), rec v2_ v3_ = some r → RR g mX3_leftEmpty (FinR g mX3_leftEmpty (some (.int r)) NF σ0) zF 4 [(0, .ref (ad g 31)), (1, .ref (ad g o1_)), (2, .int v2_), (3, .int v3_)] [] σ_) ?_ ?_ n
  · intro v2_ v3_ hr; cases hr
  intro rec ih v2_ v3_ hr
  subst h0_
  refine r_iload_n (pc := 4) (j := 3) dX3_leftEmpty_4 rfl rfl ?_
  refine r_aload_n (pc := 5) (j := 1) dX3_leftEmpty_5 rfl rfl ?_
  refine gf1_5 (pc := 6) tw_1_81 hs1_ dX3_leftEmpty_6 ?_
  refine r_icmp_ge (pc := 9) (tgt := 39) dX3_leftEmpty_9 rfl (fun hc => ?_) (fun hc => ?_)
  · replace hr := ite_t hc hr
    refine r_iload_n (pc := 39) (j := 2) dX3_leftEmpty_39 rfl rfl ?_
    exact l_opi hr (r_iret (pc := 40) (v := v2_) rfl rfl ⟨Nat.le_refl _, Nat.le_refl _⟩ dX3_leftEmpty_40)
  replace hr := ite_f hc hr
  refine r_aload_n (pc := 12) (j := 0) dX3_leftEmpty_12 rfl rfl ?_
  refine gf3_8 (pc := 13) tw_2_38 hw_ dX3_leftEmpty_13 ?_
  refine r_iload_n (pc := 16) (j := 3) dX3_leftEmpty_16 rfl rfl ?_
  obtain ⟨h1, hr⟩ := grd_inv hr
  refine x_iald (pc := 17) (k := (Int32.toNatClampNeg v3_)) rfl h1 rfl dX3_leftEmpty_17 ?_
  refine r_if_ne (pc := 18) (tgt := 33) dX3_leftEmpty_18 rfl (fun hc => ?_) (fun hc => ?_)
  · replace hr := ite_f hc hr
    refine r_iinc (pc := 33) (j := 3) (v := (v3_ + (1 : Int32))) (ls1 := [(3, .int (v3_ + (1 : Int32))), (0, .ref (ad g 31)), (1, .ref (ad g o1_)), (2, .int v2_)]) dX3_leftEmpty_33 rfl rfl (nle rfl) rfl ?_
    refine r_goto (pc := 36) (tgt := 4) dX3_leftEmpty_36 rfl ?_
    exact r_pick (ls1 := [(0, .ref (ad g 31)), (1, .ref (ad g o1_)), (2, .int v2_), (3, .int (v3_ + (1 : Int32)))]) [1, 2, 3, 0] rfl (ih v2_ (v3_ + (1 : Int32)) hr)
  replace hr := ite_t hc hr
  refine r_aload_n (pc := 21) (j := 0) dX3_leftEmpty_21 rfl rfl ?_
  refine gf3_7 (pc := 22) tw_2_35 hw_ dX3_leftEmpty_22 ?_
  refine r_iload_n (pc := 25) (j := 3) dX3_leftEmpty_25 rfl rfl ?_
  refine x_iald (pc := 26) (k := (Int32.toNatClampNeg v3_)) rfl h1 rfl dX3_leftEmpty_26 ?_
  refine r_if_ne (pc := 27) (tgt := 33) dX3_leftEmpty_27 rfl (fun hc => ?_) (fun hc => ?_)
  · replace hr := ite_f hc hr
    refine r_iinc (pc := 33) (j := 3) (v := (v3_ + (1 : Int32))) (ls1 := [(3, .int (v3_ + (1 : Int32))), (0, .ref (ad g 31)), (1, .ref (ad g o1_)), (2, .int v2_)]) dX3_leftEmpty_33 rfl rfl (nle rfl) rfl ?_
    refine r_goto (pc := 36) (tgt := 4) dX3_leftEmpty_36 rfl ?_
    exact r_pick (ls1 := [(0, .ref (ad g 31)), (1, .ref (ad g o1_)), (2, .int v2_), (3, .int (v3_ + (1 : Int32)))]) [1, 2, 3, 0] rfl (ih v2_ (v3_ + (1 : Int32)) hr)
  replace hr := ite_t hc hr
  refine r_iinc (pc := 30) (j := 2) (v := (v2_ + (1 : Int32))) (ls1 := [(2, .int (v2_ + (1 : Int32))), (0, .ref (ad g 31)), (1, .ref (ad g o1_)), (3, .int v3_)]) dX3_leftEmpty_30 rfl rfl (nle rfl) rfl ?_
  refine r_iinc (pc := 33) (j := 3) (v := (v3_ + (1 : Int32))) (ls1 := [(3, .int (v3_ + (1 : Int32))), (2, .int (v2_ + (1 : Int32))), (0, .ref (ad g 31)), (1, .ref (ad g o1_))]) dX3_leftEmpty_33 rfl rfl (nle rfl) rfl ?_
  refine r_goto (pc := 36) (tgt := 4) dX3_leftEmpty_36 rfl ?_
  exact r_pick (ls1 := [(0, .ref (ad g 31)), (1, .ref (ad g o1_)), (2, .int (v2_ + (1 : Int32))), (3, .int (v3_ + (1 : Int32)))]) [2, 3, 1, 0] rfl (ih (v2_ + (1 : Int32)) (v3_ + (1 : Int32)) hr)

set_option maxRecDepth 20000 in
theorem sX3_leftEmpty {g : GG} {σ0 : SS} {a1 : Nat} {r : Int32} (hr : fX3_leftEmpty σ0 a1 = some r) (hs1 : shp a1 = (1, 0)) : Ct g mX3_leftEmpty [.ref (ad g 31), .ref (ad g a1)] NF σ0 (some (.int r)) NF σ0 := by
  refine Ct.of (by decide +kernel) (nle rfl) fun hw0 => ?_
  have hw := hw0 rfl
  unfold fX3_leftEmpty at hr
  change RR g mX3_leftEmpty (FinR g mX3_leftEmpty (some (.int r)) NF σ0) zF 0 [(0, .ref (ad g 31)), (1, .ref (ad g a1))] [] σ0
  refine r_iconst (pc := 0) (v := (0 : Int32)) dX3_leftEmpty_0 rfl ?_
  refine r_istore_n (pc := 1) (ls1 := [(2, .int (0 : Int32)), (0, .ref (ad g 31)), (1, .ref (ad g a1))]) dX3_leftEmpty_1 rfl (nle rfl) rfl ?_
  refine r_iconst (pc := 2) (v := (0 : Int32)) dX3_leftEmpty_2 rfl ?_
  refine r_istore_n (pc := 3) (ls1 := [(3, .int (0 : Int32)), (2, .int (0 : Int32)), (0, .ref (ad g 31)), (1, .ref (ad g a1))]) dX3_leftEmpty_3 rfl (nle rfl) rfl ?_
  refine r_pick (ls1 := [(0, .ref (ad g 31)), (1, .ref (ad g a1)), (2, .int (0 : Int32)), (3, .int (0 : Int32))]) [2, 3, 1, 0] rfl ?_
  refine sX3_leftEmpty_L4 hs1 hw rfl  fuel (0 : Int32) (0 : Int32) hr

theorem kX3_leftEmpty {g : GG} {σ0 : SS} {a1 : Nat} {v : Int32} {M : MM} {F : State → Array Value → List Frame → State → Prop} {pc index : Nat} {ls : List (Nat × Value)} {rest : List Value} (hf : fX3_leftEmpty σ0 a1 = some v) (hs1 : shp a1 = (1, 0)) (hl : Cond.methodLink M.1.cls index yX3_leftEmpty ∈ lw_gt) (hR : mX3_leftEmpty.2.2.2.2.frames + 1 ≤ M.2.2.2.2.frames ∧ 8 + (mX3_leftEmpty.2.2.1 + 11) + mX3_leftEmpty.2.2.2.2.locals ≤ M.2.2.2.2.locals) (hrest : (rest.map fun v => v.category).sum ≤ 8) (hd : decode M.2.1 pc = .ok (.invokevirtual index, 3)) (k : RR g M F zF (pc + 3) ls (.int v :: rest) σ0) : RR g M F zF pc ls (.ref (ad g a1) :: .ref (ad g 31) :: rest) σ0 :=
  r_callV (z := zF) (N := mX3_leftEmpty) (nn := 1) (o1 := some (.int v)) (sX3_leftEmpty hf hs1) (rfl : shp 31 = (3, 0)) (by decide) (shp_le (rfl : shp 31 = (3, 0)) (nle rfl)) (ci := 3) rfl rfl tw_4_168 tw_1_5 hl tw_4_166 tw_4_167 ⟨by decide, by decide, rfl⟩ hR rfl hrest hd ⟨Nat.zero_le _, Nat.zero_le _⟩ rfl (fun h => k)

theorem dJ6_bitCount_0f7a4_0 : decode cJ6_bitCount_0f7a4 0 = .ok (.iload_n 0, 1) := by decide +kernel
theorem dJ6_bitCount_0f7a4_1 : decode cJ6_bitCount_0f7a4 1 = .ok (.iload_n 0, 1) := by decide +kernel
theorem dJ6_bitCount_0f7a4_2 : decode cJ6_bitCount_0f7a4 2 = .ok (.iconst 1, 1) := by decide +kernel
theorem dJ6_bitCount_0f7a4_3 : decode cJ6_bitCount_0f7a4 3 = .ok (.iushr, 1) := by decide +kernel
theorem dJ6_bitCount_0f7a4_4 : decode cJ6_bitCount_0f7a4 4 = .ok (.ldc_w 265, 3) := by decide +kernel
theorem dJ6_bitCount_0f7a4_7 : decode cJ6_bitCount_0f7a4 7 = .ok (.iand, 1) := by decide +kernel
theorem dJ6_bitCount_0f7a4_8 : decode cJ6_bitCount_0f7a4 8 = .ok (.isub, 1) := by decide +kernel
theorem dJ6_bitCount_0f7a4_9 : decode cJ6_bitCount_0f7a4 9 = .ok (.istore_n 0, 1) := by decide +kernel
theorem dJ6_bitCount_0f7a4_10 : decode cJ6_bitCount_0f7a4 10 = .ok (.iload_n 0, 1) := by decide +kernel
theorem dJ6_bitCount_0f7a4_11 : decode cJ6_bitCount_0f7a4 11 = .ok (.ldc_w 266, 3) := by decide +kernel
theorem dJ6_bitCount_0f7a4_14 : decode cJ6_bitCount_0f7a4 14 = .ok (.iand, 1) := by decide +kernel
theorem dJ6_bitCount_0f7a4_15 : decode cJ6_bitCount_0f7a4 15 = .ok (.iload_n 0, 1) := by decide +kernel
theorem dJ6_bitCount_0f7a4_16 : decode cJ6_bitCount_0f7a4 16 = .ok (.iconst 2, 1) := by decide +kernel
theorem dJ6_bitCount_0f7a4_17 : decode cJ6_bitCount_0f7a4 17 = .ok (.iushr, 1) := by decide +kernel
theorem dJ6_bitCount_0f7a4_18 : decode cJ6_bitCount_0f7a4 18 = .ok (.ldc_w 266, 3) := by decide +kernel
theorem dJ6_bitCount_0f7a4_21 : decode cJ6_bitCount_0f7a4 21 = .ok (.iand, 1) := by decide +kernel
theorem dJ6_bitCount_0f7a4_22 : decode cJ6_bitCount_0f7a4 22 = .ok (.iadd, 1) := by decide +kernel
theorem dJ6_bitCount_0f7a4_23 : decode cJ6_bitCount_0f7a4 23 = .ok (.istore_n 0, 1) := by decide +kernel
theorem dJ6_bitCount_0f7a4_24 : decode cJ6_bitCount_0f7a4 24 = .ok (.iload_n 0, 1) := by decide +kernel
theorem dJ6_bitCount_0f7a4_25 : decode cJ6_bitCount_0f7a4 25 = .ok (.iload_n 0, 1) := by decide +kernel
theorem dJ6_bitCount_0f7a4_26 : decode cJ6_bitCount_0f7a4 26 = .ok (.iconst 4, 1) := by decide +kernel
theorem dJ6_bitCount_0f7a4_27 : decode cJ6_bitCount_0f7a4 27 = .ok (.iushr, 1) := by decide +kernel
theorem dJ6_bitCount_0f7a4_28 : decode cJ6_bitCount_0f7a4 28 = .ok (.iadd, 1) := by decide +kernel
theorem dJ6_bitCount_0f7a4_29 : decode cJ6_bitCount_0f7a4 29 = .ok (.ldc_w 267, 3) := by decide +kernel
theorem dJ6_bitCount_0f7a4_32 : decode cJ6_bitCount_0f7a4 32 = .ok (.iand, 1) := by decide +kernel
theorem dJ6_bitCount_0f7a4_33 : decode cJ6_bitCount_0f7a4 33 = .ok (.istore_n 0, 1) := by decide +kernel
theorem dJ6_bitCount_0f7a4_34 : decode cJ6_bitCount_0f7a4 34 = .ok (.iload_n 0, 1) := by decide +kernel
theorem dJ6_bitCount_0f7a4_35 : decode cJ6_bitCount_0f7a4 35 = .ok (.iload_n 0, 1) := by decide +kernel
theorem dJ6_bitCount_0f7a4_36 : decode cJ6_bitCount_0f7a4 36 = .ok (.bipush 8, 2) := by decide +kernel
theorem dJ6_bitCount_0f7a4_38 : decode cJ6_bitCount_0f7a4 38 = .ok (.iushr, 1) := by decide +kernel
theorem dJ6_bitCount_0f7a4_39 : decode cJ6_bitCount_0f7a4 39 = .ok (.iadd, 1) := by decide +kernel
theorem dJ6_bitCount_0f7a4_40 : decode cJ6_bitCount_0f7a4 40 = .ok (.istore_n 0, 1) := by decide +kernel
theorem dJ6_bitCount_0f7a4_41 : decode cJ6_bitCount_0f7a4 41 = .ok (.iload_n 0, 1) := by decide +kernel
theorem dJ6_bitCount_0f7a4_42 : decode cJ6_bitCount_0f7a4 42 = .ok (.iload_n 0, 1) := by decide +kernel
theorem dJ6_bitCount_0f7a4_43 : decode cJ6_bitCount_0f7a4 43 = .ok (.bipush 16, 2) := by decide +kernel
theorem dJ6_bitCount_0f7a4_45 : decode cJ6_bitCount_0f7a4 45 = .ok (.iushr, 1) := by decide +kernel
theorem dJ6_bitCount_0f7a4_46 : decode cJ6_bitCount_0f7a4 46 = .ok (.iadd, 1) := by decide +kernel
theorem dJ6_bitCount_0f7a4_47 : decode cJ6_bitCount_0f7a4 47 = .ok (.istore_n 0, 1) := by decide +kernel
theorem dJ6_bitCount_0f7a4_48 : decode cJ6_bitCount_0f7a4 48 = .ok (.iload_n 0, 1) := by decide +kernel
theorem dJ6_bitCount_0f7a4_49 : decode cJ6_bitCount_0f7a4 49 = .ok (.bipush 63, 2) := by decide +kernel
theorem dJ6_bitCount_0f7a4_51 : decode cJ6_bitCount_0f7a4 51 = .ok (.iand, 1) := by decide +kernel
theorem dJ6_bitCount_0f7a4_52 : decode cJ6_bitCount_0f7a4 52 = .ok (.ireturn, 1) := by decide +kernel
def mJ6_bitCount_0f7a4 : MM := (yJ6_bitCount_0f7a4, cJ6_bitCount_0f7a4, 1, Option.some Jvm.ClassFile.FieldType.int, { frames := 0, cells := 0, slots := 0, locals := 0 })
def fJ6_bitCount_0f7a4 (σ0 : SS) (a0 : Int32) : Int32 :=
  vthen (a0 - (((Int32.toUInt32 a0 >>> (Int32.toUInt32 (1 : Int32) &&& Int32.toUInt32 31)).toInt32) &&& (1431655765 : Int32))) fun v1 =>
  vthen ((v1 &&& (858993459 : Int32)) + (((Int32.toUInt32 v1 >>> (Int32.toUInt32 (2 : Int32) &&& Int32.toUInt32 31)).toInt32) &&& (858993459 : Int32))) fun v2 =>
  vthen ((v2 + ((Int32.toUInt32 v2 >>> (Int32.toUInt32 (4 : Int32) &&& Int32.toUInt32 31)).toInt32)) &&& (252645135 : Int32)) fun v3 =>
  vthen (v3 + ((Int32.toUInt32 v3 >>> (Int32.toUInt32 (8 : Int32) &&& Int32.toUInt32 31)).toInt32)) fun v4 =>
  vthen (v4 + ((Int32.toUInt32 v4 >>> (Int32.toUInt32 (16 : Int32) &&& Int32.toUInt32 31)).toInt32)) fun v5 =>
  (v5 &&& (63 : Int32))

set_option maxRecDepth 20000 in
theorem sJ6_bitCount_0f7a4 {g : GG} {σ0 : SS} {a0 : Int32} {r : Int32} (hr : fJ6_bitCount_0f7a4 σ0 a0 = r)  : Ct g mJ6_bitCount_0f7a4 [.int a0] NF σ0 (some (.int r)) NF σ0 := by
  refine Ct.of (by decide +kernel) (nle rfl) fun hw0 => ?_
  have hw := hw0 rfl
  unfold fJ6_bitCount_0f7a4 at hr
  change RR g mJ6_bitCount_0f7a4 (FinR g mJ6_bitCount_0f7a4 (some (.int r)) NF σ0) zF 0 [(0, .int a0)] [] σ0
  refine r_iload_n (pc := 0) (j := 0) dJ6_bitCount_0f7a4_0 rfl rfl ?_
  refine r_iload_n (pc := 1) (j := 0) dJ6_bitCount_0f7a4_1 rfl rfl ?_
  refine r_iconst (pc := 2) (v := (1 : Int32)) dJ6_bitCount_0f7a4_2 rfl ?_
  refine r_iushr (pc := 3) dJ6_bitCount_0f7a4_3 ?_
  refine r_ldcw (pc := 4) (v := (1431655765 : Int32)) dJ6_bitCount_0f7a4_4 tw_4_176 ?_
  refine r_iand (pc := 7) dJ6_bitCount_0f7a4_7 ?_
  refine r_isub (pc := 8) dJ6_bitCount_0f7a4_8 ?_
  refine r_topi fun v1 ev1 => ?_
  replace hr := vthen_inv hr v1 ev1
  refine r_istore_n (pc := 9) (ls1 := [(0, .int v1)]) dJ6_bitCount_0f7a4_9 rfl (nle rfl) rfl ?_
  refine r_iload_n (pc := 10) (j := 0) dJ6_bitCount_0f7a4_10 rfl rfl ?_
  refine r_ldcw (pc := 11) (v := (858993459 : Int32)) dJ6_bitCount_0f7a4_11 tw_4_177 ?_
  refine r_iand (pc := 14) dJ6_bitCount_0f7a4_14 ?_
  refine r_iload_n (pc := 15) (j := 0) dJ6_bitCount_0f7a4_15 rfl rfl ?_
  refine r_iconst (pc := 16) (v := (2 : Int32)) dJ6_bitCount_0f7a4_16 rfl ?_
  refine r_iushr (pc := 17) dJ6_bitCount_0f7a4_17 ?_
  refine r_ldcw (pc := 18) (v := (858993459 : Int32)) dJ6_bitCount_0f7a4_18 tw_4_177 ?_
  refine r_iand (pc := 21) dJ6_bitCount_0f7a4_21 ?_
  refine r_iadd (pc := 22) dJ6_bitCount_0f7a4_22 ?_
  refine r_topi fun v2 ev2 => ?_
  replace hr := vthen_inv hr v2 ev2
  refine r_istore_n (pc := 23) (ls1 := [(0, .int v2)]) dJ6_bitCount_0f7a4_23 rfl (nle rfl) rfl ?_
  refine r_iload_n (pc := 24) (j := 0) dJ6_bitCount_0f7a4_24 rfl rfl ?_
  refine r_iload_n (pc := 25) (j := 0) dJ6_bitCount_0f7a4_25 rfl rfl ?_
  refine r_iconst (pc := 26) (v := (4 : Int32)) dJ6_bitCount_0f7a4_26 rfl ?_
  refine r_iushr (pc := 27) dJ6_bitCount_0f7a4_27 ?_
  refine r_iadd (pc := 28) dJ6_bitCount_0f7a4_28 ?_
  refine r_ldcw (pc := 29) (v := (252645135 : Int32)) dJ6_bitCount_0f7a4_29 tw_4_178 ?_
  refine r_iand (pc := 32) dJ6_bitCount_0f7a4_32 ?_
  refine r_topi fun v3 ev3 => ?_
  replace hr := vthen_inv hr v3 ev3
  refine r_istore_n (pc := 33) (ls1 := [(0, .int v3)]) dJ6_bitCount_0f7a4_33 rfl (nle rfl) rfl ?_
  refine r_iload_n (pc := 34) (j := 0) dJ6_bitCount_0f7a4_34 rfl rfl ?_
  refine r_iload_n (pc := 35) (j := 0) dJ6_bitCount_0f7a4_35 rfl rfl ?_
  refine r_bipush (pc := 36) (v := (8 : Int32)) dJ6_bitCount_0f7a4_36 rfl ?_
  refine r_iushr (pc := 38) dJ6_bitCount_0f7a4_38 ?_
  refine r_iadd (pc := 39) dJ6_bitCount_0f7a4_39 ?_
  refine r_topi fun v4 ev4 => ?_
  replace hr := vthen_inv hr v4 ev4
  refine r_istore_n (pc := 40) (ls1 := [(0, .int v4)]) dJ6_bitCount_0f7a4_40 rfl (nle rfl) rfl ?_
  refine r_iload_n (pc := 41) (j := 0) dJ6_bitCount_0f7a4_41 rfl rfl ?_
  refine r_iload_n (pc := 42) (j := 0) dJ6_bitCount_0f7a4_42 rfl rfl ?_
  refine r_bipush (pc := 43) (v := (16 : Int32)) dJ6_bitCount_0f7a4_43 rfl ?_
  refine r_iushr (pc := 45) dJ6_bitCount_0f7a4_45 ?_
  refine r_iadd (pc := 46) dJ6_bitCount_0f7a4_46 ?_
  refine r_topi fun v5 ev5 => ?_
  replace hr := vthen_inv hr v5 ev5
  refine r_istore_n (pc := 47) (ls1 := [(0, .int v5)]) dJ6_bitCount_0f7a4_47 rfl (nle rfl) rfl ?_
  refine r_iload_n (pc := 48) (j := 0) dJ6_bitCount_0f7a4_48 rfl rfl ?_
  refine r_bipush (pc := 49) (v := (63 : Int32)) dJ6_bitCount_0f7a4_49 rfl ?_
  refine r_iand (pc := 51) dJ6_bitCount_0f7a4_51 ?_
  exact l_pi hr (r_iret (pc := 52) (v := (v5 &&& (63 : Int32))) rfl rfl ⟨Nat.le_refl _, Nat.le_refl _⟩ dJ6_bitCount_0f7a4_52)

theorem kJ6_bitCount_0f7a4 {g : GG} {σ0 : SS} {a0 : Int32} {v : Int32} {M : MM} {F : State → Array Value → List Frame → State → Prop} {pc index : Nat} {ls : List (Nat × Value)} {rest : List Value} (hf : fJ6_bitCount_0f7a4 σ0 a0 = v)  (hl : Cond.methodLink M.1.cls index yJ6_bitCount_0f7a4 ∈ lw_gt) (hR : mJ6_bitCount_0f7a4.2.2.2.2.frames + 1 ≤ M.2.2.2.2.frames ∧ 8 + (mJ6_bitCount_0f7a4.2.2.1 + 11) + mJ6_bitCount_0f7a4.2.2.2.2.locals ≤ M.2.2.2.2.locals) (hrest : (rest.map fun v => v.category).sum ≤ 8) (hd : decode M.2.1 pc = .ok (.invokestatic index, 3)) (k : RR g M F zF (pc + 3) ls (.int v :: rest) σ0) : RR g M F zF pc ls (.int a0 :: rest) σ0 :=
  r_callS (z := zF) (N := mJ6_bitCount_0f7a4) (nn := 1) (o1 := some (.int v)) (sJ6_bitCount_0f7a4 hf ) tw_4_175 tw_1_17 hl tw_4_174 ⟨by decide, by decide, rfl⟩ hR rfl hrest hd ⟨Nat.zero_le _, Nat.zero_le _⟩ rfl (fun h => k)

theorem dX3_allRubbed_0 : decode cX3_allRubbed 0 = .ok (.iconst 0, 1) := by decide +kernel
theorem dX3_allRubbed_1 : decode cX3_allRubbed 1 = .ok (.istore_n 2, 1) := by decide +kernel
theorem dX3_allRubbed_2 : decode cX3_allRubbed 2 = .ok (.iconst 0, 1) := by decide +kernel
theorem dX3_allRubbed_3 : decode cX3_allRubbed 3 = .ok (.istore_n 3, 1) := by decide +kernel
theorem dX3_allRubbed_4 : decode cX3_allRubbed 4 = .ok (.iload_n 3, 1) := by decide +kernel
theorem dX3_allRubbed_5 : decode cX3_allRubbed 5 = .ok (.aload_n 1, 1) := by decide +kernel
theorem dX3_allRubbed_6 : decode cX3_allRubbed 6 = .ok (.getfield 140, 3) := by decide +kernel
theorem dX3_allRubbed_9 : decode cX3_allRubbed 9 = .ok (.if_icmp .ge 21, 3) := by decide +kernel
theorem dX3_allRubbed_12 : decode cX3_allRubbed 12 = .ok (.iload_n 2, 1) := by decide +kernel
theorem dX3_allRubbed_13 : decode cX3_allRubbed 13 = .ok (.aload_n 0, 1) := by decide +kernel
theorem dX3_allRubbed_14 : decode cX3_allRubbed 14 = .ok (.getfield 44, 3) := by decide +kernel
theorem dX3_allRubbed_17 : decode cX3_allRubbed 17 = .ok (.iload_n 3, 1) := by decide +kernel
theorem dX3_allRubbed_18 : decode cX3_allRubbed 18 = .ok (.iaload, 1) := by decide +kernel
theorem dX3_allRubbed_19 : decode cX3_allRubbed 19 = .ok (.invokestatic 170, 3) := by decide +kernel
theorem dX3_allRubbed_22 : decode cX3_allRubbed 22 = .ok (.iadd, 1) := by decide +kernel
theorem dX3_allRubbed_23 : decode cX3_allRubbed 23 = .ok (.istore_n 2, 1) := by decide +kernel
theorem dX3_allRubbed_24 : decode cX3_allRubbed 24 = .ok (.iinc 3 1, 3) := by decide +kernel
theorem dX3_allRubbed_27 : decode cX3_allRubbed 27 = .ok (.goto (-23), 3) := by decide +kernel
theorem dX3_allRubbed_30 : decode cX3_allRubbed 30 = .ok (.iload_n 2, 1) := by decide +kernel
theorem dX3_allRubbed_31 : decode cX3_allRubbed 31 = .ok (.ireturn, 1) := by decide +kernel
def mX3_allRubbed : MM := (yX3_allRubbed, cX3_allRubbed, 4, Option.some Jvm.ClassFile.FieldType.int, { frames := 1, cells := 0, slots := 0, locals := 20 })
def X3_allRubbed_L4 (σ_ : SS) (o1_ : Nat)  : Nat → Int32 → Int32 → Option Int32 :=
  lp (fun _ _ => none) fun rec v2_ v3_ =>
    if (gI σ_ o1_ 5) ≤ v3_ then (
      some v2_
      ) else (
      grd (inb v3_ 12) <|
      vthen (v2_ + (fJ6_bitCount_0f7a4 σ_ (gI σ_ 55 (Int32.toNatClampNeg v3_)))) fun v2 =>
      rec v2 (v3_ + (1 : Int32))
      )

def fX3_allRubbed (σ0 : SS) (a1 : Nat) : Option Int32 :=
  X3_allRubbed_L4 σ0 a1
  fuel (0 : Int32) (0 : Int32)

set_option maxRecDepth 20000 in
theorem sX3_allRubbed_L4 {g : GG} {r : Int32} {σ_ : SS} {σ0 : SS} {o1_ : Nat}  (hs1_ : shp o1_ = (1, 0))
    (hw_ : WT σ_)
    (h0_ : σ_ = σ0)
    (n : Nat) : ∀ (v2_ : Int32) (v3_ : Int32), X3_allRubbed_L4 σ_ o1_ n v2_ v3_ = some r → RR g mX3_allRubbed (FinR g mX3_allRubbed (some (.int r)) NF σ0) zF 4 [(0, .ref (ad g 31)), (1, .ref (ad g o1_)), (2, .int v2_), (3, .int v3_)] [] σ_ := by
  unfold X3_allRubbed_L4
  refine lp_ind (P := fun (rec : Int32 → Int32 → Option Int32) => ∀ (v2_ : Int32) (v3_ : Int32), rec v2_ v3_ = some r → RR g mX3_allRubbed (FinR g mX3_allRubbed (some (.int r)) NF σ0) zF 4 [(0, .ref (ad g 31)), (1, .ref (ad g o1_)), (2, .int v2_), (3, .int v3_)] [] σ_) ?_ ?_ n
  · intro v2_ v3_ hr; cases hr
  intro rec ih v2_ v3_ hr
  subst h0_
  refine r_iload_n (pc := 4) (j := 3) dX3_allRubbed_4 rfl rfl ?_
  refine r_aload_n (pc := 5) (j := 1) dX3_allRubbed_5 rfl rfl ?_
  refine gf1_5 (pc := 6) tw_1_81 hs1_ dX3_allRubbed_6 ?_
  refine r_icmp_ge (pc := 9) (tgt := 30) dX3_allRubbed_9 rfl (fun hc => ?_) (fun hc => ?_)
  · replace hr := ite_t hc hr
    refine r_iload_n (pc := 30) (j := 2) dX3_allRubbed_30 rfl rfl ?_
    exact l_opi hr (r_iret (pc := 31) (v := v2_) rfl rfl ⟨Nat.le_refl _, Nat.le_refl _⟩ dX3_allRubbed_31)
  replace hr := ite_f hc hr
  refine r_iload_n (pc := 12) (j := 2) dX3_allRubbed_12 rfl rfl ?_
  refine r_aload_n (pc := 13) (j := 0) dX3_allRubbed_13 rfl rfl ?_
  refine gf3_9 (pc := 14) tw_2_41 hw_ dX3_allRubbed_14 ?_
  refine r_iload_n (pc := 17) (j := 3) dX3_allRubbed_17 rfl rfl ?_
  obtain ⟨h1, hr⟩ := grd_inv hr
  refine x_iald (pc := 18) (k := (Int32.toNatClampNeg v3_)) rfl h1 rfl dX3_allRubbed_18 ?_
  refine kJ6_bitCount_0f7a4 (pc := 19) (hf := rfl) tw_4_173 ⟨nle rfl, nle rfl⟩ (nle rfl) dX3_allRubbed_19 ?_
  refine r_iadd (pc := 22) dX3_allRubbed_22 ?_
  refine r_topi fun v2 ev2 => ?_
  replace hr := vthen_inv hr v2 ev2
  refine r_istore_n (pc := 23) (ls1 := [(2, .int v2), (0, .ref (ad g 31)), (1, .ref (ad g o1_)), (3, .int v3_)]) dX3_allRubbed_23 rfl (nle rfl) rfl ?_
  refine r_iinc (pc := 24) (j := 3) (v := (v3_ + (1 : Int32))) (ls1 := [(3, .int (v3_ + (1 : Int32))), (2, .int v2), (0, .ref (ad g 31)), (1, .ref (ad g o1_))]) dX3_allRubbed_24 rfl rfl (nle rfl) rfl ?_
  refine r_goto (pc := 27) (tgt := 4) dX3_allRubbed_27 rfl ?_
  exact r_pick (ls1 := [(0, .ref (ad g 31)), (1, .ref (ad g o1_)), (2, .int v2), (3, .int (v3_ + (1 : Int32)))]) [2, 3, 1, 0] rfl (ih v2 (v3_ + (1 : Int32)) hr)

set_option maxRecDepth 20000 in
theorem sX3_allRubbed {g : GG} {σ0 : SS} {a1 : Nat} {r : Int32} (hr : fX3_allRubbed σ0 a1 = some r) (hs1 : shp a1 = (1, 0)) : Ct g mX3_allRubbed [.ref (ad g 31), .ref (ad g a1)] NF σ0 (some (.int r)) NF σ0 := by
  refine Ct.of (by decide +kernel) (nle rfl) fun hw0 => ?_
  have hw := hw0 rfl
  unfold fX3_allRubbed at hr
  change RR g mX3_allRubbed (FinR g mX3_allRubbed (some (.int r)) NF σ0) zF 0 [(0, .ref (ad g 31)), (1, .ref (ad g a1))] [] σ0
  refine r_iconst (pc := 0) (v := (0 : Int32)) dX3_allRubbed_0 rfl ?_
  refine r_istore_n (pc := 1) (ls1 := [(2, .int (0 : Int32)), (0, .ref (ad g 31)), (1, .ref (ad g a1))]) dX3_allRubbed_1 rfl (nle rfl) rfl ?_
  refine r_iconst (pc := 2) (v := (0 : Int32)) dX3_allRubbed_2 rfl ?_
  refine r_istore_n (pc := 3) (ls1 := [(3, .int (0 : Int32)), (2, .int (0 : Int32)), (0, .ref (ad g 31)), (1, .ref (ad g a1))]) dX3_allRubbed_3 rfl (nle rfl) rfl ?_
  refine r_pick (ls1 := [(0, .ref (ad g 31)), (1, .ref (ad g a1)), (2, .int (0 : Int32)), (3, .int (0 : Int32))]) [2, 3, 1, 0] rfl ?_
  refine sX3_allRubbed_L4 hs1 hw rfl  fuel (0 : Int32) (0 : Int32) hr

theorem kX3_allRubbed {g : GG} {σ0 : SS} {a1 : Nat} {v : Int32} {M : MM} {F : State → Array Value → List Frame → State → Prop} {pc index : Nat} {ls : List (Nat × Value)} {rest : List Value} (hf : fX3_allRubbed σ0 a1 = some v) (hs1 : shp a1 = (1, 0)) (hl : Cond.methodLink M.1.cls index yX3_allRubbed ∈ lw_gt) (hR : mX3_allRubbed.2.2.2.2.frames + 1 ≤ M.2.2.2.2.frames ∧ 8 + (mX3_allRubbed.2.2.1 + 11) + mX3_allRubbed.2.2.2.2.locals ≤ M.2.2.2.2.locals) (hrest : (rest.map fun v => v.category).sum ≤ 8) (hd : decode M.2.1 pc = .ok (.invokevirtual index, 3)) (k : RR g M F zF (pc + 3) ls (.int v :: rest) σ0) : RR g M F zF pc ls (.ref (ad g a1) :: .ref (ad g 31) :: rest) σ0 :=
  r_callV (z := zF) (N := mX3_allRubbed) (nn := 1) (o1 := some (.int v)) (sX3_allRubbed hf hs1) (rfl : shp 31 = (3, 0)) (by decide) (shp_le (rfl : shp 31 = (3, 0)) (nle rfl)) (ci := 3) rfl rfl tw_4_172 tw_1_5 hl tw_4_170 tw_4_171 ⟨by decide, by decide, rfl⟩ hR rfl hrest hd ⟨Nat.zero_le _, Nat.zero_le _⟩ rfl (fun h => k)

theorem dX7_sheet_0 : decode cX7_sheet 0 = .ok (.aload_n 0, 1) := by decide +kernel
theorem dX7_sheet_1 : decode cX7_sheet 1 = .ok (.getfield 32, 3) := by decide +kernel
theorem dX7_sheet_4 : decode cX7_sheet 4 = .ok (.getfield 274, 3) := by decide +kernel
theorem dX7_sheet_7 : decode cX7_sheet 7 = .ok (.ifCond .eq 12, 3) := by decide +kernel
theorem dX7_sheet_10 : decode cX7_sheet 10 = .ok (.iload_n 1, 1) := by decide +kernel
theorem dX7_sheet_11 : decode cX7_sheet 11 = .ok (.ifCond .lt 8, 3) := by decide +kernel
theorem dX7_sheet_14 : decode cX7_sheet 14 = .ok (.iload_n 1, 1) := by decide +kernel
theorem dX7_sheet_15 : decode cX7_sheet 15 = .ok (.iconst 4, 1) := by decide +kernel
theorem dX7_sheet_16 : decode cX7_sheet 16 = .ok (.if_icmp .le 7, 3) := by decide +kernel
theorem dX7_sheet_19 : decode cX7_sheet 19 = .ok (.ldc_w 302, 3) := by decide +kernel
theorem dX7_sheet_22 : decode cX7_sheet 22 = .ok (.ireturn, 1) := by decide +kernel
theorem dX7_sheet_23 : decode cX7_sheet 23 = .ok (.aload_n 0, 1) := by decide +kernel
theorem dX7_sheet_24 : decode cX7_sheet 24 = .ok (.getfield 62, 3) := by decide +kernel
theorem dX7_sheet_27 : decode cX7_sheet 27 = .ok (.aload_n 0, 1) := by decide +kernel
theorem dX7_sheet_28 : decode cX7_sheet 28 = .ok (.getfield 18, 3) := by decide +kernel
theorem dX7_sheet_31 : decode cX7_sheet 31 = .ok (.aload_n 0, 1) := by decide +kernel
theorem dX7_sheet_32 : decode cX7_sheet 32 = .ok (.getfield 32, 3) := by decide +kernel
theorem dX7_sheet_35 : decode cX7_sheet 35 = .ok (.invokevirtual 303, 3) := by decide +kernel
theorem dX7_sheet_38 : decode cX7_sheet 38 = .ok (.ifCond .ne 7, 3) := by decide +kernel
theorem dX7_sheet_41 : decode cX7_sheet 41 = .ok (.ldc_w 320, 3) := by decide +kernel
theorem dX7_sheet_44 : decode cX7_sheet 44 = .ok (.ireturn, 1) := by decide +kernel
theorem dX7_sheet_45 : decode cX7_sheet 45 = .ok (.iload_n 1, 1) := by decide +kernel
theorem dX7_sheet_46 : decode cX7_sheet 46 = .ok (.tableswitch 80 0 3 #[30, 42, 55, 68], 30) := by decide +kernel
theorem dX7_sheet_76 : decode cX7_sheet 76 = .ok (.aload_n 0, 1) := by decide +kernel
theorem dX7_sheet_77 : decode cX7_sheet 77 = .ok (.getfield 62, 3) := by decide +kernel
theorem dX7_sheet_80 : decode cX7_sheet 80 = .ok (.aload_n 0, 1) := by decide +kernel
theorem dX7_sheet_81 : decode cX7_sheet 81 = .ok (.getfield 32, 3) := by decide +kernel
theorem dX7_sheet_84 : decode cX7_sheet 84 = .ok (.invokevirtual 321, 3) := by decide +kernel
theorem dX7_sheet_87 : decode cX7_sheet 87 = .ok (.ireturn, 1) := by decide +kernel
theorem dX7_sheet_88 : decode cX7_sheet 88 = .ok (.aload_n 0, 1) := by decide +kernel
theorem dX7_sheet_89 : decode cX7_sheet 89 = .ok (.getfield 62, 3) := by decide +kernel
theorem dX7_sheet_92 : decode cX7_sheet 92 = .ok (.aload_n 0, 1) := by decide +kernel
theorem dX7_sheet_93 : decode cX7_sheet 93 = .ok (.getfield 32, 3) := by decide +kernel
theorem dX7_sheet_96 : decode cX7_sheet 96 = .ok (.iconst 1, 1) := by decide +kernel
theorem dX7_sheet_97 : decode cX7_sheet 97 = .ok (.invokevirtual 325, 3) := by decide +kernel
theorem dX7_sheet_100 : decode cX7_sheet 100 = .ok (.ireturn, 1) := by decide +kernel
theorem dX7_sheet_101 : decode cX7_sheet 101 = .ok (.aload_n 0, 1) := by decide +kernel
theorem dX7_sheet_102 : decode cX7_sheet 102 = .ok (.getfield 62, 3) := by decide +kernel
theorem dX7_sheet_105 : decode cX7_sheet 105 = .ok (.aload_n 0, 1) := by decide +kernel
theorem dX7_sheet_106 : decode cX7_sheet 106 = .ok (.getfield 32, 3) := by decide +kernel
theorem dX7_sheet_109 : decode cX7_sheet 109 = .ok (.iconst 2, 1) := by decide +kernel
theorem dX7_sheet_110 : decode cX7_sheet 110 = .ok (.invokevirtual 325, 3) := by decide +kernel
theorem dX7_sheet_113 : decode cX7_sheet 113 = .ok (.ireturn, 1) := by decide +kernel
theorem dX7_sheet_114 : decode cX7_sheet 114 = .ok (.aload_n 0, 1) := by decide +kernel
theorem dX7_sheet_115 : decode cX7_sheet 115 = .ok (.getfield 62, 3) := by decide +kernel
theorem dX7_sheet_118 : decode cX7_sheet 118 = .ok (.aload_n 0, 1) := by decide +kernel
theorem dX7_sheet_119 : decode cX7_sheet 119 = .ok (.getfield 32, 3) := by decide +kernel
theorem dX7_sheet_122 : decode cX7_sheet 122 = .ok (.invokevirtual 329, 3) := by decide +kernel
theorem dX7_sheet_125 : decode cX7_sheet 125 = .ok (.ireturn, 1) := by decide +kernel
theorem dX7_sheet_126 : decode cX7_sheet 126 = .ok (.aload_n 0, 1) := by decide +kernel
theorem dX7_sheet_127 : decode cX7_sheet 127 = .ok (.getfield 62, 3) := by decide +kernel
theorem dX7_sheet_130 : decode cX7_sheet 130 = .ok (.aload_n 0, 1) := by decide +kernel
theorem dX7_sheet_131 : decode cX7_sheet 131 = .ok (.getfield 32, 3) := by decide +kernel
theorem dX7_sheet_134 : decode cX7_sheet 134 = .ok (.invokevirtual 332, 3) := by decide +kernel
theorem dX7_sheet_137 : decode cX7_sheet 137 = .ok (.ireturn, 1) := by decide +kernel
def mX7_sheet : MM := (yX7_sheet, cX7_sheet, 2, Option.some Jvm.ClassFile.FieldType.int, { frames := 6, cells := 0, slots := 0, locals := 148 })
def fX7_sheet (σ : SS) (a1 : Int32) : Option (Int32 × SS) :=
  if (gI σ (gR σ 1 5) 0) = 0 then (
    some ((-2147483648 : Int32), σ)
    ) else (
    if a1 < 0 then (
      some ((-2147483648 : Int32), σ)
      ) else (
      if a1 ≤ (4 : Int32) then (
        bnd (fX3_read σ (gR σ 1 2) (gR σ 1 5)) fun b2 σ4 =>
        if b2 = true then (
          if a1 = (0 : Int32) then (
            bnd1 (fX3_allGains σ4 (gR σ4 1 5)) fun v5 =>
            some (v5, σ4)
            ) else
          if a1 = (1 : Int32) then (
            bnd1 (fX3_inState σ4 (gR σ4 1 5) (1 : Int32)) fun v8 =>
            some (v8, σ4)
            ) else
          if a1 = (2 : Int32) then (
            bnd1 (fX3_inState σ4 (gR σ4 1 5) (2 : Int32)) fun v11 =>
            some (v11, σ4)
            ) else
          if a1 = (3 : Int32) then (
            bnd1 (fX3_leftEmpty σ4 (gR σ4 1 5)) fun v14 =>
            some (v14, σ4)
            ) else
          bnd1 (fX3_allRubbed σ4 (gR σ4 1 5)) fun v17 =>
          some (v17, σ4)
          ) else (
          some ((-1000000 : Int32), σ4)
          )
        ) else (
        some ((-2147483648 : Int32), σ)
        )
      )
    )

set_option maxRecDepth 20000 in
theorem sX7_sheet {g : GG} {σ : SS} {a1 : Int32} {r : Int32 × SS} (hr : fX7_sheet σ a1 = some r)  : Ct g mX7_sheet [.ref (ad g 1), .int a1] NF σ (some (.int r.1)) NF r.2 := by
  refine Ct.of (by decide +kernel) (nle rfl) fun hw0 => ?_
  have hw := hw0 rfl
  unfold fX7_sheet at hr
  change RR g mX7_sheet (FinR g mX7_sheet (some (.int r.1)) NF r.2) zF 0 [(0, .ref (ad g 1)), (1, .int a1)] [] σ
  refine r_aload_n (pc := 0) (j := 0) dX7_sheet_0 rfl rfl ?_
  refine gf7_5 (pc := 1) tw_2_114 hw dX7_sheet_1 ?_
  refine gf1_0 (pc := 4) tw_1_61 (wt_fo hw).1 dX7_sheet_4 ?_
  refine r_if_eq (pc := 7) (tgt := 19) dX7_sheet_7 rfl (fun hc => ?_) (fun hc => ?_)
  · replace hr := ite_t hc hr
    refine r_ldcw (pc := 19) (v := (-2147483648 : Int32)) dX7_sheet_19 tw_4_134 ?_
    exact l_osi hr (r_iret (pc := 22) (v := (-2147483648 : Int32)) rfl rfl ⟨Nat.le_refl _, Nat.le_refl _⟩ dX7_sheet_22)
  replace hr := ite_f hc hr
  refine r_iload_n (pc := 10) (j := 1) dX7_sheet_10 rfl rfl ?_
  refine r_if_lt (pc := 11) (tgt := 19) dX7_sheet_11 rfl (fun hc => ?_) (fun hc => ?_)
  · replace hr := ite_t hc hr
    refine r_ldcw (pc := 19) (v := (-2147483648 : Int32)) dX7_sheet_19 tw_4_134 ?_
    exact l_osi hr (r_iret (pc := 22) (v := (-2147483648 : Int32)) rfl rfl ⟨Nat.le_refl _, Nat.le_refl _⟩ dX7_sheet_22)
  replace hr := ite_f hc hr
  refine r_iload_n (pc := 14) (j := 1) dX7_sheet_14 rfl rfl ?_
  refine r_iconst (pc := 15) (v := (4 : Int32)) dX7_sheet_15 rfl ?_
  refine r_icmp_le (pc := 16) (tgt := 23) dX7_sheet_16 rfl (fun hc => ?_) (fun hc => ?_)
  · replace hr := ite_t hc hr
    refine r_aload_n (pc := 23) (j := 0) dX7_sheet_23 rfl rfl ?_
    refine gf7_12 (pc := 24) tw_2_121 hw dX7_sheet_24 ?_
    refine r_aload_n (pc := 27) (j := 0) dX7_sheet_27 rfl rfl ?_
    refine gf7_2 (pc := 28) tw_2_111 hw dX7_sheet_28 ?_
    refine r_aload_n (pc := 31) (j := 0) dX7_sheet_31 rfl rfl ?_
    refine gf7_5 (pc := 32) tw_2_114 hw dX7_sheet_32 ?_
    obtain ⟨b2, σ4, eσ4, hr⟩ := bnd_inv hr
    refine kX3_read (pc := 35) eσ4 (wt_sc hw).1 (wt_fo hw).1 tw_4_135 ⟨nle rfl, nle rfl⟩ (nle rfl) dX7_sheet_35 fun hσ4 => ?_
    refine r_ifB_ne (pc := 38) (tgt := 45) dX7_sheet_38 rfl (fun hc => ?_) (fun hc => ?_)
    · replace hr := ite_t hc hr
      refine r_iload_n (pc := 45) (j := 1) dX7_sheet_45 rfl rfl ?_
      by_cases hc0 : a1 = (0 : Int32)
      · replace hr := ite_t hc0 hr
        refine r_tabIn (pc := 46) (off := 30) (tgt := 76) dX7_sheet_46 (by rw [hc0]; decide) (by rw [hc0]; decide) (by rw [hc0]; rfl) rfl ?_
        refine r_aload_n (pc := 76) (j := 0) dX7_sheet_76 rfl rfl ?_
        refine gf7_12 (pc := 77) tw_2_121 hσ4 dX7_sheet_77 ?_
        refine r_aload_n (pc := 80) (j := 0) dX7_sheet_80 rfl rfl ?_
        refine gf7_5 (pc := 81) tw_2_114 hσ4 dX7_sheet_81 ?_
        obtain ⟨v5, hv5, hr⟩ := bnd1_inv hr
        refine kX3_allGains (pc := 84) hv5 (wt_fo hσ4).1 tw_4_157 ⟨nle rfl, nle rfl⟩ (nle rfl) dX7_sheet_84 ?_
        exact l_osi hr (r_iret (pc := 87) (v := v5) rfl rfl ⟨Nat.le_refl _, Nat.le_refl _⟩ dX7_sheet_87)
      replace hr := ite_f hc0 hr
      by_cases hc1 : a1 = (1 : Int32)
      · replace hr := ite_t hc1 hr
        refine r_tabIn (pc := 46) (off := 42) (tgt := 88) dX7_sheet_46 (by rw [hc1]; decide) (by rw [hc1]; decide) (by rw [hc1]; rfl) rfl ?_
        refine r_aload_n (pc := 88) (j := 0) dX7_sheet_88 rfl rfl ?_
        refine gf7_12 (pc := 89) tw_2_121 hσ4 dX7_sheet_89 ?_
        refine r_aload_n (pc := 92) (j := 0) dX7_sheet_92 rfl rfl ?_
        refine gf7_5 (pc := 93) tw_2_114 hσ4 dX7_sheet_93 ?_
        refine r_iconst (pc := 96) (v := (1 : Int32)) dX7_sheet_96 rfl ?_
        obtain ⟨v8, hv8, hr⟩ := bnd1_inv hr
        refine kX3_inState (pc := 97) hv8 (wt_fo hσ4).1 tw_4_161 ⟨nle rfl, nle rfl⟩ (nle rfl) dX7_sheet_97 ?_
        exact l_osi hr (r_iret (pc := 100) (v := v8) rfl rfl ⟨Nat.le_refl _, Nat.le_refl _⟩ dX7_sheet_100)
      replace hr := ite_f hc1 hr
      by_cases hc2 : a1 = (2 : Int32)
      · replace hr := ite_t hc2 hr
        refine r_tabIn (pc := 46) (off := 55) (tgt := 101) dX7_sheet_46 (by rw [hc2]; decide) (by rw [hc2]; decide) (by rw [hc2]; rfl) rfl ?_
        refine r_aload_n (pc := 101) (j := 0) dX7_sheet_101 rfl rfl ?_
        refine gf7_12 (pc := 102) tw_2_121 hσ4 dX7_sheet_102 ?_
        refine r_aload_n (pc := 105) (j := 0) dX7_sheet_105 rfl rfl ?_
        refine gf7_5 (pc := 106) tw_2_114 hσ4 dX7_sheet_106 ?_
        refine r_iconst (pc := 109) (v := (2 : Int32)) dX7_sheet_109 rfl ?_
        obtain ⟨v11, hv11, hr⟩ := bnd1_inv hr
        refine kX3_inState (pc := 110) hv11 (wt_fo hσ4).1 tw_4_161 ⟨nle rfl, nle rfl⟩ (nle rfl) dX7_sheet_110 ?_
        exact l_osi hr (r_iret (pc := 113) (v := v11) rfl rfl ⟨Nat.le_refl _, Nat.le_refl _⟩ dX7_sheet_113)
      replace hr := ite_f hc2 hr
      by_cases hc3 : a1 = (3 : Int32)
      · replace hr := ite_t hc3 hr
        refine r_tabIn (pc := 46) (off := 68) (tgt := 114) dX7_sheet_46 (by rw [hc3]; decide) (by rw [hc3]; decide) (by rw [hc3]; rfl) rfl ?_
        refine r_aload_n (pc := 114) (j := 0) dX7_sheet_114 rfl rfl ?_
        refine gf7_12 (pc := 115) tw_2_121 hσ4 dX7_sheet_115 ?_
        refine r_aload_n (pc := 118) (j := 0) dX7_sheet_118 rfl rfl ?_
        refine gf7_5 (pc := 119) tw_2_114 hσ4 dX7_sheet_119 ?_
        obtain ⟨v14, hv14, hr⟩ := bnd1_inv hr
        refine kX3_leftEmpty (pc := 122) hv14 (wt_fo hσ4).1 tw_4_165 ⟨nle rfl, nle rfl⟩ (nle rfl) dX7_sheet_122 ?_
        exact l_osi hr (r_iret (pc := 125) (v := v14) rfl rfl ⟨Nat.le_refl _, Nat.le_refl _⟩ dX7_sheet_125)
      replace hr := ite_f hc3 hr
      refine r_tabOut (pc := 46) (tgt := 126) dX7_sheet_46 (tab_out (by decide) (by decide) fun k h1 h2 => ?_) rfl ?_
      · rcases (show k = 0 ∨ k = 1 ∨ k = 2 ∨ k = 3 by omega) with rfl | rfl | rfl | rfl
        · exact hc0
        · exact hc1
        · exact hc2
        · exact hc3
      refine r_aload_n (pc := 126) (j := 0) dX7_sheet_126 rfl rfl ?_
      refine gf7_12 (pc := 127) tw_2_121 hσ4 dX7_sheet_127 ?_
      refine r_aload_n (pc := 130) (j := 0) dX7_sheet_130 rfl rfl ?_
      refine gf7_5 (pc := 131) tw_2_114 hσ4 dX7_sheet_131 ?_
      obtain ⟨v17, hv17, hr⟩ := bnd1_inv hr
      refine kX3_allRubbed (pc := 134) hv17 (wt_fo hσ4).1 tw_4_169 ⟨nle rfl, nle rfl⟩ (nle rfl) dX7_sheet_134 ?_
      exact l_osi hr (r_iret (pc := 137) (v := v17) rfl rfl ⟨Nat.le_refl _, Nat.le_refl _⟩ dX7_sheet_137)
    replace hr := ite_f hc hr
    refine r_ldcw (pc := 41) (v := (-1000000 : Int32)) dX7_sheet_41 tw_4_156 ?_
    exact l_osi hr (r_iret (pc := 44) (v := (-1000000 : Int32)) rfl rfl ⟨Nat.le_refl _, Nat.le_refl _⟩ dX7_sheet_44)
  replace hr := ite_f hc hr
  refine r_ldcw (pc := 19) (v := (-2147483648 : Int32)) dX7_sheet_19 tw_4_134 ?_
  exact l_osi hr (r_iret (pc := 22) (v := (-2147483648 : Int32)) rfl rfl ⟨Nat.le_refl _, Nat.le_refl _⟩ dX7_sheet_22)

theorem kX7_sheet {g : GG} {σ : SS} {a1 : Int32} {v : Int32} {σ2 : SS} {M : MM} {F : State → Array Value → List Frame → State → Prop} {pc index : Nat} {ls : List (Nat × Value)} {rest : List Value} (hf : fX7_sheet σ a1 = some (v, σ2))  (hl : Cond.methodLink M.1.cls index yX7_sheet ∈ lw_gt) (hR : mX7_sheet.2.2.2.2.frames + 1 ≤ M.2.2.2.2.frames ∧ 8 + (mX7_sheet.2.2.1 + 11) + mX7_sheet.2.2.2.2.locals ≤ M.2.2.2.2.locals) (hrest : (rest.map fun v => v.category).sum ≤ 8) (hd : decode M.2.1 pc = .ok (.invokevirtual index, 3)) (k : WT σ2 → RR g M F zF (pc + 3) ls (.int v :: rest) σ2) : RR g M F zF pc ls (.int a1 :: .ref (ad g 1) :: rest) σ :=
  r_callV (z := zF) (N := mX7_sheet) (nn := 1) (o1 := some (.int v)) (sX7_sheet hf ) (rfl : shp 1 = (7, 0)) (by decide) (shp_le (rfl : shp 1 = (7, 0)) (nle rfl)) (ci := 7) rfl rfl tw_4_155 tw_1_1 hl tw_4_153 tw_4_154 ⟨by decide, by decide, rfl⟩ hR rfl hrest hd ⟨Nat.zero_le _, Nat.zero_le _⟩ rfl (fun h => k (h rfl))

theorem dX8_bits_0 : decode cX8_bits 0 = .ok (.iconst 0, 1) := by decide +kernel
theorem dX8_bits_1 : decode cX8_bits 1 = .ok (.istore_n 1, 1) := by decide +kernel
theorem dX8_bits_2 : decode cX8_bits 2 = .ok (.iconst 0, 1) := by decide +kernel
theorem dX8_bits_3 : decode cX8_bits 3 = .ok (.istore_n 2, 1) := by decide +kernel
theorem dX8_bits_4 : decode cX8_bits 4 = .ok (.iload_n 2, 1) := by decide +kernel
theorem dX8_bits_5 : decode cX8_bits 5 = .ok (.bipush 12, 2) := by decide +kernel
theorem dX8_bits_7 : decode cX8_bits 7 = .ok (.if_icmp .ge 17, 3) := by decide +kernel
theorem dX8_bits_10 : decode cX8_bits 10 = .ok (.iload_n 1, 1) := by decide +kernel
theorem dX8_bits_11 : decode cX8_bits 11 = .ok (.iload_n 0, 1) := by decide +kernel
theorem dX8_bits_12 : decode cX8_bits 12 = .ok (.iload_n 2, 1) := by decide +kernel
theorem dX8_bits_13 : decode cX8_bits 13 = .ok (.ishr, 1) := by decide +kernel
theorem dX8_bits_14 : decode cX8_bits 14 = .ok (.iconst 1, 1) := by decide +kernel
theorem dX8_bits_15 : decode cX8_bits 15 = .ok (.iand, 1) := by decide +kernel
theorem dX8_bits_16 : decode cX8_bits 16 = .ok (.iadd, 1) := by decide +kernel
theorem dX8_bits_17 : decode cX8_bits 17 = .ok (.istore_n 1, 1) := by decide +kernel
theorem dX8_bits_18 : decode cX8_bits 18 = .ok (.iinc 2 1, 3) := by decide +kernel
theorem dX8_bits_21 : decode cX8_bits 21 = .ok (.goto (-17), 3) := by decide +kernel
theorem dX8_bits_24 : decode cX8_bits 24 = .ok (.iload_n 1, 1) := by decide +kernel
theorem dX8_bits_25 : decode cX8_bits 25 = .ok (.ireturn, 1) := by decide +kernel
def mX8_bits : MM := (yX8_bits, cX8_bits, 3, Option.some Jvm.ClassFile.FieldType.int, { frames := 0, cells := 0, slots := 0, locals := 0 })
def X8_bits_L4 (σ_ : SS) (u0_ : Int32)  : Nat → Int32 → Int32 → Option Int32 :=
  lp (fun _ _ => none) fun rec v1_ v2_ =>
    if (12 : Int32) ≤ v2_ then (
      some v1_
      ) else (
      vthen (v1_ + ((u0_ >>> (v2_ &&& 31)) &&& (1 : Int32))) fun v1 =>
      rec v1 (v2_ + (1 : Int32))
      )

def fX8_bits (σ0 : SS) (a0 : Int32) : Option Int32 :=
  X8_bits_L4 σ0 a0
  fuel (0 : Int32) (0 : Int32)

set_option maxRecDepth 20000 in
theorem sX8_bits_L4 {g : GG} {r : Int32} {σ_ : SS} {σ0 : SS} {u0_ : Int32}  
    (hw_ : WT σ_)
    (h0_ : σ_ = σ0)
    (n : Nat) : ∀ (v1_ : Int32) (v2_ : Int32), X8_bits_L4 σ_ u0_ n v1_ v2_ = some r → RR g mX8_bits (FinR g mX8_bits (some (.int r)) NF σ0) zF 4 [(0, .int u0_), (1, .int v1_), (2, .int v2_)] [] σ_ := by
  unfold X8_bits_L4
  refine lp_ind (P := fun (rec : Int32 → Int32 → Option Int32) => ∀ (v1_ : Int32) (v2_ : Int32), rec v1_ v2_ = some r → RR g mX8_bits (FinR g mX8_bits (some (.int r)) NF σ0) zF 4 [(0, .int u0_), (1, .int v1_), (2, .int v2_)] [] σ_) ?_ ?_ n
  · intro v1_ v2_ hr; cases hr
  intro rec ih v1_ v2_ hr
  subst h0_
  refine r_iload_n (pc := 4) (j := 2) dX8_bits_4 rfl rfl ?_
  refine r_bipush (pc := 5) (v := (12 : Int32)) dX8_bits_5 rfl ?_
  refine r_icmp_ge (pc := 7) (tgt := 24) dX8_bits_7 rfl (fun hc => ?_) (fun hc => ?_)
  · replace hr := ite_t hc hr
    refine r_iload_n (pc := 24) (j := 1) dX8_bits_24 rfl rfl ?_
    exact l_opi hr (r_iret (pc := 25) (v := v1_) rfl rfl ⟨Nat.le_refl _, Nat.le_refl _⟩ dX8_bits_25)
  replace hr := ite_f hc hr
  refine r_iload_n (pc := 10) (j := 1) dX8_bits_10 rfl rfl ?_
  refine r_iload_n (pc := 11) (j := 0) dX8_bits_11 rfl rfl ?_
  refine r_iload_n (pc := 12) (j := 2) dX8_bits_12 rfl rfl ?_
  refine r_ishr (pc := 13) dX8_bits_13 ?_
  refine r_iconst (pc := 14) (v := (1 : Int32)) dX8_bits_14 rfl ?_
  refine r_iand (pc := 15) dX8_bits_15 ?_
  refine r_iadd (pc := 16) dX8_bits_16 ?_
  refine r_topi fun v1 ev1 => ?_
  replace hr := vthen_inv hr v1 ev1
  refine r_istore_n (pc := 17) (ls1 := [(1, .int v1), (0, .int u0_), (2, .int v2_)]) dX8_bits_17 rfl (nle rfl) rfl ?_
  refine r_iinc (pc := 18) (j := 2) (v := (v2_ + (1 : Int32))) (ls1 := [(2, .int (v2_ + (1 : Int32))), (1, .int v1), (0, .int u0_)]) dX8_bits_18 rfl rfl (nle rfl) rfl ?_
  refine r_goto (pc := 21) (tgt := 4) dX8_bits_21 rfl ?_
  exact r_pick (ls1 := [(0, .int u0_), (1, .int v1), (2, .int (v2_ + (1 : Int32)))]) [2, 1, 0] rfl (ih v1 (v2_ + (1 : Int32)) hr)

set_option maxRecDepth 20000 in
theorem sX8_bits {g : GG} {σ0 : SS} {a0 : Int32} {r : Int32} (hr : fX8_bits σ0 a0 = some r)  : Ct g mX8_bits [.int a0] NF σ0 (some (.int r)) NF σ0 := by
  refine Ct.of (by decide +kernel) (nle rfl) fun hw0 => ?_
  have hw := hw0 rfl
  unfold fX8_bits at hr
  change RR g mX8_bits (FinR g mX8_bits (some (.int r)) NF σ0) zF 0 [(0, .int a0)] [] σ0
  refine r_iconst (pc := 0) (v := (0 : Int32)) dX8_bits_0 rfl ?_
  refine r_istore_n (pc := 1) (ls1 := [(1, .int (0 : Int32)), (0, .int a0)]) dX8_bits_1 rfl (nle rfl) rfl ?_
  refine r_iconst (pc := 2) (v := (0 : Int32)) dX8_bits_2 rfl ?_
  refine r_istore_n (pc := 3) (ls1 := [(2, .int (0 : Int32)), (1, .int (0 : Int32)), (0, .int a0)]) dX8_bits_3 rfl (nle rfl) rfl ?_
  refine r_pick (ls1 := [(0, .int a0), (1, .int (0 : Int32)), (2, .int (0 : Int32))]) [2, 1, 0] rfl ?_
  refine sX8_bits_L4  hw rfl  fuel (0 : Int32) (0 : Int32) hr

theorem kX8_bits {g : GG} {σ0 : SS} {a0 : Int32} {v : Int32} {M : MM} {F : State → Array Value → List Frame → State → Prop} {pc index : Nat} {ls : List (Nat × Value)} {rest : List Value} (hf : fX8_bits σ0 a0 = some v)  (hl : Cond.methodLink M.1.cls index yX8_bits ∈ lw_gt) (hR : mX8_bits.2.2.2.2.frames + 1 ≤ M.2.2.2.2.frames ∧ 8 + (mX8_bits.2.2.1 + 11) + mX8_bits.2.2.2.2.locals ≤ M.2.2.2.2.locals) (hrest : (rest.map fun v => v.category).sum ≤ 8) (hd : decode M.2.1 pc = .ok (.invokestatic index, 3)) (k : RR g M F zF (pc + 3) ls (.int v :: rest) σ0) : RR g M F zF pc ls (.int a0 :: rest) σ0 :=
  r_callS (z := zF) (N := mX8_bits) (nn := 1) (o1 := some (.int v)) (sX8_bits hf ) tw_7_141 tw_1_10 hl tw_7_140 ⟨by decide, by decide, rfl⟩ hR rfl hrest hd ⟨Nat.zero_le _, Nat.zero_le _⟩ rfl (fun h => k)

theorem dX8_sum_0 : decode cX8_sum 0 = .ok (.iconst 0, 1) := by decide +kernel
theorem dX8_sum_1 : decode cX8_sum 1 = .ok (.istore_n 2, 1) := by decide +kernel
theorem dX8_sum_2 : decode cX8_sum 2 = .ok (.iconst 0, 1) := by decide +kernel
theorem dX8_sum_3 : decode cX8_sum 3 = .ok (.istore_n 3, 1) := by decide +kernel
theorem dX8_sum_4 : decode cX8_sum 4 = .ok (.iload_n 3, 1) := by decide +kernel
theorem dX8_sum_5 : decode cX8_sum 5 = .ok (.aload_n 0, 1) := by decide +kernel
theorem dX8_sum_6 : decode cX8_sum 6 = .ok (.invokevirtual 266, 3) := by decide +kernel
theorem dX8_sum_9 : decode cX8_sum 9 = .ok (.if_icmp .ge 90, 3) := by decide +kernel
theorem dX8_sum_12 : decode cX8_sum 12 = .ok (.aload_n 0, 1) := by decide +kernel
theorem dX8_sum_13 : decode cX8_sum 13 = .ok (.iload_n 3, 1) := by decide +kernel
theorem dX8_sum_14 : decode cX8_sum 14 = .ok (.aload_n 0, 1) := by decide +kernel
theorem dX8_sum_15 : decode cX8_sum 15 = .ok (.getfield 53, 3) := by decide +kernel
theorem dX8_sum_18 : decode cX8_sum 18 = .ok (.iconst 3, 1) := by decide +kernel
theorem dX8_sum_19 : decode cX8_sum 19 = .ok (.iaload, 1) := by decide +kernel
theorem dX8_sum_20 : decode cX8_sum 20 = .ok (.invokevirtual 401, 3) := by decide +kernel
theorem dX8_sum_23 : decode cX8_sum 23 = .ok (.iload_n 2, 1) := by decide +kernel
theorem dX8_sum_24 : decode cX8_sum 24 = .ok (.iload_n 1, 1) := by decide +kernel
theorem dX8_sum_25 : decode cX8_sum 25 = .ok (.ifCond .ne 11, 3) := by decide +kernel
theorem dX8_sum_28 : decode cX8_sum 28 = .ok (.aload_n 0, 1) := by decide +kernel
theorem dX8_sum_29 : decode cX8_sum 29 = .ok (.iload_n 3, 1) := by decide +kernel
theorem dX8_sum_30 : decode cX8_sum 30 = .ok (.invokevirtual 404, 3) := by decide +kernel
theorem dX8_sum_33 : decode cX8_sum 33 = .ok (.goto 58, 3) := by decide +kernel
theorem dX8_sum_36 : decode cX8_sum 36 = .ok (.iload_n 1, 1) := by decide +kernel
theorem dX8_sum_37 : decode cX8_sum 37 = .ok (.iconst 3, 1) := by decide +kernel
theorem dX8_sum_38 : decode cX8_sum 38 = .ok (.if_icmp .ge 19, 3) := by decide +kernel
theorem dX8_sum_41 : decode cX8_sum 41 = .ok (.aload_n 0, 1) := by decide +kernel
theorem dX8_sum_42 : decode cX8_sum 42 = .ok (.getfield 391, 3) := by decide +kernel
theorem dX8_sum_45 : decode cX8_sum 45 = .ok (.iload_n 1, 1) := by decide +kernel
theorem dX8_sum_46 : decode cX8_sum 46 = .ok (.if_icmp .ne 7, 3) := by decide +kernel
theorem dX8_sum_49 : decode cX8_sum 49 = .ok (.iconst 1, 1) := by decide +kernel
theorem dX8_sum_50 : decode cX8_sum 50 = .ok (.goto 41, 3) := by decide +kernel
theorem dX8_sum_53 : decode cX8_sum 53 = .ok (.iconst 0, 1) := by decide +kernel
theorem dX8_sum_54 : decode cX8_sum 54 = .ok (.goto 37, 3) := by decide +kernel
theorem dX8_sum_57 : decode cX8_sum 57 = .ok (.iload_n 1, 1) := by decide +kernel
theorem dX8_sum_58 : decode cX8_sum 58 = .ok (.iconst 3, 1) := by decide +kernel
theorem dX8_sum_59 : decode cX8_sum 59 = .ok (.if_icmp .ne 25, 3) := by decide +kernel
theorem dX8_sum_62 : decode cX8_sum 62 = .ok (.aload_n 0, 1) := by decide +kernel
theorem dX8_sum_63 : decode cX8_sum 63 = .ok (.getfield 385, 3) := by decide +kernel
theorem dX8_sum_66 : decode cX8_sum 66 = .ok (.ifCond .ne 14, 3) := by decide +kernel
theorem dX8_sum_69 : decode cX8_sum 69 = .ok (.aload_n 0, 1) := by decide +kernel
theorem dX8_sum_70 : decode cX8_sum 70 = .ok (.getfield 391, 3) := by decide +kernel
theorem dX8_sum_73 : decode cX8_sum 73 = .ok (.ifCond .ne 7, 3) := by decide +kernel
theorem dX8_sum_76 : decode cX8_sum 76 = .ok (.iconst 1, 1) := by decide +kernel
theorem dX8_sum_77 : decode cX8_sum 77 = .ok (.goto 14, 3) := by decide +kernel
theorem dX8_sum_80 : decode cX8_sum 80 = .ok (.iconst 0, 1) := by decide +kernel
theorem dX8_sum_81 : decode cX8_sum 81 = .ok (.goto 10, 3) := by decide +kernel
theorem dX8_sum_84 : decode cX8_sum 84 = .ok (.aload_n 0, 1) := by decide +kernel
theorem dX8_sum_85 : decode cX8_sum 85 = .ok (.getfield 388, 3) := by decide +kernel
theorem dX8_sum_88 : decode cX8_sum 88 = .ok (.invokestatic 407, 3) := by decide +kernel
theorem dX8_sum_91 : decode cX8_sum 91 = .ok (.iadd, 1) := by decide +kernel
theorem dX8_sum_92 : decode cX8_sum 92 = .ok (.istore_n 2, 1) := by decide +kernel
theorem dX8_sum_93 : decode cX8_sum 93 = .ok (.iinc 3 1, 3) := by decide +kernel
theorem dX8_sum_96 : decode cX8_sum 96 = .ok (.goto (-92), 3) := by decide +kernel
theorem dX8_sum_99 : decode cX8_sum 99 = .ok (.iload_n 2, 1) := by decide +kernel
theorem dX8_sum_100 : decode cX8_sum 100 = .ok (.ireturn, 1) := by decide +kernel
def mX8_sum : MM := (yX8_sum, cX8_sum, 4, Option.some Jvm.ClassFile.FieldType.int, { frames := 3, cells := 0, slots := 0, locals := 71 })
def X8_sum_L4 (u1_ : Int32)  : Nat → Int32 → Int32 → SS → Option (Int32 × SS) :=
  lp (fun _ _ _ => none) fun rec v2_ v3_ σ_ =>
    bnd1 (fX8_questions σ_) fun v1 =>
    if v1 ≤ v3_ then (
      some (v2_, σ_)
      ) else (
      bnd1 (fX8_judges σ_ v3_ (gI σ_ 88 3)) fun σ4 =>
      if u1_ = 0 then (
        bnd1 (fX8_pointsOf σ4 v3_) fun v13 =>
        vthen (v2_ + v13) fun v16 =>
        rec v16 (v3_ + (1 : Int32)) σ4
        ) else (
        if (3 : Int32) ≤ u1_ then (
          if u1_ = (3 : Int32) then (
            vthen (fun (_u : Unit) =>
              vthen (v2_ + (0 : Int32)) fun v9 =>
              rec v9 (v3_ + (1 : Int32)) σ4
              ) fun j80 =>
            if (gI σ4 73 55) = 0 then (
              if (gI σ4 73 56) = 0 then (
                vthen (v2_ + (1 : Int32)) fun v10 =>
                rec v10 (v3_ + (1 : Int32)) σ4
                ) else (
                j80 ()
                )
              ) else (
              j80 ()
              )
            ) else (
            bnd1 (fX8_bits σ4 (gI σ4 73 57)) fun v5 =>
            vthen (v2_ + v5) fun v8 =>
            rec v8 (v3_ + (1 : Int32)) σ4
            )
          ) else (
          if (gI σ4 73 56) = u1_ then (
            vthen (v2_ + (1 : Int32)) fun v12 =>
            rec v12 (v3_ + (1 : Int32)) σ4
            ) else (
            vthen (v2_ + (0 : Int32)) fun v11 =>
            rec v11 (v3_ + (1 : Int32)) σ4
            )
          )
        )
      )

def fX8_sum (σ : SS) (a1 : Int32) : Option (Int32 × SS) :=
  X8_sum_L4 a1
  fuel (0 : Int32) (0 : Int32) σ

set_option maxRecDepth 20000 in
theorem sX8_sum_L4 {g : GG} {r : Int32 × SS} {u1_ : Int32}  
    (n : Nat) : ∀ (v2_ : Int32) (v3_ : Int32) (σ_ : SS), X8_sum_L4 u1_ n v2_ v3_ σ_ = some r → WT σ_ → RR g mX8_sum (FinR g mX8_sum (some (.int r.1)) NF r.2) zF 4 [(0, .ref (ad g 73)), (1, .int u1_), (2, .int v2_), (3, .int v3_)] [] σ_ := by
  unfold X8_sum_L4
  refine lp_ind (P := fun (rec : Int32 → Int32 → SS → Option (Int32 × SS)) => ∀ (v2_ : Int32) (v3_ : Int32) (σ_ : SS), rec v2_ v3_ σ_ = some r → WT σ_ → RR g mX8_sum (FinR g mX8_sum (some (.int r.1)) NF r.2) zF 4 [(0, .ref (ad g 73)), (1, .int u1_), (2, .int v2_), (3, .int v3_)] [] σ_) ?_ ?_ n
  · intro v2_ v3_ σ_ hr; cases hr
  intro rec ih v2_ v3_ σ_ hr hw_
  refine r_iload_n (pc := 4) (j := 3) dX8_sum_4 rfl rfl ?_
  refine r_aload_n (pc := 5) (j := 0) dX8_sum_5 rfl rfl ?_
  obtain ⟨v1, hv1, hr⟩ := bnd1_inv hr
  refine kX8_questions (pc := 6) hv1 tw_6_145 ⟨nle rfl, nle rfl⟩ (nle rfl) dX8_sum_6 ?_
  refine r_icmp_ge (pc := 9) (tgt := 99) dX8_sum_9 rfl (fun hc => ?_) (fun hc => ?_)
  · replace hr := ite_t hc hr
    refine r_iload_n (pc := 99) (j := 2) dX8_sum_99 rfl rfl ?_
    exact l_osi hr (r_iret (pc := 100) (v := v2_) rfl rfl ⟨Nat.le_refl _, Nat.le_refl _⟩ dX8_sum_100)
  replace hr := ite_f hc hr
  refine r_aload_n (pc := 12) (j := 0) dX8_sum_12 rfl rfl ?_
  refine r_iload_n (pc := 13) (j := 3) dX8_sum_13 rfl rfl ?_
  refine r_aload_n (pc := 14) (j := 0) dX8_sum_14 rfl rfl ?_
  refine gf8_26 (pc := 15) tw_5_120 hw_ dX8_sum_15 ?_
  refine r_iconst (pc := 18) (v := (3 : Int32)) dX8_sum_18 rfl ?_
  refine x_iald (pc := 19) (k := 3) rfl (by decide) rfl dX8_sum_19 ?_
  obtain ⟨σ4, eσ4, hr⟩ := bnd1_inv hr
  refine kX8_judges (pc := 20) eσ4 tw_7_107 ⟨nle rfl, nle rfl⟩ (nle rfl) dX8_sum_20 fun hσ4 => ?_
  refine r_iload_n (pc := 23) (j := 2) dX8_sum_23 rfl rfl ?_
  refine r_iload_n (pc := 24) (j := 1) dX8_sum_24 rfl rfl ?_
  refine r_if_ne (pc := 25) (tgt := 36) dX8_sum_25 rfl (fun hc => ?_) (fun hc => ?_)
  · replace hr := ite_f hc hr
    refine r_iload_n (pc := 36) (j := 1) dX8_sum_36 rfl rfl ?_
    refine r_iconst (pc := 37) (v := (3 : Int32)) dX8_sum_37 rfl ?_
    refine r_icmp_ge (pc := 38) (tgt := 57) dX8_sum_38 rfl (fun hc => ?_) (fun hc => ?_)
    · replace hr := ite_t hc hr
      refine r_iload_n (pc := 57) (j := 1) dX8_sum_57 rfl rfl ?_
      refine r_iconst (pc := 58) (v := (3 : Int32)) dX8_sum_58 rfl ?_
      refine r_icmp_ne (pc := 59) (tgt := 84) dX8_sum_59 rfl (fun hc => ?_) (fun hc => ?_)
      · replace hr := ite_f hc hr
        refine r_aload_n (pc := 84) (j := 0) dX8_sum_84 rfl rfl ?_
        refine gf8_57 (pc := 85) tw_5_151 rfl dX8_sum_85 ?_
        obtain ⟨v5, hv5, hr⟩ := bnd1_inv hr
        refine kX8_bits (pc := 88) hv5 tw_7_139 ⟨nle rfl, nle rfl⟩ (nle rfl) dX8_sum_88 ?_
        refine r_iadd (pc := 91) dX8_sum_91 ?_
        refine r_topi fun v8 ev8 => ?_
        replace hr := vthen_inv hr v8 ev8
        refine r_istore_n (pc := 92) (ls1 := [(2, .int v8), (0, .ref (ad g 73)), (1, .int u1_), (3, .int v3_)]) dX8_sum_92 rfl (nle rfl) rfl ?_
        refine r_iinc (pc := 93) (j := 3) (v := (v3_ + (1 : Int32))) (ls1 := [(3, .int (v3_ + (1 : Int32))), (2, .int v8), (0, .ref (ad g 73)), (1, .int u1_)]) dX8_sum_93 rfl rfl (nle rfl) rfl ?_
        refine r_goto (pc := 96) (tgt := 4) dX8_sum_96 rfl ?_
        exact r_pick (ls1 := [(0, .ref (ad g 73)), (1, .int u1_), (2, .int v8), (3, .int (v3_ + (1 : Int32)))]) [2, 3, 1, 0] rfl (ih v8 (v3_ + (1 : Int32)) σ4 hr hσ4)
      replace hr := ite_t hc hr
      refine r_aload_n (pc := 62) (j := 0) dX8_sum_62 rfl rfl ?_
      refine gf8_55 (pc := 63) tw_5_149 rfl dX8_sum_63 ?_
      obtain ⟨j80, ej80, hr⟩ := vth_ex hr
      have hj80 : j80 () = some r → RR g mX8_sum (FinR g mX8_sum (some (.int r.1)) NF r.2) zF 80 [(0, .ref (ad g 73)), (1, .int u1_), (3, .int v3_)] [.int v2_] σ4 := by
        intro  hr
        replace hr := (congrFun ej80 ()).symm.trans hr
        refine r_iconst (pc := 80) (v := (0 : Int32)) dX8_sum_80 rfl ?_
        refine r_goto (pc := 81) (tgt := 91) dX8_sum_81 rfl ?_
        refine r_iadd (pc := 91) dX8_sum_91 ?_
        refine r_topi fun v9 ev9 => ?_
        replace hr := vthen_inv hr v9 ev9
        refine r_istore_n (pc := 92) (ls1 := [(2, .int v9), (0, .ref (ad g 73)), (1, .int u1_), (3, .int v3_)]) dX8_sum_92 rfl (nle rfl) rfl ?_
        refine r_iinc (pc := 93) (j := 3) (v := (v3_ + (1 : Int32))) (ls1 := [(3, .int (v3_ + (1 : Int32))), (2, .int v9), (0, .ref (ad g 73)), (1, .int u1_)]) dX8_sum_93 rfl rfl (nle rfl) rfl ?_
        refine r_goto (pc := 96) (tgt := 4) dX8_sum_96 rfl ?_
        exact r_pick (ls1 := [(0, .ref (ad g 73)), (1, .int u1_), (2, .int v9), (3, .int (v3_ + (1 : Int32)))]) [2, 3, 1, 0] rfl (ih v9 (v3_ + (1 : Int32)) σ4 hr hσ4)
      refine r_if_ne (pc := 66) (tgt := 80) dX8_sum_66 rfl (fun hc => ?_) (fun hc => ?_)
      · replace hr := ite_f hc hr
        exact r_pick (ls1 := [(0, .ref (ad g 73)), (1, .int u1_), (3, .int v3_)]) [0, 1, 3] rfl (hj80  hr)
      replace hr := ite_t hc hr
      refine r_aload_n (pc := 69) (j := 0) dX8_sum_69 rfl rfl ?_
      refine gf8_56 (pc := 70) tw_5_150 rfl dX8_sum_70 ?_
      refine r_if_ne (pc := 73) (tgt := 80) dX8_sum_73 rfl (fun hc => ?_) (fun hc => ?_)
      · replace hr := ite_f hc hr
        exact r_pick (ls1 := [(0, .ref (ad g 73)), (1, .int u1_), (3, .int v3_)]) [0, 1, 3] rfl (hj80  hr)
      replace hr := ite_t hc hr
      refine r_iconst (pc := 76) (v := (1 : Int32)) dX8_sum_76 rfl ?_
      refine r_goto (pc := 77) (tgt := 91) dX8_sum_77 rfl ?_
      refine r_iadd (pc := 91) dX8_sum_91 ?_
      refine r_topi fun v10 ev10 => ?_
      replace hr := vthen_inv hr v10 ev10
      refine r_istore_n (pc := 92) (ls1 := [(2, .int v10), (0, .ref (ad g 73)), (1, .int u1_), (3, .int v3_)]) dX8_sum_92 rfl (nle rfl) rfl ?_
      refine r_iinc (pc := 93) (j := 3) (v := (v3_ + (1 : Int32))) (ls1 := [(3, .int (v3_ + (1 : Int32))), (2, .int v10), (0, .ref (ad g 73)), (1, .int u1_)]) dX8_sum_93 rfl rfl (nle rfl) rfl ?_
      refine r_goto (pc := 96) (tgt := 4) dX8_sum_96 rfl ?_
      exact r_pick (ls1 := [(0, .ref (ad g 73)), (1, .int u1_), (2, .int v10), (3, .int (v3_ + (1 : Int32)))]) [2, 3, 1, 0] rfl (ih v10 (v3_ + (1 : Int32)) σ4 hr hσ4)
    replace hr := ite_f hc hr
    refine r_aload_n (pc := 41) (j := 0) dX8_sum_41 rfl rfl ?_
    refine gf8_56 (pc := 42) tw_5_150 rfl dX8_sum_42 ?_
    refine r_iload_n (pc := 45) (j := 1) dX8_sum_45 rfl rfl ?_
    refine r_icmp_ne (pc := 46) (tgt := 53) dX8_sum_46 rfl (fun hc => ?_) (fun hc => ?_)
    · replace hr := ite_f hc hr
      refine r_iconst (pc := 53) (v := (0 : Int32)) dX8_sum_53 rfl ?_
      refine r_goto (pc := 54) (tgt := 91) dX8_sum_54 rfl ?_
      refine r_iadd (pc := 91) dX8_sum_91 ?_
      refine r_topi fun v11 ev11 => ?_
      replace hr := vthen_inv hr v11 ev11
      refine r_istore_n (pc := 92) (ls1 := [(2, .int v11), (0, .ref (ad g 73)), (1, .int u1_), (3, .int v3_)]) dX8_sum_92 rfl (nle rfl) rfl ?_
      refine r_iinc (pc := 93) (j := 3) (v := (v3_ + (1 : Int32))) (ls1 := [(3, .int (v3_ + (1 : Int32))), (2, .int v11), (0, .ref (ad g 73)), (1, .int u1_)]) dX8_sum_93 rfl rfl (nle rfl) rfl ?_
      refine r_goto (pc := 96) (tgt := 4) dX8_sum_96 rfl ?_
      exact r_pick (ls1 := [(0, .ref (ad g 73)), (1, .int u1_), (2, .int v11), (3, .int (v3_ + (1 : Int32)))]) [2, 3, 1, 0] rfl (ih v11 (v3_ + (1 : Int32)) σ4 hr hσ4)
    replace hr := ite_t hc hr
    refine r_iconst (pc := 49) (v := (1 : Int32)) dX8_sum_49 rfl ?_
    refine r_goto (pc := 50) (tgt := 91) dX8_sum_50 rfl ?_
    refine r_iadd (pc := 91) dX8_sum_91 ?_
    refine r_topi fun v12 ev12 => ?_
    replace hr := vthen_inv hr v12 ev12
    refine r_istore_n (pc := 92) (ls1 := [(2, .int v12), (0, .ref (ad g 73)), (1, .int u1_), (3, .int v3_)]) dX8_sum_92 rfl (nle rfl) rfl ?_
    refine r_iinc (pc := 93) (j := 3) (v := (v3_ + (1 : Int32))) (ls1 := [(3, .int (v3_ + (1 : Int32))), (2, .int v12), (0, .ref (ad g 73)), (1, .int u1_)]) dX8_sum_93 rfl rfl (nle rfl) rfl ?_
    refine r_goto (pc := 96) (tgt := 4) dX8_sum_96 rfl ?_
    exact r_pick (ls1 := [(0, .ref (ad g 73)), (1, .int u1_), (2, .int v12), (3, .int (v3_ + (1 : Int32)))]) [2, 3, 1, 0] rfl (ih v12 (v3_ + (1 : Int32)) σ4 hr hσ4)
  replace hr := ite_t hc hr
  refine r_aload_n (pc := 28) (j := 0) dX8_sum_28 rfl rfl ?_
  refine r_iload_n (pc := 29) (j := 3) dX8_sum_29 rfl rfl ?_
  obtain ⟨v13, hv13, hr⟩ := bnd1_inv hr
  refine kX8_pointsOf (pc := 30) hv13 tw_7_119 ⟨nle rfl, nle rfl⟩ (nle rfl) dX8_sum_30 ?_
  refine r_goto (pc := 33) (tgt := 91) dX8_sum_33 rfl ?_
  refine r_iadd (pc := 91) dX8_sum_91 ?_
  refine r_topi fun v16 ev16 => ?_
  replace hr := vthen_inv hr v16 ev16
  refine r_istore_n (pc := 92) (ls1 := [(2, .int v16), (0, .ref (ad g 73)), (1, .int u1_), (3, .int v3_)]) dX8_sum_92 rfl (nle rfl) rfl ?_
  refine r_iinc (pc := 93) (j := 3) (v := (v3_ + (1 : Int32))) (ls1 := [(3, .int (v3_ + (1 : Int32))), (2, .int v16), (0, .ref (ad g 73)), (1, .int u1_)]) dX8_sum_93 rfl rfl (nle rfl) rfl ?_
  refine r_goto (pc := 96) (tgt := 4) dX8_sum_96 rfl ?_
  exact r_pick (ls1 := [(0, .ref (ad g 73)), (1, .int u1_), (2, .int v16), (3, .int (v3_ + (1 : Int32)))]) [2, 3, 1, 0] rfl (ih v16 (v3_ + (1 : Int32)) σ4 hr hσ4)

set_option maxRecDepth 20000 in
theorem sX8_sum {g : GG} {σ : SS} {a1 : Int32} {r : Int32 × SS} (hr : fX8_sum σ a1 = some r)  : Ct g mX8_sum [.ref (ad g 73), .int a1] NF σ (some (.int r.1)) NF r.2 := by
  refine Ct.of (by decide +kernel) (nle rfl) fun hw0 => ?_
  have hw := hw0 rfl
  unfold fX8_sum at hr
  change RR g mX8_sum (FinR g mX8_sum (some (.int r.1)) NF r.2) zF 0 [(0, .ref (ad g 73)), (1, .int a1)] [] σ
  refine r_iconst (pc := 0) (v := (0 : Int32)) dX8_sum_0 rfl ?_
  refine r_istore_n (pc := 1) (ls1 := [(2, .int (0 : Int32)), (0, .ref (ad g 73)), (1, .int a1)]) dX8_sum_1 rfl (nle rfl) rfl ?_
  refine r_iconst (pc := 2) (v := (0 : Int32)) dX8_sum_2 rfl ?_
  refine r_istore_n (pc := 3) (ls1 := [(3, .int (0 : Int32)), (2, .int (0 : Int32)), (0, .ref (ad g 73)), (1, .int a1)]) dX8_sum_3 rfl (nle rfl) rfl ?_
  refine r_pick (ls1 := [(0, .ref (ad g 73)), (1, .int a1), (2, .int (0 : Int32)), (3, .int (0 : Int32))]) [2, 3, 1, 0] rfl ?_
  refine sX8_sum_L4     fuel (0 : Int32) (0 : Int32) σ hr hw

theorem kX8_sum {g : GG} {σ : SS} {a1 : Int32} {v : Int32} {σ2 : SS} {M : MM} {F : State → Array Value → List Frame → State → Prop} {pc index : Nat} {ls : List (Nat × Value)} {rest : List Value} (hf : fX8_sum σ a1 = some (v, σ2))  (hl : Cond.methodLink M.1.cls index yX8_sum ∈ lw_gt) (hR : mX8_sum.2.2.2.2.frames + 1 ≤ M.2.2.2.2.frames ∧ 8 + (mX8_sum.2.2.1 + 11) + mX8_sum.2.2.2.2.locals ≤ M.2.2.2.2.locals) (hrest : (rest.map fun v => v.category).sum ≤ 8) (hd : decode M.2.1 pc = .ok (.invokevirtual index, 3)) (k : WT σ2 → RR g M F zF (pc + 3) ls (.int v :: rest) σ2) : RR g M F zF pc ls (.int a1 :: .ref (ad g 73) :: rest) σ :=
  r_callV (z := zF) (N := mX8_sum) (nn := 1) (o1 := some (.int v)) (sX8_sum hf ) (rfl : shp 73 = (8, 0)) (by decide) (shp_le (rfl : shp 73 = (8, 0)) (nle rfl)) (ci := 8) rfl rfl tw_7_138 tw_1_10 hl tw_7_137 tp_81 ⟨by decide, by decide, rfl⟩ hR rfl hrest hd ⟨Nat.zero_le _, Nat.zero_le _⟩ rfl (fun h => k (h rfl))

theorem dX8_sheet_0 : decode cX8_sheet 0 = .ok (.aload_n 0, 1) := by decide +kernel
theorem dX8_sheet_1 : decode cX8_sheet 1 = .ok (.getfield 202, 3) := by decide +kernel
theorem dX8_sheet_4 : decode cX8_sheet 4 = .ok (.ifCond .eq 12, 3) := by decide +kernel
theorem dX8_sheet_7 : decode cX8_sheet 7 = .ok (.iload_n 1, 1) := by decide +kernel
theorem dX8_sheet_8 : decode cX8_sheet 8 = .ok (.iconst 0, 1) := by decide +kernel
theorem dX8_sheet_9 : decode cX8_sheet 9 = .ok (.iconst 4, 1) := by decide +kernel
theorem dX8_sheet_10 : decode cX8_sheet 10 = .ok (.invokestatic 165, 3) := by decide +kernel
theorem dX8_sheet_13 : decode cX8_sheet 13 = .ok (.ifCond .ne 7, 3) := by decide +kernel
theorem dX8_sheet_16 : decode cX8_sheet 16 = .ok (.ldc_w 400, 3) := by decide +kernel
theorem dX8_sheet_19 : decode cX8_sheet 19 = .ok (.ireturn, 1) := by decide +kernel
theorem dX8_sheet_20 : decode cX8_sheet 20 = .ok (.aload_n 0, 1) := by decide +kernel
theorem dX8_sheet_21 : decode cX8_sheet 21 = .ok (.invokevirtual 373, 3) := by decide +kernel
theorem dX8_sheet_24 : decode cX8_sheet 24 = .ok (.ifCond .eq 11, 3) := by decide +kernel
theorem dX8_sheet_27 : decode cX8_sheet 27 = .ok (.aload_n 0, 1) := by decide +kernel
theorem dX8_sheet_28 : decode cX8_sheet 28 = .ok (.iload_n 1, 1) := by decide +kernel
theorem dX8_sheet_29 : decode cX8_sheet 29 = .ok (.invokevirtual 410, 3) := by decide +kernel
theorem dX8_sheet_32 : decode cX8_sheet 32 = .ok (.goto 6, 3) := by decide +kernel
theorem dX8_sheet_35 : decode cX8_sheet 35 = .ok (.ldc_w 413, 3) := by decide +kernel
theorem dX8_sheet_38 : decode cX8_sheet 38 = .ok (.ireturn, 1) := by decide +kernel
def mX8_sheet : MM := (yX8_sheet, cX8_sheet, 2, Option.some Jvm.ClassFile.FieldType.int, { frames := 7, cells := 0, slots := 0, locals := 158 })
def fX8_sheet (σ : SS) (a1 : Int32) : Option (Int32 × SS) :=
  if (gI σ 73 12) = 0 then (
    some ((-2147483648 : Int32), σ)
    ) else (
    if (fX8_in σ a1 (0 : Int32) (4 : Int32)) = true then (
      bnd (fX8_finds σ) fun b2 σ4 =>
      if b2 = true then (
        bnd (fX8_sum σ4 a1) fun v5 σ8 =>
        some (v5, σ8)
        ) else (
        some ((-1000000 : Int32), σ4)
        )
      ) else (
      some ((-2147483648 : Int32), σ)
      )
    )

set_option maxRecDepth 20000 in
theorem sX8_sheet {g : GG} {σ : SS} {a1 : Int32} {r : Int32 × SS} (hr : fX8_sheet σ a1 = some r)  : Ct g mX8_sheet [.ref (ad g 73), .int a1] NF σ (some (.int r.1)) NF r.2 := by
  refine Ct.of (by decide +kernel) (nle rfl) fun hw0 => ?_
  have hw := hw0 rfl
  unfold fX8_sheet at hr
  change RR g mX8_sheet (FinR g mX8_sheet (some (.int r.1)) NF r.2) zF 0 [(0, .ref (ad g 73)), (1, .int a1)] [] σ
  refine r_aload_n (pc := 0) (j := 0) dX8_sheet_0 rfl rfl ?_
  refine gf8_12 (pc := 1) tw_5_106 rfl dX8_sheet_1 ?_
  refine r_if_eq (pc := 4) (tgt := 16) dX8_sheet_4 rfl (fun hc => ?_) (fun hc => ?_)
  · replace hr := ite_t hc hr
    refine r_ldcw (pc := 16) (v := (-2147483648 : Int32)) dX8_sheet_16 tw_7_106 ?_
    exact l_osi hr (r_iret (pc := 19) (v := (-2147483648 : Int32)) rfl rfl ⟨Nat.le_refl _, Nat.le_refl _⟩ dX8_sheet_19)
  replace hr := ite_f hc hr
  refine r_iload_n (pc := 7) (j := 1) dX8_sheet_7 rfl rfl ?_
  refine r_iconst (pc := 8) (v := (0 : Int32)) dX8_sheet_8 rfl ?_
  refine r_iconst (pc := 9) (v := (4 : Int32)) dX8_sheet_9 rfl ?_
  refine kX8_in (pc := 10) (hf := rfl) tw_6_65 ⟨nle rfl, nle rfl⟩ (nle rfl) dX8_sheet_10 ?_
  refine r_ifB_ne (pc := 13) (tgt := 20) dX8_sheet_13 rfl (fun hc => ?_) (fun hc => ?_)
  · replace hr := ite_t hc hr
    refine r_aload_n (pc := 20) (j := 0) dX8_sheet_20 rfl rfl ?_
    obtain ⟨b2, σ4, eσ4, hr⟩ := bnd_inv hr
    refine kX8_finds (pc := 21) eσ4 tw_7_94 ⟨nle rfl, nle rfl⟩ (nle rfl) dX8_sheet_21 fun hσ4 => ?_
    refine r_ifB_eq (pc := 24) (tgt := 35) dX8_sheet_24 rfl (fun hc => ?_) (fun hc => ?_)
    · replace hr := ite_f hc hr
      refine r_ldcw (pc := 35) (v := (-1000000 : Int32)) dX8_sheet_35 tw_7_142 ?_
      exact l_osi hr (r_iret (pc := 38) (v := (-1000000 : Int32)) rfl rfl ⟨Nat.le_refl _, Nat.le_refl _⟩ dX8_sheet_38)
    replace hr := ite_t hc hr
    refine r_aload_n (pc := 27) (j := 0) dX8_sheet_27 rfl rfl ?_
    refine r_iload_n (pc := 28) (j := 1) dX8_sheet_28 rfl rfl ?_
    obtain ⟨v5, σ8, eσ8, hr⟩ := bnd_inv hr
    refine kX8_sum (pc := 29) eσ8 tw_7_135 ⟨nle rfl, nle rfl⟩ (nle rfl) dX8_sheet_29 fun hσ8 => ?_
    refine r_goto (pc := 32) (tgt := 38) dX8_sheet_32 rfl ?_
    exact l_osi hr (r_iret (pc := 38) (v := v5) rfl rfl ⟨Nat.le_refl _, Nat.le_refl _⟩ dX8_sheet_38)
  replace hr := ite_f hc hr
  refine r_ldcw (pc := 16) (v := (-2147483648 : Int32)) dX8_sheet_16 tw_7_106 ?_
  exact l_osi hr (r_iret (pc := 19) (v := (-2147483648 : Int32)) rfl rfl ⟨Nat.le_refl _, Nat.le_refl _⟩ dX8_sheet_19)

theorem kX8_sheet {g : GG} {σ : SS} {a1 : Int32} {v : Int32} {σ2 : SS} {M : MM} {F : State → Array Value → List Frame → State → Prop} {pc index : Nat} {ls : List (Nat × Value)} {rest : List Value} (hf : fX8_sheet σ a1 = some (v, σ2))  (hl : Cond.methodLink M.1.cls index yX8_sheet ∈ lw_gt) (hR : mX8_sheet.2.2.2.2.frames + 1 ≤ M.2.2.2.2.frames ∧ 8 + (mX8_sheet.2.2.1 + 11) + mX8_sheet.2.2.2.2.locals ≤ M.2.2.2.2.locals) (hrest : (rest.map fun v => v.category).sum ≤ 8) (hd : decode M.2.1 pc = .ok (.invokevirtual index, 3)) (k : WT σ2 → RR g M F zF (pc + 3) ls (.int v :: rest) σ2) : RR g M F zF pc ls (.int a1 :: .ref (ad g 73) :: rest) σ :=
  r_callV (z := zF) (N := mX8_sheet) (nn := 1) (o1 := some (.int v)) (sX8_sheet hf ) (rfl : shp 73 = (8, 0)) (by decide) (shp_le (rfl : shp 73 = (8, 0)) (nle rfl)) (ci := 8) rfl rfl tw_7_134 tw_1_10 hl tw_7_132 tw_7_133 ⟨by decide, by decide, rfl⟩ hR rfl hrest hd ⟨Nat.zero_le _, Nat.zero_le _⟩ rfl (fun h => k (h rfl))

theorem dX3_rankOf_0 : decode cX3_rankOf 0 = .ok (.iconst 1, 1) := by decide +kernel
theorem dX3_rankOf_1 : decode cX3_rankOf 1 = .ok (.istore_n 3, 1) := by decide +kernel
theorem dX3_rankOf_2 : decode cX3_rankOf 2 = .ok (.iconst 0, 1) := by decide +kernel
theorem dX3_rankOf_3 : decode cX3_rankOf 3 = .ok (.istore 4, 2) := by decide +kernel
theorem dX3_rankOf_5 : decode cX3_rankOf 5 = .ok (.iload 4, 2) := by decide +kernel
theorem dX3_rankOf_7 : decode cX3_rankOf 7 = .ok (.aload_n 1, 1) := by decide +kernel
theorem dX3_rankOf_8 : decode cX3_rankOf 8 = .ok (.getfield 99, 3) := by decide +kernel
theorem dX3_rankOf_11 : decode cX3_rankOf 11 = .ok (.if_icmp .ge 28, 3) := by decide +kernel
theorem dX3_rankOf_14 : decode cX3_rankOf 14 = .ok (.aload_n 0, 1) := by decide +kernel
theorem dX3_rankOf_15 : decode cX3_rankOf 15 = .ok (.getfield 32, 3) := by decide +kernel
theorem dX3_rankOf_18 : decode cX3_rankOf 18 = .ok (.iload 4, 2) := by decide +kernel
theorem dX3_rankOf_20 : decode cX3_rankOf 20 = .ok (.iaload, 1) := by decide +kernel
theorem dX3_rankOf_21 : decode cX3_rankOf 21 = .ok (.aload_n 0, 1) := by decide +kernel
theorem dX3_rankOf_22 : decode cX3_rankOf 22 = .ok (.getfield 32, 3) := by decide +kernel
theorem dX3_rankOf_25 : decode cX3_rankOf 25 = .ok (.iload_n 2, 1) := by decide +kernel
theorem dX3_rankOf_26 : decode cX3_rankOf 26 = .ok (.iaload, 1) := by decide +kernel
theorem dX3_rankOf_27 : decode cX3_rankOf 27 = .ok (.if_icmp .le 6, 3) := by decide +kernel
theorem dX3_rankOf_30 : decode cX3_rankOf 30 = .ok (.iinc 3 1, 3) := by decide +kernel
theorem dX3_rankOf_33 : decode cX3_rankOf 33 = .ok (.iinc 4 1, 3) := by decide +kernel
theorem dX3_rankOf_36 : decode cX3_rankOf 36 = .ok (.goto (-31), 3) := by decide +kernel
theorem dX3_rankOf_39 : decode cX3_rankOf 39 = .ok (.iload_n 3, 1) := by decide +kernel
theorem dX3_rankOf_40 : decode cX3_rankOf 40 = .ok (.ireturn, 1) := by decide +kernel
def mX3_rankOf : MM := (yX3_rankOf, cX3_rankOf, 5, Option.some Jvm.ClassFile.FieldType.int, { frames := 0, cells := 0, slots := 0, locals := 0 })
def X3_rankOf_L5 (σ_ : SS) (o1_ : Nat) (u2_ : Int32)  : Nat → Int32 → Int32 → Option Int32 :=
  lp (fun _ _ => none) fun rec v3_ v4_ =>
    if (gI σ_ o1_ 6) ≤ v4_ then (
      some v3_
      ) else (
      grd (inb v4_ 72) <|
      grd (inb u2_ 72) <|
      if (gI σ_ 51 (Int32.toNatClampNeg v4_)) ≤ (gI σ_ 51 (Int32.toNatClampNeg u2_)) then (
        rec v3_ (v4_ + (1 : Int32))
        ) else (
        rec (v3_ + (1 : Int32)) (v4_ + (1 : Int32))
        )
      )

def fX3_rankOf (σ0 : SS) (a1 : Nat) (a2 : Int32) : Option Int32 :=
  X3_rankOf_L5 σ0 a1 a2
  fuel (1 : Int32) (0 : Int32)

set_option maxRecDepth 20000 in
theorem sX3_rankOf_L5 {g : GG} {r : Int32} {σ_ : SS} {σ0 : SS} {o1_ : Nat} {u2_ : Int32}  (hs1_ : shp o1_ = (1, 0))
    (hw_ : WT σ_)
    (h0_ : σ_ = σ0)
    (n : Nat) : ∀ (v3_ : Int32) (v4_ : Int32), X3_rankOf_L5 σ_ o1_ u2_ n v3_ v4_ = some r → RR g mX3_rankOf (FinR g mX3_rankOf (some (.int r)) NF σ0) zF 5 [(0, .ref (ad g 31)), (1, .ref (ad g o1_)), (2, .int u2_), (3, .int v3_), (4, .int v4_)] [] σ_ := by
  unfold X3_rankOf_L5
  refine lp_ind (P := fun (rec : Int32 → Int32 → Option Int32) => ∀ (v3_ : Int32) (v4_ : Int32), rec v3_ v4_ = some r → RR g mX3_rankOf (FinR g mX3_rankOf (some (.int r)) NF σ0) zF 5 [(0, .ref (ad g 31)), (1, .ref (ad g o1_)), (2, .int u2_), (3, .int v3_), (4, .int v4_)] [] σ_) ?_ ?_ n
  · intro v3_ v4_ hr; cases hr
  intro rec ih v3_ v4_ hr
  subst h0_
  refine r_iload (pc := 5) (j := 4) dX3_rankOf_5 rfl ?_
  refine r_aload_n (pc := 7) (j := 1) dX3_rankOf_7 rfl rfl ?_
  refine gf1_6 (pc := 8) tw_1_83 hs1_ dX3_rankOf_8 ?_
  refine r_icmp_ge (pc := 11) (tgt := 39) dX3_rankOf_11 rfl (fun hc => ?_) (fun hc => ?_)
  · replace hr := ite_t hc hr
    refine r_iload_n (pc := 39) (j := 3) dX3_rankOf_39 rfl rfl ?_
    exact l_opi hr (r_iret (pc := 40) (v := v3_) rfl rfl ⟨Nat.le_refl _, Nat.le_refl _⟩ dX3_rankOf_40)
  replace hr := ite_f hc hr
  refine r_aload_n (pc := 14) (j := 0) dX3_rankOf_14 rfl rfl ?_
  refine gf3_4 (pc := 15) tw_2_30 hw_ dX3_rankOf_15 ?_
  refine r_iload (pc := 18) (j := 4) dX3_rankOf_18 rfl ?_
  obtain ⟨h1, hr⟩ := grd_inv hr
  refine x_iald (pc := 20) (k := (Int32.toNatClampNeg v4_)) rfl h1 rfl dX3_rankOf_20 ?_
  refine r_aload_n (pc := 21) (j := 0) dX3_rankOf_21 rfl rfl ?_
  refine gf3_4 (pc := 22) tw_2_30 hw_ dX3_rankOf_22 ?_
  refine r_iload_n (pc := 25) (j := 2) dX3_rankOf_25 rfl rfl ?_
  obtain ⟨h2, hr⟩ := grd_inv hr
  refine x_iald (pc := 26) (k := (Int32.toNatClampNeg u2_)) rfl h2 rfl dX3_rankOf_26 ?_
  refine r_icmp_le (pc := 27) (tgt := 33) dX3_rankOf_27 rfl (fun hc => ?_) (fun hc => ?_)
  · replace hr := ite_t hc hr
    refine r_iinc (pc := 33) (j := 4) (v := (v4_ + (1 : Int32))) (ls1 := [(4, .int (v4_ + (1 : Int32))), (0, .ref (ad g 31)), (1, .ref (ad g o1_)), (2, .int u2_), (3, .int v3_)]) dX3_rankOf_33 rfl rfl (nle rfl) rfl ?_
    refine r_goto (pc := 36) (tgt := 5) dX3_rankOf_36 rfl ?_
    exact r_pick (ls1 := [(0, .ref (ad g 31)), (1, .ref (ad g o1_)), (2, .int u2_), (3, .int v3_), (4, .int (v4_ + (1 : Int32)))]) [1, 2, 3, 4, 0] rfl (ih v3_ (v4_ + (1 : Int32)) hr)
  replace hr := ite_f hc hr
  refine r_iinc (pc := 30) (j := 3) (v := (v3_ + (1 : Int32))) (ls1 := [(3, .int (v3_ + (1 : Int32))), (0, .ref (ad g 31)), (1, .ref (ad g o1_)), (2, .int u2_), (4, .int v4_)]) dX3_rankOf_30 rfl rfl (nle rfl) rfl ?_
  refine r_iinc (pc := 33) (j := 4) (v := (v4_ + (1 : Int32))) (ls1 := [(4, .int (v4_ + (1 : Int32))), (3, .int (v3_ + (1 : Int32))), (0, .ref (ad g 31)), (1, .ref (ad g o1_)), (2, .int u2_)]) dX3_rankOf_33 rfl rfl (nle rfl) rfl ?_
  refine r_goto (pc := 36) (tgt := 5) dX3_rankOf_36 rfl ?_
  exact r_pick (ls1 := [(0, .ref (ad g 31)), (1, .ref (ad g o1_)), (2, .int u2_), (3, .int (v3_ + (1 : Int32))), (4, .int (v4_ + (1 : Int32)))]) [2, 3, 4, 1, 0] rfl (ih (v3_ + (1 : Int32)) (v4_ + (1 : Int32)) hr)

set_option maxRecDepth 20000 in
theorem sX3_rankOf {g : GG} {σ0 : SS} {a1 : Nat} {a2 : Int32} {r : Int32} (hr : fX3_rankOf σ0 a1 a2 = some r) (hs1 : shp a1 = (1, 0)) : Ct g mX3_rankOf [.ref (ad g 31), .ref (ad g a1), .int a2] NF σ0 (some (.int r)) NF σ0 := by
  refine Ct.of (by decide +kernel) (nle rfl) fun hw0 => ?_
  have hw := hw0 rfl
  unfold fX3_rankOf at hr
  change RR g mX3_rankOf (FinR g mX3_rankOf (some (.int r)) NF σ0) zF 0 [(0, .ref (ad g 31)), (1, .ref (ad g a1)), (2, .int a2)] [] σ0
  refine r_iconst (pc := 0) (v := (1 : Int32)) dX3_rankOf_0 rfl ?_
  refine r_istore_n (pc := 1) (ls1 := [(3, .int (1 : Int32)), (0, .ref (ad g 31)), (1, .ref (ad g a1)), (2, .int a2)]) dX3_rankOf_1 rfl (nle rfl) rfl ?_
  refine r_iconst (pc := 2) (v := (0 : Int32)) dX3_rankOf_2 rfl ?_
  refine r_istore (pc := 3) (ls1 := [(4, .int (0 : Int32)), (3, .int (1 : Int32)), (0, .ref (ad g 31)), (1, .ref (ad g a1)), (2, .int a2)]) dX3_rankOf_3 (nle rfl) rfl ?_
  refine r_pick (ls1 := [(0, .ref (ad g 31)), (1, .ref (ad g a1)), (2, .int a2), (3, .int (1 : Int32)), (4, .int (0 : Int32))]) [2, 3, 4, 1, 0] rfl ?_
  refine sX3_rankOf_L5 hs1 hw rfl  fuel (1 : Int32) (0 : Int32) hr

theorem kX3_rankOf {g : GG} {σ0 : SS} {a1 : Nat} {a2 : Int32} {v : Int32} {M : MM} {F : State → Array Value → List Frame → State → Prop} {pc index : Nat} {ls : List (Nat × Value)} {rest : List Value} (hf : fX3_rankOf σ0 a1 a2 = some v) (hs1 : shp a1 = (1, 0)) (hl : Cond.methodLink M.1.cls index yX3_rankOf ∈ lw_gt) (hR : mX3_rankOf.2.2.2.2.frames + 1 ≤ M.2.2.2.2.frames ∧ 8 + (mX3_rankOf.2.2.1 + 11) + mX3_rankOf.2.2.2.2.locals ≤ M.2.2.2.2.locals) (hrest : (rest.map fun v => v.category).sum ≤ 8) (hd : decode M.2.1 pc = .ok (.invokevirtual index, 3)) (k : RR g M F zF (pc + 3) ls (.int v :: rest) σ0) : RR g M F zF pc ls (.int a2 :: .ref (ad g a1) :: .ref (ad g 31) :: rest) σ0 :=
  r_callV (z := zF) (N := mX3_rankOf) (nn := 2) (o1 := some (.int v)) (sX3_rankOf hf hs1) (rfl : shp 31 = (3, 0)) (by decide) (shp_le (rfl : shp 31 = (3, 0)) (nle rfl)) (ci := 3) rfl rfl tw_4_186 tw_1_5 hl tw_4_184 tw_4_185 ⟨by decide, by decide, rfl⟩ hR rfl hrest hd ⟨Nat.zero_le _, Nat.zero_le _⟩ rfl (fun h => k)

theorem dX7_rank_0 : decode cX7_rank 0 = .ok (.aload_n 0, 1) := by decide +kernel
theorem dX7_rank_1 : decode cX7_rank 1 = .ok (.getfield 32, 3) := by decide +kernel
theorem dX7_rank_4 : decode cX7_rank 4 = .ok (.iload_n 1, 1) := by decide +kernel
theorem dX7_rank_5 : decode cX7_rank 5 = .ok (.iload_n 2, 1) := by decide +kernel
theorem dX7_rank_6 : decode cX7_rank 6 = .ok (.invokevirtual 138, 3) := by decide +kernel
theorem dX7_rank_9 : decode cX7_rank 9 = .ok (.ifCond .ne 5, 3) := by decide +kernel
theorem dX7_rank_12 : decode cX7_rank 12 = .ok (.iconst (-1), 1) := by decide +kernel
theorem dX7_rank_13 : decode cX7_rank 13 = .ok (.ireturn, 1) := by decide +kernel
theorem dX7_rank_14 : decode cX7_rank 14 = .ok (.aload_n 0, 1) := by decide +kernel
theorem dX7_rank_15 : decode cX7_rank 15 = .ok (.getfield 62, 3) := by decide +kernel
theorem dX7_rank_18 : decode cX7_rank 18 = .ok (.aload_n 0, 1) := by decide +kernel
theorem dX7_rank_19 : decode cX7_rank 19 = .ok (.getfield 18, 3) := by decide +kernel
theorem dX7_rank_22 : decode cX7_rank 22 = .ok (.aload_n 0, 1) := by decide +kernel
theorem dX7_rank_23 : decode cX7_rank 23 = .ok (.getfield 32, 3) := by decide +kernel
theorem dX7_rank_26 : decode cX7_rank 26 = .ok (.invokevirtual 292, 3) := by decide +kernel
theorem dX7_rank_29 : decode cX7_rank 29 = .ok (.ifCond .ne 6, 3) := by decide +kernel
theorem dX7_rank_32 : decode cX7_rank 32 = .ok (.bipush (-2), 2) := by decide +kernel
theorem dX7_rank_34 : decode cX7_rank 34 = .ok (.ireturn, 1) := by decide +kernel
theorem dX7_rank_35 : decode cX7_rank 35 = .ok (.aload_n 0, 1) := by decide +kernel
theorem dX7_rank_36 : decode cX7_rank 36 = .ok (.getfield 62, 3) := by decide +kernel
theorem dX7_rank_39 : decode cX7_rank 39 = .ok (.aload_n 0, 1) := by decide +kernel
theorem dX7_rank_40 : decode cX7_rank 40 = .ok (.getfield 32, 3) := by decide +kernel
theorem dX7_rank_43 : decode cX7_rank 43 = .ok (.aload_n 0, 1) := by decide +kernel
theorem dX7_rank_44 : decode cX7_rank 44 = .ok (.getfield 32, 3) := by decide +kernel
theorem dX7_rank_47 : decode cX7_rank 47 = .ok (.getfield 145, 3) := by decide +kernel
theorem dX7_rank_50 : decode cX7_rank 50 = .ok (.iload_n 1, 1) := by decide +kernel
theorem dX7_rank_51 : decode cX7_rank 51 = .ok (.iaload, 1) := by decide +kernel
theorem dX7_rank_52 : decode cX7_rank 52 = .ok (.iload_n 2, 1) := by decide +kernel
theorem dX7_rank_53 : decode cX7_rank 53 = .ok (.iadd, 1) := by decide +kernel
theorem dX7_rank_54 : decode cX7_rank 54 = .ok (.invokevirtual 335, 3) := by decide +kernel
theorem dX7_rank_57 : decode cX7_rank 57 = .ok (.ireturn, 1) := by decide +kernel
def mX7_rank : MM := (yX7_rank, cX7_rank, 3, Option.some Jvm.ClassFile.FieldType.int, { frames := 5, cells := 0, slots := 0, locals := 125 })
def fX7_rank (σ : SS) (a1 : Int32) (a2 : Int32) : Option (Int32 × SS) :=
  bnd1 (fX1_hasBox σ (gR σ 1 5) a1 a2) fun b2 =>
  if b2 = true then (
    bnd (fX3_measure σ (gR σ 1 2) (gR σ 1 5)) fun b5 σ7 =>
    if b5 = true then (
      grd (inb a1 12) <|
      bnd1 (fX3_rankOf σ7 (gR σ7 1 5) ((gI σ7 ((gR σ7 1 5) + 2) (Int32.toNatClampNeg a1)) + a2)) fun v9 =>
      some (v9, σ7)
      ) else (
      some ((-2 : Int32), σ7)
      )
    ) else (
    some ((-1 : Int32), σ)
    )

set_option maxRecDepth 20000 in
theorem sX7_rank {g : GG} {σ : SS} {a1 : Int32} {a2 : Int32} {r : Int32 × SS} (hr : fX7_rank σ a1 a2 = some r)  : Ct g mX7_rank [.ref (ad g 1), .int a1, .int a2] NF σ (some (.int r.1)) NF r.2 := by
  refine Ct.of (by decide +kernel) (nle rfl) fun hw0 => ?_
  have hw := hw0 rfl
  unfold fX7_rank at hr
  change RR g mX7_rank (FinR g mX7_rank (some (.int r.1)) NF r.2) zF 0 [(0, .ref (ad g 1)), (1, .int a1), (2, .int a2)] [] σ
  refine r_aload_n (pc := 0) (j := 0) dX7_rank_0 rfl rfl ?_
  refine gf7_5 (pc := 1) tw_2_114 hw dX7_rank_1 ?_
  refine r_iload_n (pc := 4) (j := 1) dX7_rank_4 rfl rfl ?_
  refine r_iload_n (pc := 5) (j := 2) dX7_rank_5 rfl rfl ?_
  obtain ⟨b2, hb2, hr⟩ := bnd1_inv hr
  refine kX1_hasBox (pc := 6) hb2 (wt_fo hw).1 tw_3_91 ⟨nle rfl, nle rfl⟩ (nle rfl) dX7_rank_6 ?_
  refine r_ifB_ne (pc := 9) (tgt := 14) dX7_rank_9 rfl (fun hc => ?_) (fun hc => ?_)
  · replace hr := ite_t hc hr
    refine r_aload_n (pc := 14) (j := 0) dX7_rank_14 rfl rfl ?_
    refine gf7_12 (pc := 15) tw_2_121 hw dX7_rank_15 ?_
    refine r_aload_n (pc := 18) (j := 0) dX7_rank_18 rfl rfl ?_
    refine gf7_2 (pc := 19) tw_2_111 hw dX7_rank_19 ?_
    refine r_aload_n (pc := 22) (j := 0) dX7_rank_22 rfl rfl ?_
    refine gf7_5 (pc := 23) tw_2_114 hw dX7_rank_23 ?_
    obtain ⟨b5, σ7, eσ7, hr⟩ := bnd_inv hr
    refine kX3_measure (pc := 26) eσ7 (wt_sc hw).1 (wt_fo hw).1 tw_4_116 ⟨nle rfl, nle rfl⟩ (nle rfl) dX7_rank_26 fun hσ7 => ?_
    refine r_ifB_ne (pc := 29) (tgt := 35) dX7_rank_29 rfl (fun hc => ?_) (fun hc => ?_)
    · replace hr := ite_t hc hr
      refine r_aload_n (pc := 35) (j := 0) dX7_rank_35 rfl rfl ?_
      refine gf7_12 (pc := 36) tw_2_121 hσ7 dX7_rank_36 ?_
      refine r_aload_n (pc := 39) (j := 0) dX7_rank_39 rfl rfl ?_
      refine gf7_5 (pc := 40) tw_2_114 hσ7 dX7_rank_40 ?_
      refine r_aload_n (pc := 43) (j := 0) dX7_rank_43 rfl rfl ?_
      refine gf7_5 (pc := 44) tw_2_114 hσ7 dX7_rank_44 ?_
      refine gf1_8 (pc := 47) tw_1_89 hσ7 (wt_fo hσ7).1 dX7_rank_47 ?_
      refine r_iload_n (pc := 50) (j := 1) dX7_rank_50 rfl rfl ?_
      obtain ⟨h8, hr⟩ := grd_inv hr
      refine x_iald (pc := 51) (k := (Int32.toNatClampNeg a1)) (sh1_8 (wt_fo hσ7).1) h8 rfl dX7_rank_51 ?_
      refine r_iload_n (pc := 52) (j := 2) dX7_rank_52 rfl rfl ?_
      refine r_iadd (pc := 53) dX7_rank_53 ?_
      obtain ⟨v9, hv9, hr⟩ := bnd1_inv hr
      refine kX3_rankOf (pc := 54) hv9 (wt_fo hσ7).1 tw_4_183 ⟨nle rfl, nle rfl⟩ (nle rfl) dX7_rank_54 ?_
      exact l_osi hr (r_iret (pc := 57) (v := v9) rfl rfl ⟨Nat.le_refl _, Nat.le_refl _⟩ dX7_rank_57)
    replace hr := ite_f hc hr
    refine r_bipush (pc := 32) (v := (-2 : Int32)) dX7_rank_32 rfl ?_
    exact l_osi hr (r_iret (pc := 34) (v := (-2 : Int32)) rfl rfl ⟨Nat.le_refl _, Nat.le_refl _⟩ dX7_rank_34)
  replace hr := ite_f hc hr
  refine r_iconst (pc := 12) (v := (-1 : Int32)) dX7_rank_12 rfl ?_
  exact l_osi hr (r_iret (pc := 13) (v := (-1 : Int32)) rfl rfl ⟨Nat.le_refl _, Nat.le_refl _⟩ dX7_rank_13)

theorem kX7_rank {g : GG} {σ : SS} {a1 : Int32} {a2 : Int32} {v : Int32} {σ2 : SS} {M : MM} {F : State → Array Value → List Frame → State → Prop} {pc index : Nat} {ls : List (Nat × Value)} {rest : List Value} (hf : fX7_rank σ a1 a2 = some (v, σ2))  (hl : Cond.methodLink M.1.cls index yX7_rank ∈ lw_gt) (hR : mX7_rank.2.2.2.2.frames + 1 ≤ M.2.2.2.2.frames ∧ 8 + (mX7_rank.2.2.1 + 11) + mX7_rank.2.2.2.2.locals ≤ M.2.2.2.2.locals) (hrest : (rest.map fun v => v.category).sum ≤ 8) (hd : decode M.2.1 pc = .ok (.invokevirtual index, 3)) (k : WT σ2 → RR g M F zF (pc + 3) ls (.int v :: rest) σ2) : RR g M F zF pc ls (.int a2 :: .int a1 :: .ref (ad g 1) :: rest) σ :=
  r_callV (z := zF) (N := mX7_rank) (nn := 2) (o1 := some (.int v)) (sX7_rank hf ) (rfl : shp 1 = (7, 0)) (by decide) (shp_le (rfl : shp 1 = (7, 0)) (nle rfl)) (ci := 7) rfl rfl tw_4_182 tw_1_1 hl tw_4_180 tw_4_181 ⟨by decide, by decide, rfl⟩ hR rfl hrest hd ⟨Nat.zero_le _, Nat.zero_le _⟩ rfl (fun h => k (h rfl))

theorem dX8_rank_0 : decode cX8_rank 0 = .ok (.aload_n 0, 1) := by decide +kernel
theorem dX8_rank_1 : decode cX8_rank 1 = .ok (.iload_n 1, 1) := by decide +kernel
theorem dX8_rank_2 : decode cX8_rank 2 = .ok (.iload_n 2, 1) := by decide +kernel
theorem dX8_rank_3 : decode cX8_rank 3 = .ok (.invokevirtual 370, 3) := by decide +kernel
theorem dX8_rank_6 : decode cX8_rank 6 = .ok (.ifCond .ne 5, 3) := by decide +kernel
theorem dX8_rank_9 : decode cX8_rank 9 = .ok (.iconst (-1), 1) := by decide +kernel
theorem dX8_rank_10 : decode cX8_rank 10 = .ok (.ireturn, 1) := by decide +kernel
theorem dX8_rank_11 : decode cX8_rank 11 = .ok (.aload_n 0, 1) := by decide +kernel
theorem dX8_rank_12 : decode cX8_rank 12 = .ok (.invokevirtual 373, 3) := by decide +kernel
theorem dX8_rank_15 : decode cX8_rank 15 = .ok (.ifCond .ne 6, 3) := by decide +kernel
theorem dX8_rank_18 : decode cX8_rank 18 = .ok (.bipush (-2), 2) := by decide +kernel
theorem dX8_rank_20 : decode cX8_rank 20 = .ok (.ireturn, 1) := by decide +kernel
theorem dX8_rank_21 : decode cX8_rank 21 = .ok (.iconst 1, 1) := by decide +kernel
theorem dX8_rank_22 : decode cX8_rank 22 = .ok (.istore_n 3, 1) := by decide +kernel
theorem dX8_rank_23 : decode cX8_rank 23 = .ok (.iconst 0, 1) := by decide +kernel
theorem dX8_rank_24 : decode cX8_rank 24 = .ok (.istore 4, 2) := by decide +kernel
theorem dX8_rank_26 : decode cX8_rank 26 = .ok (.iload 4, 2) := by decide +kernel
theorem dX8_rank_28 : decode cX8_rank 28 = .ok (.aload_n 0, 1) := by decide +kernel
theorem dX8_rank_29 : decode cX8_rank 29 = .ok (.invokevirtual 266, 3) := by decide +kernel
theorem dX8_rank_32 : decode cX8_rank 32 = .ok (.if_icmp .ge 64, 3) := by decide +kernel
theorem dX8_rank_35 : decode cX8_rank 35 = .ok (.iconst 0, 1) := by decide +kernel
theorem dX8_rank_36 : decode cX8_rank 36 = .ok (.istore 5, 2) := by decide +kernel
theorem dX8_rank_38 : decode cX8_rank 38 = .ok (.iload 5, 2) := by decide +kernel
theorem dX8_rank_40 : decode cX8_rank 40 = .ok (.aload_n 0, 1) := by decide +kernel
theorem dX8_rank_41 : decode cX8_rank 41 = .ok (.iload 4, 2) := by decide +kernel
theorem dX8_rank_43 : decode cX8_rank 43 = .ok (.invokevirtual 272, 3) := by decide +kernel
theorem dX8_rank_46 : decode cX8_rank 46 = .ok (.if_icmp .ge 44, 3) := by decide +kernel
theorem dX8_rank_49 : decode cX8_rank 49 = .ok (.iload_n 3, 1) := by decide +kernel
theorem dX8_rank_50 : decode cX8_rank 50 = .ok (.aload_n 0, 1) := by decide +kernel
theorem dX8_rank_51 : decode cX8_rank 51 = .ok (.getfield 108, 3) := by decide +kernel
theorem dX8_rank_54 : decode cX8_rank 54 = .ok (.bipush 6, 2) := by decide +kernel
theorem dX8_rank_56 : decode cX8_rank 56 = .ok (.iload 4, 2) := by decide +kernel
theorem dX8_rank_58 : decode cX8_rank 58 = .ok (.imul, 1) := by decide +kernel
theorem dX8_rank_59 : decode cX8_rank 59 = .ok (.iload 5, 2) := by decide +kernel
theorem dX8_rank_61 : decode cX8_rank 61 = .ok (.iadd, 1) := by decide +kernel
theorem dX8_rank_62 : decode cX8_rank 62 = .ok (.iaload, 1) := by decide +kernel
theorem dX8_rank_63 : decode cX8_rank 63 = .ok (.aload_n 0, 1) := by decide +kernel
theorem dX8_rank_64 : decode cX8_rank 64 = .ok (.getfield 108, 3) := by decide +kernel
theorem dX8_rank_67 : decode cX8_rank 67 = .ok (.bipush 6, 2) := by decide +kernel
theorem dX8_rank_69 : decode cX8_rank 69 = .ok (.iload_n 1, 1) := by decide +kernel
theorem dX8_rank_70 : decode cX8_rank 70 = .ok (.imul, 1) := by decide +kernel
theorem dX8_rank_71 : decode cX8_rank 71 = .ok (.iload_n 2, 1) := by decide +kernel
theorem dX8_rank_72 : decode cX8_rank 72 = .ok (.iadd, 1) := by decide +kernel
theorem dX8_rank_73 : decode cX8_rank 73 = .ok (.iaload, 1) := by decide +kernel
theorem dX8_rank_74 : decode cX8_rank 74 = .ok (.if_icmp .le 7, 3) := by decide +kernel
theorem dX8_rank_77 : decode cX8_rank 77 = .ok (.iconst 1, 1) := by decide +kernel
theorem dX8_rank_78 : decode cX8_rank 78 = .ok (.goto 4, 3) := by decide +kernel
theorem dX8_rank_81 : decode cX8_rank 81 = .ok (.iconst 0, 1) := by decide +kernel
theorem dX8_rank_82 : decode cX8_rank 82 = .ok (.iadd, 1) := by decide +kernel
theorem dX8_rank_83 : decode cX8_rank 83 = .ok (.istore_n 3, 1) := by decide +kernel
theorem dX8_rank_84 : decode cX8_rank 84 = .ok (.iinc 5 1, 3) := by decide +kernel
theorem dX8_rank_87 : decode cX8_rank 87 = .ok (.goto (-49), 3) := by decide +kernel
theorem dX8_rank_90 : decode cX8_rank 90 = .ok (.iinc 4 1, 3) := by decide +kernel
theorem dX8_rank_93 : decode cX8_rank 93 = .ok (.goto (-67), 3) := by decide +kernel
theorem dX8_rank_96 : decode cX8_rank 96 = .ok (.iload_n 3, 1) := by decide +kernel
theorem dX8_rank_97 : decode cX8_rank 97 = .ok (.ireturn, 1) := by decide +kernel
def mX8_rank : MM := (yX8_rank, cX8_rank, 6, Option.some Jvm.ClassFile.FieldType.int, { frames := 7, cells := 0, slots := 0, locals := 158 })
def X8_rank_L38 (σ_ : SS) (u1_ : Int32) (u2_ : Int32) (u4_ : Int32) (k90 : Int32 → Option (Int32 × SS)) : Nat → Int32 → Int32 → Option (Int32 × SS) :=
  lp (fun _ _ => none) fun rec v3_ v5_ =>
    bnd1 (fX8_boxesOf σ_ u4_) fun v11 =>
    if v11 ≤ v5_ then (
      k90 v3_
      ) else (
      grd (inb (((6 : Int32) * u4_) + v5_) 72) <|
      grd (inb (((6 : Int32) * u1_) + u2_) 72) <|
      if (gI σ_ 106 (Int32.toNatClampNeg (((6 : Int32) * u4_) + v5_))) ≤ (gI σ_ 106 (Int32.toNatClampNeg (((6 : Int32) * u1_) + u2_))) then (
        vthen (v3_ + (0 : Int32)) fun v16 =>
        rec v16 (v5_ + (1 : Int32))
        ) else (
        vthen (v3_ + (1 : Int32)) fun v17 =>
        rec v17 (v5_ + (1 : Int32))
        )
      )

def X8_rank_L26 (σ_ : SS) (u1_ : Int32) (u2_ : Int32)  : Nat → Int32 → Int32 → Option (Int32 × SS) :=
  lp (fun _ _ => none) fun rec v3_ v4_ =>
    bnd1 (fX8_questions σ_) fun v8 =>
    if v8 ≤ v4_ then (
      some (v3_, σ_)
      ) else (
      X8_rank_L38 σ_ u1_ u2_ v4_
      (fun v18 =>
        rec v18 (v4_ + (1 : Int32))
        )
      fuel v3_ (0 : Int32)
      )

def fX8_rank (σ : SS) (a1 : Int32) (a2 : Int32) : Option (Int32 × SS) :=
  bnd1 (fX8_isBox σ a1 a2) fun b2 =>
  if b2 = true then (
    bnd (fX8_finds σ) fun b5 σ7 =>
    if b5 = true then (
      X8_rank_L26 σ7 a1 a2
      fuel (1 : Int32) (0 : Int32)
      ) else (
      some ((-2 : Int32), σ7)
      )
    ) else (
    some ((-1 : Int32), σ)
    )

set_option maxRecDepth 20000 in
theorem sX8_rank_L38 {g : GG} {r : Int32 × SS} {σ_ : SS} {u1_ : Int32} {u2_ : Int32} {u4_ : Int32} {k90 : Int32 → Option (Int32 × SS)} 
    (hw_ : WT σ_)
    (hk90 : ∀ (y3 : Int32), k90 y3 = some r → RR g mX8_rank (FinR g mX8_rank (some (.int r.1)) NF r.2) zF 90 [(0, .ref (ad g 73)), (1, .int u1_), (2, .int u2_), (3, .int y3), (4, .int u4_)] [] σ_)
    (n : Nat) : ∀ (v3_ : Int32) (v5_ : Int32), X8_rank_L38 σ_ u1_ u2_ u4_ k90 n v3_ v5_ = some r → RR g mX8_rank (FinR g mX8_rank (some (.int r.1)) NF r.2) zF 38 [(0, .ref (ad g 73)), (1, .int u1_), (2, .int u2_), (3, .int v3_), (4, .int u4_), (5, .int v5_)] [] σ_ := by
  unfold X8_rank_L38
  refine lp_ind (P := fun (rec : Int32 → Int32 → Option (Int32 × SS)) => ∀ (v3_ : Int32) (v5_ : Int32), rec v3_ v5_ = some r → RR g mX8_rank (FinR g mX8_rank (some (.int r.1)) NF r.2) zF 38 [(0, .ref (ad g 73)), (1, .int u1_), (2, .int u2_), (3, .int v3_), (4, .int u4_), (5, .int v5_)] [] σ_) ?_ ?_ n
  · intro v3_ v5_ hr; cases hr
  intro rec ih v3_ v5_ hr
  refine r_iload (pc := 38) (j := 5) dX8_rank_38 rfl ?_
  refine r_aload_n (pc := 40) (j := 0) dX8_rank_40 rfl rfl ?_
  refine r_iload (pc := 41) (j := 4) dX8_rank_41 rfl ?_
  obtain ⟨v11, hv11, hr⟩ := bnd1_inv hr
  refine kX8_boxesOf (pc := 43) hv11 tw_7_27 ⟨nle rfl, nle rfl⟩ (nle rfl) dX8_rank_43 ?_
  refine r_icmp_ge (pc := 46) (tgt := 90) dX8_rank_46 rfl (fun hc => ?_) (fun hc => ?_)
  · replace hr := ite_t hc hr
    exact r_pick (ls1 := [(0, .ref (ad g 73)), (1, .int u1_), (2, .int u2_), (3, .int v3_), (4, .int u4_)]) [0, 1, 2, 3, 4] rfl (hk90 v3_ hr)
  replace hr := ite_f hc hr
  refine r_iload_n (pc := 49) (j := 3) dX8_rank_49 rfl rfl ?_
  refine r_aload_n (pc := 50) (j := 0) dX8_rank_50 rfl rfl ?_
  refine gf8_52 (pc := 51) tw_5_146 hw_ dX8_rank_51 ?_
  refine r_bipush (pc := 54) (v := (6 : Int32)) dX8_rank_54 rfl ?_
  refine r_iload (pc := 56) (j := 4) dX8_rank_56 rfl ?_
  refine r_imul (pc := 58) dX8_rank_58 ?_
  refine r_iload (pc := 59) (j := 5) dX8_rank_59 rfl ?_
  refine r_iadd (pc := 61) dX8_rank_61 ?_
  obtain ⟨h14, hr⟩ := grd_inv hr
  refine x_iald (pc := 62) (k := (Int32.toNatClampNeg (((6 : Int32) * u4_) + v5_))) rfl h14 rfl dX8_rank_62 ?_
  refine r_aload_n (pc := 63) (j := 0) dX8_rank_63 rfl rfl ?_
  refine gf8_52 (pc := 64) tw_5_146 hw_ dX8_rank_64 ?_
  refine r_bipush (pc := 67) (v := (6 : Int32)) dX8_rank_67 rfl ?_
  refine r_iload_n (pc := 69) (j := 1) dX8_rank_69 rfl rfl ?_
  refine r_imul (pc := 70) dX8_rank_70 ?_
  refine r_iload_n (pc := 71) (j := 2) dX8_rank_71 rfl rfl ?_
  refine r_iadd (pc := 72) dX8_rank_72 ?_
  obtain ⟨h15, hr⟩ := grd_inv hr
  refine x_iald (pc := 73) (k := (Int32.toNatClampNeg (((6 : Int32) * u1_) + u2_))) rfl h15 rfl dX8_rank_73 ?_
  refine r_icmp_le (pc := 74) (tgt := 81) dX8_rank_74 rfl (fun hc => ?_) (fun hc => ?_)
  · replace hr := ite_t hc hr
    refine r_iconst (pc := 81) (v := (0 : Int32)) dX8_rank_81 rfl ?_
    refine r_iadd (pc := 82) dX8_rank_82 ?_
    refine r_topi fun v16 ev16 => ?_
    replace hr := vthen_inv hr v16 ev16
    refine r_istore_n (pc := 83) (ls1 := [(3, .int v16), (0, .ref (ad g 73)), (1, .int u1_), (2, .int u2_), (4, .int u4_), (5, .int v5_)]) dX8_rank_83 rfl (nle rfl) rfl ?_
    refine r_iinc (pc := 84) (j := 5) (v := (v5_ + (1 : Int32))) (ls1 := [(5, .int (v5_ + (1 : Int32))), (3, .int v16), (0, .ref (ad g 73)), (1, .int u1_), (2, .int u2_), (4, .int u4_)]) dX8_rank_84 rfl rfl (nle rfl) rfl ?_
    refine r_goto (pc := 87) (tgt := 38) dX8_rank_87 rfl ?_
    exact r_pick (ls1 := [(0, .ref (ad g 73)), (1, .int u1_), (2, .int u2_), (3, .int v16), (4, .int u4_), (5, .int (v5_ + (1 : Int32)))]) [2, 3, 4, 1, 5, 0] rfl (ih v16 (v5_ + (1 : Int32)) hr)
  replace hr := ite_f hc hr
  refine r_iconst (pc := 77) (v := (1 : Int32)) dX8_rank_77 rfl ?_
  refine r_goto (pc := 78) (tgt := 82) dX8_rank_78 rfl ?_
  refine r_iadd (pc := 82) dX8_rank_82 ?_
  refine r_topi fun v17 ev17 => ?_
  replace hr := vthen_inv hr v17 ev17
  refine r_istore_n (pc := 83) (ls1 := [(3, .int v17), (0, .ref (ad g 73)), (1, .int u1_), (2, .int u2_), (4, .int u4_), (5, .int v5_)]) dX8_rank_83 rfl (nle rfl) rfl ?_
  refine r_iinc (pc := 84) (j := 5) (v := (v5_ + (1 : Int32))) (ls1 := [(5, .int (v5_ + (1 : Int32))), (3, .int v17), (0, .ref (ad g 73)), (1, .int u1_), (2, .int u2_), (4, .int u4_)]) dX8_rank_84 rfl rfl (nle rfl) rfl ?_
  refine r_goto (pc := 87) (tgt := 38) dX8_rank_87 rfl ?_
  exact r_pick (ls1 := [(0, .ref (ad g 73)), (1, .int u1_), (2, .int u2_), (3, .int v17), (4, .int u4_), (5, .int (v5_ + (1 : Int32)))]) [2, 3, 4, 1, 5, 0] rfl (ih v17 (v5_ + (1 : Int32)) hr)

set_option maxRecDepth 20000 in
theorem sX8_rank_L26 {g : GG} {r : Int32 × SS} {σ_ : SS} {u1_ : Int32} {u2_ : Int32}  
    (hw_ : WT σ_)
    (n : Nat) : ∀ (v3_ : Int32) (v4_ : Int32), X8_rank_L26 σ_ u1_ u2_ n v3_ v4_ = some r → RR g mX8_rank (FinR g mX8_rank (some (.int r.1)) NF r.2) zF 26 [(0, .ref (ad g 73)), (1, .int u1_), (2, .int u2_), (3, .int v3_), (4, .int v4_)] [] σ_ := by
  unfold X8_rank_L26
  refine lp_ind (P := fun (rec : Int32 → Int32 → Option (Int32 × SS)) => ∀ (v3_ : Int32) (v4_ : Int32), rec v3_ v4_ = some r → RR g mX8_rank (FinR g mX8_rank (some (.int r.1)) NF r.2) zF 26 [(0, .ref (ad g 73)), (1, .int u1_), (2, .int u2_), (3, .int v3_), (4, .int v4_)] [] σ_) ?_ ?_ n
  · intro v3_ v4_ hr; cases hr
  intro rec ih v3_ v4_ hr
  refine r_iload (pc := 26) (j := 4) dX8_rank_26 rfl ?_
  refine r_aload_n (pc := 28) (j := 0) dX8_rank_28 rfl rfl ?_
  obtain ⟨v8, hv8, hr⟩ := bnd1_inv hr
  refine kX8_questions (pc := 29) hv8 tw_6_145 ⟨nle rfl, nle rfl⟩ (nle rfl) dX8_rank_29 ?_
  refine r_icmp_ge (pc := 32) (tgt := 96) dX8_rank_32 rfl (fun hc => ?_) (fun hc => ?_)
  · replace hr := ite_t hc hr
    refine r_iload_n (pc := 96) (j := 3) dX8_rank_96 rfl rfl ?_
    exact l_osi hr (r_iret (pc := 97) (v := v3_) rfl rfl ⟨Nat.le_refl _, Nat.le_refl _⟩ dX8_rank_97)
  replace hr := ite_f hc hr
  refine r_iconst (pc := 35) (v := (0 : Int32)) dX8_rank_35 rfl ?_
  refine r_istore (pc := 36) (ls1 := [(5, .int (0 : Int32)), (0, .ref (ad g 73)), (1, .int u1_), (2, .int u2_), (3, .int v3_), (4, .int v4_)]) dX8_rank_36 (nle rfl) rfl ?_
  refine r_pick (ls1 := [(0, .ref (ad g 73)), (1, .int u1_), (2, .int u2_), (3, .int v3_), (4, .int v4_), (5, .int (0 : Int32))]) [1, 2, 3, 4, 5, 0] rfl ?_
  refine sX8_rank_L38  hw_  (fun v18 hr => ?_) fuel v3_ (0 : Int32) hr
  refine r_iinc (pc := 90) (j := 4) (v := (v4_ + (1 : Int32))) (ls1 := [(4, .int (v4_ + (1 : Int32))), (0, .ref (ad g 73)), (1, .int u1_), (2, .int u2_), (3, .int v18)]) dX8_rank_90 rfl rfl (nle rfl) rfl ?_
  refine r_goto (pc := 93) (tgt := 26) dX8_rank_93 rfl ?_
  exact r_pick (ls1 := [(0, .ref (ad g 73)), (1, .int u1_), (2, .int u2_), (3, .int v18), (4, .int (v4_ + (1 : Int32)))]) [1, 2, 3, 4, 0] rfl (ih v18 (v4_ + (1 : Int32)) hr)

set_option maxRecDepth 20000 in
theorem sX8_rank {g : GG} {σ : SS} {a1 : Int32} {a2 : Int32} {r : Int32 × SS} (hr : fX8_rank σ a1 a2 = some r)  : Ct g mX8_rank [.ref (ad g 73), .int a1, .int a2] NF σ (some (.int r.1)) NF r.2 := by
  refine Ct.of (by decide +kernel) (nle rfl) fun hw0 => ?_
  have hw := hw0 rfl
  unfold fX8_rank at hr
  change RR g mX8_rank (FinR g mX8_rank (some (.int r.1)) NF r.2) zF 0 [(0, .ref (ad g 73)), (1, .int a1), (2, .int a2)] [] σ
  refine r_aload_n (pc := 0) (j := 0) dX8_rank_0 rfl rfl ?_
  refine r_iload_n (pc := 1) (j := 1) dX8_rank_1 rfl rfl ?_
  refine r_iload_n (pc := 2) (j := 2) dX8_rank_2 rfl rfl ?_
  obtain ⟨b2, hb2, hr⟩ := bnd1_inv hr
  refine kX8_isBox (pc := 3) hb2 tw_7_90 ⟨nle rfl, nle rfl⟩ (nle rfl) dX8_rank_3 ?_
  refine r_ifB_ne (pc := 6) (tgt := 11) dX8_rank_6 rfl (fun hc => ?_) (fun hc => ?_)
  · replace hr := ite_t hc hr
    refine r_aload_n (pc := 11) (j := 0) dX8_rank_11 rfl rfl ?_
    obtain ⟨b5, σ7, eσ7, hr⟩ := bnd_inv hr
    refine kX8_finds (pc := 12) eσ7 tw_7_94 ⟨nle rfl, nle rfl⟩ (nle rfl) dX8_rank_12 fun hσ7 => ?_
    refine r_ifB_ne (pc := 15) (tgt := 21) dX8_rank_15 rfl (fun hc => ?_) (fun hc => ?_)
    · replace hr := ite_t hc hr
      refine r_iconst (pc := 21) (v := (1 : Int32)) dX8_rank_21 rfl ?_
      refine r_istore_n (pc := 22) (ls1 := [(3, .int (1 : Int32)), (0, .ref (ad g 73)), (1, .int a1), (2, .int a2)]) dX8_rank_22 rfl (nle rfl) rfl ?_
      refine r_iconst (pc := 23) (v := (0 : Int32)) dX8_rank_23 rfl ?_
      refine r_istore (pc := 24) (ls1 := [(4, .int (0 : Int32)), (3, .int (1 : Int32)), (0, .ref (ad g 73)), (1, .int a1), (2, .int a2)]) dX8_rank_24 (nle rfl) rfl ?_
      refine r_pick (ls1 := [(0, .ref (ad g 73)), (1, .int a1), (2, .int a2), (3, .int (1 : Int32)), (4, .int (0 : Int32))]) [2, 3, 4, 1, 0] rfl ?_
      refine sX8_rank_L26  hσ7   fuel (1 : Int32) (0 : Int32) hr
    replace hr := ite_f hc hr
    refine r_bipush (pc := 18) (v := (-2 : Int32)) dX8_rank_18 rfl ?_
    exact l_osi hr (r_iret (pc := 20) (v := (-2 : Int32)) rfl rfl ⟨Nat.le_refl _, Nat.le_refl _⟩ dX8_rank_20)
  replace hr := ite_f hc hr
  refine r_iconst (pc := 9) (v := (-1 : Int32)) dX8_rank_9 rfl ?_
  exact l_osi hr (r_iret (pc := 10) (v := (-1 : Int32)) rfl rfl ⟨Nat.le_refl _, Nat.le_refl _⟩ dX8_rank_10)

theorem kX8_rank {g : GG} {σ : SS} {a1 : Int32} {a2 : Int32} {v : Int32} {σ2 : SS} {M : MM} {F : State → Array Value → List Frame → State → Prop} {pc index : Nat} {ls : List (Nat × Value)} {rest : List Value} (hf : fX8_rank σ a1 a2 = some (v, σ2))  (hl : Cond.methodLink M.1.cls index yX8_rank ∈ lw_gt) (hR : mX8_rank.2.2.2.2.frames + 1 ≤ M.2.2.2.2.frames ∧ 8 + (mX8_rank.2.2.1 + 11) + mX8_rank.2.2.2.2.locals ≤ M.2.2.2.2.locals) (hrest : (rest.map fun v => v.category).sum ≤ 8) (hd : decode M.2.1 pc = .ok (.invokevirtual index, 3)) (k : WT σ2 → RR g M F zF (pc + 3) ls (.int v :: rest) σ2) : RR g M F zF pc ls (.int a2 :: .int a1 :: .ref (ad g 73) :: rest) σ :=
  r_callV (z := zF) (N := mX8_rank) (nn := 2) (o1 := some (.int v)) (sX8_rank hf ) (rfl : shp 73 = (8, 0)) (by decide) (shp_le (rfl : shp 73 = (8, 0)) (nle rfl)) (ci := 8) rfl rfl tw_7_146 tw_1_10 hl tw_7_144 tw_7_145 ⟨by decide, by decide, rfl⟩ hR rfl hrest hd ⟨Nat.zero_le _, Nat.zero_le _⟩ rfl (fun h => k (h rfl))

theorem dX3_judgedElse_0 : decode cX3_judgedElse 0 = .ok (.iconst 0, 1) := by decide +kernel
theorem dX3_judgedElse_1 : decode cX3_judgedElse 1 = .ok (.istore_n 3, 1) := by decide +kernel
theorem dX3_judgedElse_2 : decode cX3_judgedElse 2 = .ok (.iconst 0, 1) := by decide +kernel
theorem dX3_judgedElse_3 : decode cX3_judgedElse 3 = .ok (.istore 4, 2) := by decide +kernel
theorem dX3_judgedElse_5 : decode cX3_judgedElse 5 = .ok (.iload 4, 2) := by decide +kernel
theorem dX3_judgedElse_7 : decode cX3_judgedElse 7 = .ok (.aload_n 1, 1) := by decide +kernel
theorem dX3_judgedElse_8 : decode cX3_judgedElse 8 = .ok (.getfield 140, 3) := by decide +kernel
theorem dX3_judgedElse_11 : decode cX3_judgedElse 11 = .ok (.if_icmp .ge 105, 3) := by decide +kernel
theorem dX3_judgedElse_14 : decode cX3_judgedElse 14 = .ok (.iconst 0, 1) := by decide +kernel
theorem dX3_judgedElse_15 : decode cX3_judgedElse 15 = .ok (.istore 5, 2) := by decide +kernel
theorem dX3_judgedElse_17 : decode cX3_judgedElse 17 = .ok (.iload 5, 2) := by decide +kernel
theorem dX3_judgedElse_19 : decode cX3_judgedElse 19 = .ok (.aload_n 1, 1) := by decide +kernel
theorem dX3_judgedElse_20 : decode cX3_judgedElse 20 = .ok (.getfield 154, 3) := by decide +kernel
theorem dX3_judgedElse_23 : decode cX3_judgedElse 23 = .ok (.iload 4, 2) := by decide +kernel
theorem dX3_judgedElse_25 : decode cX3_judgedElse 25 = .ok (.iaload, 1) := by decide +kernel
theorem dX3_judgedElse_26 : decode cX3_judgedElse 26 = .ok (.if_icmp .ge 84, 3) := by decide +kernel
theorem dX3_judgedElse_29 : decode cX3_judgedElse 29 = .ok (.aload_n 0, 1) := by decide +kernel
theorem dX3_judgedElse_30 : decode cX3_judgedElse 30 = .ok (.getfield 38, 3) := by decide +kernel
theorem dX3_judgedElse_33 : decode cX3_judgedElse 33 = .ok (.iload 4, 2) := by decide +kernel
theorem dX3_judgedElse_35 : decode cX3_judgedElse 35 = .ok (.iaload, 1) := by decide +kernel
theorem dX3_judgedElse_36 : decode cX3_judgedElse 36 = .ok (.iload 5, 2) := by decide +kernel
theorem dX3_judgedElse_38 : decode cX3_judgedElse 38 = .ok (.ishr, 1) := by decide +kernel
theorem dX3_judgedElse_39 : decode cX3_judgedElse 39 = .ok (.iconst 1, 1) := by decide +kernel
theorem dX3_judgedElse_40 : decode cX3_judgedElse 40 = .ok (.iand, 1) := by decide +kernel
theorem dX3_judgedElse_41 : decode cX3_judgedElse 41 = .ok (.iconst 1, 1) := by decide +kernel
theorem dX3_judgedElse_42 : decode cX3_judgedElse 42 = .ok (.if_icmp .ne 7, 3) := by decide +kernel
theorem dX3_judgedElse_45 : decode cX3_judgedElse 45 = .ok (.iconst 1, 1) := by decide +kernel
theorem dX3_judgedElse_46 : decode cX3_judgedElse 46 = .ok (.goto 4, 3) := by decide +kernel
theorem dX3_judgedElse_49 : decode cX3_judgedElse 49 = .ok (.iconst 0, 1) := by decide +kernel
theorem dX3_judgedElse_50 : decode cX3_judgedElse 50 = .ok (.istore 6, 2) := by decide +kernel
theorem dX3_judgedElse_52 : decode cX3_judgedElse 52 = .ok (.iload_n 2, 1) := by decide +kernel
theorem dX3_judgedElse_53 : decode cX3_judgedElse 53 = .ok (.ifCond .le 38, 3) := by decide +kernel
theorem dX3_judgedElse_56 : decode cX3_judgedElse 56 = .ok (.aload_n 0, 1) := by decide +kernel
theorem dX3_judgedElse_57 : decode cX3_judgedElse 57 = .ok (.getfield 32, 3) := by decide +kernel
theorem dX3_judgedElse_60 : decode cX3_judgedElse 60 = .ok (.aload_n 1, 1) := by decide +kernel
theorem dX3_judgedElse_61 : decode cX3_judgedElse 61 = .ok (.getfield 151, 3) := by decide +kernel
theorem dX3_judgedElse_64 : decode cX3_judgedElse 64 = .ok (.iload 4, 2) := by decide +kernel
theorem dX3_judgedElse_66 : decode cX3_judgedElse 66 = .ok (.iaload, 1) := by decide +kernel
theorem dX3_judgedElse_67 : decode cX3_judgedElse 67 = .ok (.iload 5, 2) := by decide +kernel
theorem dX3_judgedElse_69 : decode cX3_judgedElse 69 = .ok (.iadd, 1) := by decide +kernel
theorem dX3_judgedElse_70 : decode cX3_judgedElse 70 = .ok (.iaload, 1) := by decide +kernel
theorem dX3_judgedElse_71 : decode cX3_judgedElse 71 = .ok (.aload_n 0, 1) := by decide +kernel
theorem dX3_judgedElse_72 : decode cX3_judgedElse 72 = .ok (.getfield 32, 3) := by decide +kernel
theorem dX3_judgedElse_75 : decode cX3_judgedElse 75 = .ok (.aload_n 0, 1) := by decide +kernel
theorem dX3_judgedElse_76 : decode cX3_judgedElse 76 = .ok (.getfield 35, 3) := by decide +kernel
theorem dX3_judgedElse_79 : decode cX3_judgedElse 79 = .ok (.iload_n 2, 1) := by decide +kernel
theorem dX3_judgedElse_80 : decode cX3_judgedElse 80 = .ok (.iconst 1, 1) := by decide +kernel
theorem dX3_judgedElse_81 : decode cX3_judgedElse 81 = .ok (.isub, 1) := by decide +kernel
theorem dX3_judgedElse_82 : decode cX3_judgedElse 82 = .ok (.iaload, 1) := by decide +kernel
theorem dX3_judgedElse_83 : decode cX3_judgedElse 83 = .ok (.iaload, 1) := by decide +kernel
theorem dX3_judgedElse_84 : decode cX3_judgedElse 84 = .ok (.if_icmp .lt 7, 3) := by decide +kernel
theorem dX3_judgedElse_87 : decode cX3_judgedElse 87 = .ok (.iconst 1, 1) := by decide +kernel
theorem dX3_judgedElse_88 : decode cX3_judgedElse 88 = .ok (.goto 4, 3) := by decide +kernel
theorem dX3_judgedElse_91 : decode cX3_judgedElse 91 = .ok (.iconst 0, 1) := by decide +kernel
theorem dX3_judgedElse_92 : decode cX3_judgedElse 92 = .ok (.istore 7, 2) := by decide +kernel
theorem dX3_judgedElse_94 : decode cX3_judgedElse 94 = .ok (.iload 6, 2) := by decide +kernel
theorem dX3_judgedElse_96 : decode cX3_judgedElse 96 = .ok (.iload 7, 2) := by decide +kernel
theorem dX3_judgedElse_98 : decode cX3_judgedElse 98 = .ok (.if_icmp .eq 6, 3) := by decide +kernel
theorem dX3_judgedElse_101 : decode cX3_judgedElse 101 = .ok (.iinc 3 1, 3) := by decide +kernel
theorem dX3_judgedElse_104 : decode cX3_judgedElse 104 = .ok (.iinc 5 1, 3) := by decide +kernel
theorem dX3_judgedElse_107 : decode cX3_judgedElse 107 = .ok (.goto (-90), 3) := by decide +kernel
theorem dX3_judgedElse_110 : decode cX3_judgedElse 110 = .ok (.iinc 4 1, 3) := by decide +kernel
theorem dX3_judgedElse_113 : decode cX3_judgedElse 113 = .ok (.goto (-108), 3) := by decide +kernel
theorem dX3_judgedElse_116 : decode cX3_judgedElse 116 = .ok (.iload_n 3, 1) := by decide +kernel
theorem dX3_judgedElse_117 : decode cX3_judgedElse 117 = .ok (.ireturn, 1) := by decide +kernel
def mX3_judgedElse : MM := (yX3_judgedElse, cX3_judgedElse, 8, Option.some Jvm.ClassFile.FieldType.int, { frames := 0, cells := 0, slots := 0, locals := 0 })
def X3_judgedElse_L17 (σ_ : SS) (o1_ : Nat) (u2_ : Int32) (u4_ : Int32) (k110 : Int32 → Option Int32) : Nat → Int32 → Int32 → Option Int32 :=
  lp (fun _ _ => none) fun rec v3_ v5_ =>
    grd (inb u4_ 12) <|
    if (gI σ_ (o1_ + 3) (Int32.toNatClampNeg u4_)) ≤ v5_ then (
      k110 v3_
      ) else (
      vthen (fun (s2 : Int32) =>
        vthen (fun (s3 : Int32) =>
          if s2 = s3 then (
            rec v3_ (v5_ + (1 : Int32))
            ) else (
            rec (v3_ + (1 : Int32)) (v5_ + (1 : Int32))
            )
          ) fun j92 =>
        vthen (fun (_u : Unit) =>
          j92 (0 : Int32)
          ) fun j91 =>
        if u2_ ≤ 0 then (
          j91 ()
          ) else (
          grd (inb ((gI σ_ (o1_ + 2) (Int32.toNatClampNeg u4_)) + v5_) 72) <|
          grd (inb (u2_ - (1 : Int32)) 72) <|
          grd (inb (gI σ_ 52 (Int32.toNatClampNeg (u2_ - (1 : Int32)))) 72) <|
          if (gI σ_ 51 (Int32.toNatClampNeg ((gI σ_ (o1_ + 2) (Int32.toNatClampNeg u4_)) + v5_))) < (gI σ_ 51 (Int32.toNatClampNeg (gI σ_ 52 (Int32.toNatClampNeg (u2_ - (1 : Int32)))))) then (
            j91 ()
            ) else (
            j92 (1 : Int32)
            )
          )
        ) fun j50 =>
      if (((gI σ_ 53 (Int32.toNatClampNeg u4_)) >>> (v5_ &&& 31)) &&& (1 : Int32)) = (1 : Int32) then (
        j50 (1 : Int32)
        ) else (
        j50 (0 : Int32)
        )
      )

def X3_judgedElse_L5 (σ_ : SS) (o1_ : Nat) (u2_ : Int32)  : Nat → Int32 → Int32 → Option Int32 :=
  lp (fun _ _ => none) fun rec v3_ v4_ =>
    if (gI σ_ o1_ 5) ≤ v4_ then (
      some v3_
      ) else (
      X3_judgedElse_L17 σ_ o1_ u2_ v4_
      (fun v7 =>
        rec v7 (v4_ + (1 : Int32))
        )
      fuel v3_ (0 : Int32)
      )

def fX3_judgedElse (σ0 : SS) (a1 : Nat) (a2 : Int32) : Option Int32 :=
  X3_judgedElse_L5 σ0 a1 a2
  fuel (0 : Int32) (0 : Int32)

set_option maxRecDepth 20000 in
theorem sX3_judgedElse_L17 {g : GG} {r : Int32} {σ_ : SS} {σ0 : SS} {o1_ : Nat} {u2_ : Int32} {u4_ : Int32} {k110 : Int32 → Option Int32} (hs1_ : shp o1_ = (1, 0))
    (hw_ : WT σ_)
    (h0_ : σ_ = σ0)
    (hk110 : ∀ (y3 : Int32), k110 y3 = some r → RR g mX3_judgedElse (FinR g mX3_judgedElse (some (.int r)) NF σ0) zF 110 [(0, .ref (ad g 31)), (1, .ref (ad g o1_)), (2, .int u2_), (3, .int y3), (4, .int u4_)] [] σ_)
    (n : Nat) : ∀ (v3_ : Int32) (v5_ : Int32), X3_judgedElse_L17 σ_ o1_ u2_ u4_ k110 n v3_ v5_ = some r → RR g mX3_judgedElse (FinR g mX3_judgedElse (some (.int r)) NF σ0) zF 17 [(0, .ref (ad g 31)), (1, .ref (ad g o1_)), (2, .int u2_), (3, .int v3_), (4, .int u4_), (5, .int v5_)] [] σ_ := by
  unfold X3_judgedElse_L17
  refine lp_ind (P := fun (rec : Int32 → Int32 → Option Int32) => ∀ (v3_ : Int32) (v5_ : Int32), rec v3_ v5_ = some r → RR g mX3_judgedElse (FinR g mX3_judgedElse (some (.int r)) NF σ0) zF 17 [(0, .ref (ad g 31)), (1, .ref (ad g o1_)), (2, .int u2_), (3, .int v3_), (4, .int u4_), (5, .int v5_)] [] σ_) ?_ ?_ n
  · intro v3_ v5_ hr; cases hr
  intro rec ih v3_ v5_ hr
  subst h0_
  refine r_iload (pc := 17) (j := 5) dX3_judgedElse_17 rfl ?_
  refine r_aload_n (pc := 19) (j := 1) dX3_judgedElse_19 rfl rfl ?_
  refine gf1_9 (pc := 20) tw_1_93 hw_ hs1_ dX3_judgedElse_20 ?_
  refine r_iload (pc := 23) (j := 4) dX3_judgedElse_23 rfl ?_
  obtain ⟨h1, hr⟩ := grd_inv hr
  refine x_iald (pc := 25) (k := (Int32.toNatClampNeg u4_)) (sh1_9 hs1_) h1 rfl dX3_judgedElse_25 ?_
  refine r_icmp_ge (pc := 26) (tgt := 110) dX3_judgedElse_26 rfl (fun hc => ?_) (fun hc => ?_)
  · replace hr := ite_t hc hr
    exact r_pick (ls1 := [(0, .ref (ad g 31)), (1, .ref (ad g o1_)), (2, .int u2_), (3, .int v3_), (4, .int u4_)]) [0, 1, 2, 3, 4] rfl (hk110 v3_ hr)
  replace hr := ite_f hc hr
  refine r_aload_n (pc := 29) (j := 0) dX3_judgedElse_29 rfl rfl ?_
  refine gf3_7 (pc := 30) tw_2_35 hw_ dX3_judgedElse_30 ?_
  refine r_iload (pc := 33) (j := 4) dX3_judgedElse_33 rfl ?_
  refine x_iald (pc := 35) (k := (Int32.toNatClampNeg u4_)) rfl h1 rfl dX3_judgedElse_35 ?_
  refine r_iload (pc := 36) (j := 5) dX3_judgedElse_36 rfl ?_
  refine r_ishr (pc := 38) dX3_judgedElse_38 ?_
  refine r_iconst (pc := 39) (v := (1 : Int32)) dX3_judgedElse_39 rfl ?_
  refine r_iand (pc := 40) dX3_judgedElse_40 ?_
  refine r_iconst (pc := 41) (v := (1 : Int32)) dX3_judgedElse_41 rfl ?_
  obtain ⟨j50, ej50, hr⟩ := vth_ex hr
  have hj50 : ∀ (s2 : Int32), j50 s2 = some r → RR g mX3_judgedElse (FinR g mX3_judgedElse (some (.int r)) NF σ_) zF 50 [(0, .ref (ad g 31)), (1, .ref (ad g o1_)), (2, .int u2_), (3, .int v3_), (4, .int u4_), (5, .int v5_)] [.int s2] σ_ := by
    intro s2 hr
    replace hr := (congrFun ej50 s2).symm.trans hr
    refine r_istore (pc := 50) (ls1 := [(6, .int s2), (0, .ref (ad g 31)), (1, .ref (ad g o1_)), (2, .int u2_), (3, .int v3_), (4, .int u4_), (5, .int v5_)]) dX3_judgedElse_50 (nle rfl) rfl ?_
    refine r_iload_n (pc := 52) (j := 3) dX3_judgedElse_52 rfl rfl ?_
    obtain ⟨j92, ej92, hr⟩ := vth_ex hr
    have hj92 : ∀ (s3 : Int32), j92 s3 = some r → RR g mX3_judgedElse (FinR g mX3_judgedElse (some (.int r)) NF σ_) zF 92 [(0, .ref (ad g 31)), (1, .ref (ad g o1_)), (2, .int u2_), (3, .int v3_), (4, .int u4_), (5, .int v5_), (6, .int s2)] [.int s3] σ_ := by
      intro s3 hr
      replace hr := (congrFun ej92 s3).symm.trans hr
      refine r_istore (pc := 92) (ls1 := [(7, .int s3), (0, .ref (ad g 31)), (1, .ref (ad g o1_)), (2, .int u2_), (3, .int v3_), (4, .int u4_), (5, .int v5_), (6, .int s2)]) dX3_judgedElse_92 (nle rfl) rfl ?_
      refine r_iload (pc := 94) (j := 7) dX3_judgedElse_94 rfl ?_
      refine r_iload (pc := 96) (j := 0) dX3_judgedElse_96 rfl ?_
      refine r_icmp_eq (pc := 98) (tgt := 104) dX3_judgedElse_98 rfl (fun hc => ?_) (fun hc => ?_)
      · replace hr := ite_t hc hr
        refine r_iinc (pc := 104) (j := 6) (v := (v5_ + (1 : Int32))) (ls1 := [(5, .int (v5_ + (1 : Int32))), (7, .int s3), (0, .ref (ad g 31)), (1, .ref (ad g o1_)), (2, .int u2_), (3, .int v3_), (4, .int u4_), (6, .int s2)]) dX3_judgedElse_104 rfl rfl (nle rfl) rfl ?_
        refine r_goto (pc := 107) (tgt := 17) dX3_judgedElse_107 rfl ?_
        exact r_pick (ls1 := [(0, .ref (ad g 31)), (1, .ref (ad g o1_)), (2, .int u2_), (3, .int v3_), (4, .int u4_), (5, .int (v5_ + (1 : Int32)))]) [2, 3, 4, 5, 6, 0] rfl (ih v3_ (v5_ + (1 : Int32)) hr)
      replace hr := ite_f hc hr
      refine r_iinc (pc := 101) (j := 4) (v := (v3_ + (1 : Int32))) (ls1 := [(3, .int (v3_ + (1 : Int32))), (7, .int s3), (0, .ref (ad g 31)), (1, .ref (ad g o1_)), (2, .int u2_), (4, .int u4_), (5, .int v5_), (6, .int s2)]) dX3_judgedElse_101 rfl rfl (nle rfl) rfl ?_
      refine r_iinc (pc := 104) (j := 6) (v := (v5_ + (1 : Int32))) (ls1 := [(5, .int (v5_ + (1 : Int32))), (3, .int (v3_ + (1 : Int32))), (7, .int s3), (0, .ref (ad g 31)), (1, .ref (ad g o1_)), (2, .int u2_), (4, .int u4_), (6, .int s2)]) dX3_judgedElse_104 rfl rfl (nle rfl) rfl ?_
      refine r_goto (pc := 107) (tgt := 17) dX3_judgedElse_107 rfl ?_
      exact r_pick (ls1 := [(0, .ref (ad g 31)), (1, .ref (ad g o1_)), (2, .int u2_), (3, .int (v3_ + (1 : Int32))), (4, .int u4_), (5, .int (v5_ + (1 : Int32)))]) [3, 4, 5, 1, 6, 0] rfl (ih (v3_ + (1 : Int32)) (v5_ + (1 : Int32)) hr)
    obtain ⟨j91, ej91, hr⟩ := vth_ex hr
    have hj91 : j91 () = some r → RR g mX3_judgedElse (FinR g mX3_judgedElse (some (.int r)) NF σ_) zF 91 [(0, .ref (ad g 31)), (1, .ref (ad g o1_)), (2, .int u2_), (3, .int v3_), (4, .int u4_), (5, .int v5_), (6, .int s2)] [] σ_ := by
      intro  hr
      replace hr := (congrFun ej91 ()).symm.trans hr
      refine r_iconst (pc := 91) (v := (0 : Int32)) dX3_judgedElse_91 rfl ?_
      exact r_pick (ls1 := [(0, .ref (ad g 31)), (1, .ref (ad g o1_)), (2, .int u2_), (3, .int v3_), (4, .int u4_), (5, .int v5_), (6, .int s2)]) [0, 1, 2, 3, 4, 5, 6] rfl (hj92 (0 : Int32) hr)
    refine r_if_le (pc := 53) (tgt := 91) dX3_judgedElse_53 rfl (fun hc => ?_) (fun hc => ?_)
    · replace hr := ite_t hc hr
      exact r_pick (ls1 := [(0, .ref (ad g 31)), (1, .ref (ad g o1_)), (2, .int u2_), (3, .int v3_), (4, .int u4_), (5, .int v5_), (6, .int s2)]) [1, 2, 3, 4, 5, 6, 0] rfl (hj91  hr)
    replace hr := ite_f hc hr
    refine r_aload_n (pc := 56) (j := 1) dX3_judgedElse_56 rfl rfl ?_
    refine gf3_4 (pc := 57) tw_2_30 hw_ dX3_judgedElse_57 ?_
    refine r_aload_n (pc := 60) (j := 2) dX3_judgedElse_60 rfl rfl ?_
    refine gf1_8 (pc := 61) tw_1_90 hw_ hs1_ dX3_judgedElse_61 ?_
    refine r_iload (pc := 64) (j := 5) dX3_judgedElse_64 rfl ?_
    refine x_iald (pc := 66) (k := (Int32.toNatClampNeg u4_)) (sh1_8 hs1_) h1 rfl dX3_judgedElse_66 ?_
    refine r_iload (pc := 67) (j := 6) dX3_judgedElse_67 rfl ?_
    refine r_iadd (pc := 69) dX3_judgedElse_69 ?_
    obtain ⟨h4, hr⟩ := grd_inv hr
    refine x_iald (pc := 70) (k := (Int32.toNatClampNeg ((gI σ_ (o1_ + 2) (Int32.toNatClampNeg u4_)) + v5_))) rfl h4 rfl dX3_judgedElse_70 ?_
    refine r_aload_n (pc := 71) (j := 1) dX3_judgedElse_71 rfl rfl ?_
    refine gf3_4 (pc := 72) tw_2_30 hw_ dX3_judgedElse_72 ?_
    refine r_aload_n (pc := 75) (j := 1) dX3_judgedElse_75 rfl rfl ?_
    refine gf3_5 (pc := 76) tw_2_32 hw_ dX3_judgedElse_76 ?_
    refine r_iload_n (pc := 79) (j := 3) dX3_judgedElse_79 rfl rfl ?_
    refine r_iconst (pc := 80) (v := (1 : Int32)) dX3_judgedElse_80 rfl ?_
    refine r_isub (pc := 81) dX3_judgedElse_81 ?_
    obtain ⟨h5, hr⟩ := grd_inv hr
    refine x_iald (pc := 82) (k := (Int32.toNatClampNeg (u2_ - (1 : Int32)))) rfl h5 rfl dX3_judgedElse_82 ?_
    obtain ⟨h6, hr⟩ := grd_inv hr
    refine x_iald (pc := 83) (k := (Int32.toNatClampNeg (gI σ_ 52 (Int32.toNatClampNeg (u2_ - (1 : Int32)))))) rfl h6 rfl dX3_judgedElse_83 ?_
    refine r_icmp_lt (pc := 84) (tgt := 91) dX3_judgedElse_84 rfl (fun hc => ?_) (fun hc => ?_)
    · replace hr := ite_t hc hr
      exact r_pick (ls1 := [(0, .ref (ad g 31)), (1, .ref (ad g o1_)), (2, .int u2_), (3, .int v3_), (4, .int u4_), (5, .int v5_), (6, .int s2)]) [1, 2, 3, 4, 5, 6, 0] rfl (hj91  hr)
    replace hr := ite_f hc hr
    refine r_iconst (pc := 87) (v := (1 : Int32)) dX3_judgedElse_87 rfl ?_
    refine r_goto (pc := 88) (tgt := 92) dX3_judgedElse_88 rfl ?_
    exact r_pick (ls1 := [(0, .ref (ad g 31)), (1, .ref (ad g o1_)), (2, .int u2_), (3, .int v3_), (4, .int u4_), (5, .int v5_), (6, .int s2)]) [1, 2, 3, 4, 5, 6, 0] rfl (hj92 (1 : Int32) hr)
  refine r_icmp_ne (pc := 42) (tgt := 49) dX3_judgedElse_42 rfl (fun hc => ?_) (fun hc => ?_)
  · replace hr := ite_f hc hr
    refine r_iconst (pc := 49) (v := (0 : Int32)) dX3_judgedElse_49 rfl ?_
    exact r_pick (ls1 := [(0, .ref (ad g 31)), (1, .ref (ad g o1_)), (2, .int u2_), (3, .int v3_), (4, .int u4_), (5, .int v5_)]) [0, 1, 2, 3, 4, 5] rfl (hj50 (0 : Int32) hr)
  replace hr := ite_t hc hr
  refine r_iconst (pc := 45) (v := (1 : Int32)) dX3_judgedElse_45 rfl ?_
  refine r_goto (pc := 46) (tgt := 50) dX3_judgedElse_46 rfl ?_
  exact r_pick (ls1 := [(0, .ref (ad g 31)), (1, .ref (ad g o1_)), (2, .int u2_), (3, .int v3_), (4, .int u4_), (5, .int v5_)]) [0, 1, 2, 3, 4, 5] rfl (hj50 (1 : Int32) hr)

set_option maxRecDepth 20000 in
theorem sX3_judgedElse_L5 {g : GG} {r : Int32} {σ_ : SS} {σ0 : SS} {o1_ : Nat} {u2_ : Int32}  (hs1_ : shp o1_ = (1, 0))
    (hw_ : WT σ_)
    (h0_ : σ_ = σ0)
    (n : Nat) : ∀ (v3_ : Int32) (v4_ : Int32), X3_judgedElse_L5 σ_ o1_ u2_ n v3_ v4_ = some r → RR g mX3_judgedElse (FinR g mX3_judgedElse (some (.int r)) NF σ0) zF 5 [(0, .ref (ad g 31)), (1, .ref (ad g o1_)), (2, .int u2_), (3, .int v3_), (4, .int v4_)] [] σ_ := by
  unfold X3_judgedElse_L5
  refine lp_ind (P := fun (rec : Int32 → Int32 → Option Int32) => ∀ (v3_ : Int32) (v4_ : Int32), rec v3_ v4_ = some r → RR g mX3_judgedElse (FinR g mX3_judgedElse (some (.int r)) NF σ0) zF 5 [(0, .ref (ad g 31)), (1, .ref (ad g o1_)), (2, .int u2_), (3, .int v3_), (4, .int v4_)] [] σ_) ?_ ?_ n
  · intro v3_ v4_ hr; cases hr
  intro rec ih v3_ v4_ hr
  subst h0_
  refine r_iload (pc := 5) (j := 4) dX3_judgedElse_5 rfl ?_
  refine r_aload_n (pc := 7) (j := 1) dX3_judgedElse_7 rfl rfl ?_
  refine gf1_5 (pc := 8) tw_1_81 hs1_ dX3_judgedElse_8 ?_
  refine r_icmp_ge (pc := 11) (tgt := 116) dX3_judgedElse_11 rfl (fun hc => ?_) (fun hc => ?_)
  · replace hr := ite_t hc hr
    refine r_iload_n (pc := 116) (j := 3) dX3_judgedElse_116 rfl rfl ?_
    exact l_opi hr (r_iret (pc := 117) (v := v3_) rfl rfl ⟨Nat.le_refl _, Nat.le_refl _⟩ dX3_judgedElse_117)
  replace hr := ite_f hc hr
  refine r_iconst (pc := 14) (v := (0 : Int32)) dX3_judgedElse_14 rfl ?_
  refine r_istore (pc := 15) (ls1 := [(5, .int (0 : Int32)), (0, .ref (ad g 31)), (1, .ref (ad g o1_)), (2, .int u2_), (3, .int v3_), (4, .int v4_)]) dX3_judgedElse_15 (nle rfl) rfl ?_
  refine r_pick (ls1 := [(0, .ref (ad g 31)), (1, .ref (ad g o1_)), (2, .int u2_), (3, .int v3_), (4, .int v4_), (5, .int (0 : Int32))]) [1, 2, 3, 4, 5, 0] rfl ?_
  refine sX3_judgedElse_L17 hs1_ hw_ rfl (fun v7 hr => ?_) fuel v3_ (0 : Int32) hr
  refine r_iinc (pc := 110) (j := 4) (v := (v4_ + (1 : Int32))) (ls1 := [(4, .int (v4_ + (1 : Int32))), (0, .ref (ad g 31)), (1, .ref (ad g o1_)), (2, .int u2_), (3, .int v7)]) dX3_judgedElse_110 rfl rfl (nle rfl) rfl ?_
  refine r_goto (pc := 113) (tgt := 5) dX3_judgedElse_113 rfl ?_
  exact r_pick (ls1 := [(0, .ref (ad g 31)), (1, .ref (ad g o1_)), (2, .int u2_), (3, .int v7), (4, .int (v4_ + (1 : Int32)))]) [1, 2, 3, 4, 0] rfl (ih v7 (v4_ + (1 : Int32)) hr)

set_option maxRecDepth 20000 in
theorem sX3_judgedElse {g : GG} {σ0 : SS} {a1 : Nat} {a2 : Int32} {r : Int32} (hr : fX3_judgedElse σ0 a1 a2 = some r) (hs1 : shp a1 = (1, 0)) : Ct g mX3_judgedElse [.ref (ad g 31), .ref (ad g a1), .int a2] NF σ0 (some (.int r)) NF σ0 := by
  refine Ct.of (by decide +kernel) (nle rfl) fun hw0 => ?_
  have hw := hw0 rfl
  unfold fX3_judgedElse at hr
  change RR g mX3_judgedElse (FinR g mX3_judgedElse (some (.int r)) NF σ0) zF 0 [(0, .ref (ad g 31)), (1, .ref (ad g a1)), (2, .int a2)] [] σ0
  refine r_iconst (pc := 0) (v := (0 : Int32)) dX3_judgedElse_0 rfl ?_
  refine r_istore_n (pc := 1) (ls1 := [(3, .int (0 : Int32)), (0, .ref (ad g 31)), (1, .ref (ad g a1)), (2, .int a2)]) dX3_judgedElse_1 rfl (nle rfl) rfl ?_
  refine r_iconst (pc := 2) (v := (0 : Int32)) dX3_judgedElse_2 rfl ?_
  refine r_istore (pc := 3) (ls1 := [(4, .int (0 : Int32)), (3, .int (0 : Int32)), (0, .ref (ad g 31)), (1, .ref (ad g a1)), (2, .int a2)]) dX3_judgedElse_3 (nle rfl) rfl ?_
  refine r_pick (ls1 := [(0, .ref (ad g 31)), (1, .ref (ad g a1)), (2, .int a2), (3, .int (0 : Int32)), (4, .int (0 : Int32))]) [2, 3, 4, 1, 0] rfl ?_
  refine sX3_judgedElse_L5 hs1 hw rfl  fuel (0 : Int32) (0 : Int32) hr

theorem kX3_judgedElse {g : GG} {σ0 : SS} {a1 : Nat} {a2 : Int32} {v : Int32} {M : MM} {F : State → Array Value → List Frame → State → Prop} {pc index : Nat} {ls : List (Nat × Value)} {rest : List Value} (hf : fX3_judgedElse σ0 a1 a2 = some v) (hs1 : shp a1 = (1, 0)) (hl : Cond.methodLink M.1.cls index yX3_judgedElse ∈ lw_gt) (hR : mX3_judgedElse.2.2.2.2.frames + 1 ≤ M.2.2.2.2.frames ∧ 8 + (mX3_judgedElse.2.2.1 + 11) + mX3_judgedElse.2.2.2.2.locals ≤ M.2.2.2.2.locals) (hrest : (rest.map fun v => v.category).sum ≤ 8) (hd : decode M.2.1 pc = .ok (.invokevirtual index, 3)) (k : RR g M F zF (pc + 3) ls (.int v :: rest) σ0) : RR g M F zF pc ls (.int a2 :: .ref (ad g a1) :: .ref (ad g 31) :: rest) σ0 :=
  r_callV (z := zF) (N := mX3_judgedElse) (nn := 2) (o1 := some (.int v)) (sX3_judgedElse hf hs1) (rfl : shp 31 = (3, 0)) (by decide) (shp_le (rfl : shp 31 = (3, 0)) (nle rfl)) (ci := 3) rfl rfl tw_4_198 tw_1_5 hl tw_4_197 tp_31 ⟨by decide, by decide, rfl⟩ hR rfl hrest hd ⟨Nat.zero_le _, Nat.zero_le _⟩ rfl (fun h => k)

theorem dX3_partedBy_0 : decode cX3_partedBy 0 = .ok (.aload_n 0, 1) := by decide +kernel
theorem dX3_partedBy_1 : decode cX3_partedBy 1 = .ok (.iconst 0, 1) := by decide +kernel
theorem dX3_partedBy_2 : decode cX3_partedBy 2 = .ok (.aload_n 1, 1) := by decide +kernel
theorem dX3_partedBy_3 : decode cX3_partedBy 3 = .ok (.getfield 99, 3) := by decide +kernel
theorem dX3_partedBy_6 : decode cX3_partedBy 6 = .ok (.invokevirtual 157, 3) := by decide +kernel
theorem dX3_partedBy_9 : decode cX3_partedBy 9 = .ok (.iconst 0, 1) := by decide +kernel
theorem dX3_partedBy_10 : decode cX3_partedBy 10 = .ok (.istore_n 3, 1) := by decide +kernel
theorem dX3_partedBy_11 : decode cX3_partedBy 11 = .ok (.iconst 0, 1) := by decide +kernel
theorem dX3_partedBy_12 : decode cX3_partedBy 12 = .ok (.istore 4, 2) := by decide +kernel
theorem dX3_partedBy_14 : decode cX3_partedBy 14 = .ok (.iconst 0, 1) := by decide +kernel
theorem dX3_partedBy_15 : decode cX3_partedBy 15 = .ok (.istore 5, 2) := by decide +kernel
theorem dX3_partedBy_17 : decode cX3_partedBy 17 = .ok (.iload 5, 2) := by decide +kernel
theorem dX3_partedBy_19 : decode cX3_partedBy 19 = .ok (.iconst 1, 1) := by decide +kernel
theorem dX3_partedBy_20 : decode cX3_partedBy 20 = .ok (.iadd, 1) := by decide +kernel
theorem dX3_partedBy_21 : decode cX3_partedBy 21 = .ok (.aload_n 1, 1) := by decide +kernel
theorem dX3_partedBy_22 : decode cX3_partedBy 22 = .ok (.getfield 99, 3) := by decide +kernel
theorem dX3_partedBy_25 : decode cX3_partedBy 25 = .ok (.if_icmp .ge 75, 3) := by decide +kernel
theorem dX3_partedBy_28 : decode cX3_partedBy 28 = .ok (.aload_n 0, 1) := by decide +kernel
theorem dX3_partedBy_29 : decode cX3_partedBy 29 = .ok (.getfield 32, 3) := by decide +kernel
theorem dX3_partedBy_32 : decode cX3_partedBy 32 = .ok (.aload_n 0, 1) := by decide +kernel
theorem dX3_partedBy_33 : decode cX3_partedBy 33 = .ok (.getfield 35, 3) := by decide +kernel
theorem dX3_partedBy_36 : decode cX3_partedBy 36 = .ok (.iload 5, 2) := by decide +kernel
theorem dX3_partedBy_38 : decode cX3_partedBy 38 = .ok (.iaload, 1) := by decide +kernel
theorem dX3_partedBy_39 : decode cX3_partedBy 39 = .ok (.iaload, 1) := by decide +kernel
theorem dX3_partedBy_40 : decode cX3_partedBy 40 = .ok (.aload_n 0, 1) := by decide +kernel
theorem dX3_partedBy_41 : decode cX3_partedBy 41 = .ok (.getfield 32, 3) := by decide +kernel
theorem dX3_partedBy_44 : decode cX3_partedBy 44 = .ok (.aload_n 0, 1) := by decide +kernel
theorem dX3_partedBy_45 : decode cX3_partedBy 45 = .ok (.getfield 35, 3) := by decide +kernel
theorem dX3_partedBy_48 : decode cX3_partedBy 48 = .ok (.iload 5, 2) := by decide +kernel
theorem dX3_partedBy_50 : decode cX3_partedBy 50 = .ok (.iconst 1, 1) := by decide +kernel
theorem dX3_partedBy_51 : decode cX3_partedBy 51 = .ok (.iadd, 1) := by decide +kernel
theorem dX3_partedBy_52 : decode cX3_partedBy 52 = .ok (.iaload, 1) := by decide +kernel
theorem dX3_partedBy_53 : decode cX3_partedBy 53 = .ok (.iaload, 1) := by decide +kernel
theorem dX3_partedBy_54 : decode cX3_partedBy 54 = .ok (.isub, 1) := by decide +kernel
theorem dX3_partedBy_55 : decode cX3_partedBy 55 = .ok (.iload 4, 2) := by decide +kernel
theorem dX3_partedBy_57 : decode cX3_partedBy 57 = .ok (.if_icmp .le 37, 3) := by decide +kernel
theorem dX3_partedBy_60 : decode cX3_partedBy 60 = .ok (.aload_n 0, 1) := by decide +kernel
theorem dX3_partedBy_61 : decode cX3_partedBy 61 = .ok (.getfield 32, 3) := by decide +kernel
theorem dX3_partedBy_64 : decode cX3_partedBy 64 = .ok (.aload_n 0, 1) := by decide +kernel
theorem dX3_partedBy_65 : decode cX3_partedBy 65 = .ok (.getfield 35, 3) := by decide +kernel
theorem dX3_partedBy_68 : decode cX3_partedBy 68 = .ok (.iload 5, 2) := by decide +kernel
theorem dX3_partedBy_70 : decode cX3_partedBy 70 = .ok (.iaload, 1) := by decide +kernel
theorem dX3_partedBy_71 : decode cX3_partedBy 71 = .ok (.iaload, 1) := by decide +kernel
theorem dX3_partedBy_72 : decode cX3_partedBy 72 = .ok (.aload_n 0, 1) := by decide +kernel
theorem dX3_partedBy_73 : decode cX3_partedBy 73 = .ok (.getfield 32, 3) := by decide +kernel
theorem dX3_partedBy_76 : decode cX3_partedBy 76 = .ok (.aload_n 0, 1) := by decide +kernel
theorem dX3_partedBy_77 : decode cX3_partedBy 77 = .ok (.getfield 35, 3) := by decide +kernel
theorem dX3_partedBy_80 : decode cX3_partedBy 80 = .ok (.iload 5, 2) := by decide +kernel
theorem dX3_partedBy_82 : decode cX3_partedBy 82 = .ok (.iconst 1, 1) := by decide +kernel
theorem dX3_partedBy_83 : decode cX3_partedBy 83 = .ok (.iadd, 1) := by decide +kernel
theorem dX3_partedBy_84 : decode cX3_partedBy 84 = .ok (.iaload, 1) := by decide +kernel
theorem dX3_partedBy_85 : decode cX3_partedBy 85 = .ok (.iaload, 1) := by decide +kernel
theorem dX3_partedBy_86 : decode cX3_partedBy 86 = .ok (.isub, 1) := by decide +kernel
theorem dX3_partedBy_87 : decode cX3_partedBy 87 = .ok (.istore 4, 2) := by decide +kernel
theorem dX3_partedBy_89 : decode cX3_partedBy 89 = .ok (.iload 5, 2) := by decide +kernel
theorem dX3_partedBy_91 : decode cX3_partedBy 91 = .ok (.iconst 1, 1) := by decide +kernel
theorem dX3_partedBy_92 : decode cX3_partedBy 92 = .ok (.iadd, 1) := by decide +kernel
theorem dX3_partedBy_93 : decode cX3_partedBy 93 = .ok (.istore_n 3, 1) := by decide +kernel
theorem dX3_partedBy_94 : decode cX3_partedBy 94 = .ok (.iinc 5 1, 3) := by decide +kernel
theorem dX3_partedBy_97 : decode cX3_partedBy 97 = .ok (.goto (-80), 3) := by decide +kernel
theorem dX3_partedBy_100 : decode cX3_partedBy 100 = .ok (.iload_n 2, 1) := by decide +kernel
theorem dX3_partedBy_101 : decode cX3_partedBy 101 = .ok (.ifCond .ne 6, 3) := by decide +kernel
theorem dX3_partedBy_104 : decode cX3_partedBy 104 = .ok (.iload 4, 2) := by decide +kernel
theorem dX3_partedBy_106 : decode cX3_partedBy 106 = .ok (.ireturn, 1) := by decide +kernel
theorem dX3_partedBy_107 : decode cX3_partedBy 107 = .ok (.iload_n 2, 1) := by decide +kernel
theorem dX3_partedBy_108 : decode cX3_partedBy 108 = .ok (.iconst 1, 1) := by decide +kernel
theorem dX3_partedBy_109 : decode cX3_partedBy 109 = .ok (.if_icmp .ne 7, 3) := by decide +kernel
theorem dX3_partedBy_112 : decode cX3_partedBy 112 = .ok (.iload_n 3, 1) := by decide +kernel
theorem dX3_partedBy_113 : decode cX3_partedBy 113 = .ok (.goto 9, 3) := by decide +kernel
theorem dX3_partedBy_116 : decode cX3_partedBy 116 = .ok (.aload_n 0, 1) := by decide +kernel
theorem dX3_partedBy_117 : decode cX3_partedBy 117 = .ok (.aload_n 1, 1) := by decide +kernel
theorem dX3_partedBy_118 : decode cX3_partedBy 118 = .ok (.iload_n 3, 1) := by decide +kernel
theorem dX3_partedBy_119 : decode cX3_partedBy 119 = .ok (.invokevirtual 176, 3) := by decide +kernel
theorem dX3_partedBy_122 : decode cX3_partedBy 122 = .ok (.ireturn, 1) := by decide +kernel
def mX3_partedBy : MM := (yX3_partedBy, cX3_partedBy, 6, Option.some Jvm.ClassFile.FieldType.int, { frames := 1, cells := 0, slots := 0, locals := 27 })
def X3_partedBy_L17 (σ_ : SS) (o1_ : Nat) (k100 : Int32 → Int32 → Option (Int32 × SS)) : Nat → Int32 → Int32 → Int32 → Option (Int32 × SS) :=
  lp (fun _ _ _ => none) fun rec v3_ v4_ v5_ =>
    if (gI σ_ o1_ 6) ≤ (v5_ + (1 : Int32)) then (
      k100 v3_ v4_
      ) else (
      grd (inb v5_ 72) <|
      grd (inb (gI σ_ 52 (Int32.toNatClampNeg v5_)) 72) <|
      grd (inb (v5_ + (1 : Int32)) 72) <|
      grd (inb (gI σ_ 52 (Int32.toNatClampNeg (v5_ + (1 : Int32)))) 72) <|
      if ((gI σ_ 51 (Int32.toNatClampNeg (gI σ_ 52 (Int32.toNatClampNeg v5_)))) - (gI σ_ 51 (Int32.toNatClampNeg (gI σ_ 52 (Int32.toNatClampNeg (v5_ + (1 : Int32))))))) ≤ v4_ then (
        rec v3_ v4_ (v5_ + (1 : Int32))
        ) else (
        vthen ((gI σ_ 51 (Int32.toNatClampNeg (gI σ_ 52 (Int32.toNatClampNeg v5_)))) - (gI σ_ 51 (Int32.toNatClampNeg (gI σ_ 52 (Int32.toNatClampNeg (v5_ + (1 : Int32))))))) fun v6 =>
        vthen (v5_ + (1 : Int32)) fun v7 =>
        rec v7 v6 (v5_ + (1 : Int32))
        )
      )

def fX3_partedBy (σ : SS) (a1 : Nat) (a2 : Int32) : Option (Int32 × SS) :=
  bnd1 (fX3_sortByDark σ (0 : Int32) (gI σ a1 6)) fun σ1 =>
  X3_partedBy_L17 σ1 a1
  (fun v8 v9 =>
    if a2 = 0 then (
      some (v9, σ1)
      ) else (
      if a2 = (1 : Int32) then (
        some (v8, σ1)
        ) else (
        bnd1 (fX3_judgedElse σ1 a1 v8) fun v10 =>
        some (v10, σ1)
        )
      )
    )
  fuel (0 : Int32) (0 : Int32) (0 : Int32)

set_option maxRecDepth 20000 in
theorem sX3_partedBy_L17 {g : GG} {r : Int32 × SS} {σ_ : SS} {o1_ : Nat} {x2_ : Int32} {k100 : Int32 → Int32 → Option (Int32 × SS)} (hs1_ : shp o1_ = (1, 0))
    (hw_ : WT σ_)
    (hk100 : ∀ (y3 : Int32) (y4 : Int32), k100 y3 y4 = some r → RR g mX3_partedBy (FinR g mX3_partedBy (some (.int r.1)) NF r.2) zF 100 [(0, .ref (ad g 31)), (1, .ref (ad g o1_)), (2, .int x2_), (3, .int y3), (4, .int y4)] [] σ_)
    (n : Nat) : ∀ (v3_ : Int32) (v4_ : Int32) (v5_ : Int32), X3_partedBy_L17 σ_ o1_ k100 n v3_ v4_ v5_ = some r → RR g mX3_partedBy (FinR g mX3_partedBy (some (.int r.1)) NF r.2) zF 17 [(0, .ref (ad g 31)), (1, .ref (ad g o1_)), (2, .int x2_), (3, .int v3_), (4, .int v4_), (5, .int v5_)] [] σ_ := by
  unfold X3_partedBy_L17
  refine lp_ind (P := fun (rec : Int32 → Int32 → Int32 → Option (Int32 × SS)) => ∀ (v3_ : Int32) (v4_ : Int32) (v5_ : Int32), rec v3_ v4_ v5_ = some r → RR g mX3_partedBy (FinR g mX3_partedBy (some (.int r.1)) NF r.2) zF 17 [(0, .ref (ad g 31)), (1, .ref (ad g o1_)), (2, .int x2_), (3, .int v3_), (4, .int v4_), (5, .int v5_)] [] σ_) ?_ ?_ n
  · intro v3_ v4_ v5_ hr; cases hr
  intro rec ih v3_ v4_ v5_ hr
  refine r_iload (pc := 17) (j := 5) dX3_partedBy_17 rfl ?_
  refine r_iconst (pc := 19) (v := (1 : Int32)) dX3_partedBy_19 rfl ?_
  refine r_iadd (pc := 20) dX3_partedBy_20 ?_
  refine r_aload_n (pc := 21) (j := 1) dX3_partedBy_21 rfl rfl ?_
  refine gf1_6 (pc := 22) tw_1_83 hs1_ dX3_partedBy_22 ?_
  refine r_icmp_ge (pc := 25) (tgt := 100) dX3_partedBy_25 rfl (fun hc => ?_) (fun hc => ?_)
  · replace hr := ite_t hc hr
    exact r_pick (ls1 := [(0, .ref (ad g 31)), (1, .ref (ad g o1_)), (2, .int x2_), (3, .int v3_), (4, .int v4_)]) [0, 1, 2, 3, 4] rfl (hk100 v3_ v4_ hr)
  replace hr := ite_f hc hr
  refine r_aload_n (pc := 28) (j := 0) dX3_partedBy_28 rfl rfl ?_
  refine gf3_4 (pc := 29) tw_2_30 hw_ dX3_partedBy_29 ?_
  refine r_aload_n (pc := 32) (j := 0) dX3_partedBy_32 rfl rfl ?_
  refine gf3_5 (pc := 33) tw_2_32 hw_ dX3_partedBy_33 ?_
  refine r_iload (pc := 36) (j := 5) dX3_partedBy_36 rfl ?_
  obtain ⟨h2, hr⟩ := grd_inv hr
  refine x_iald (pc := 38) (k := (Int32.toNatClampNeg v5_)) rfl h2 rfl dX3_partedBy_38 ?_
  obtain ⟨h3, hr⟩ := grd_inv hr
  refine x_iald (pc := 39) (k := (Int32.toNatClampNeg (gI σ_ 52 (Int32.toNatClampNeg v5_)))) rfl h3 rfl dX3_partedBy_39 ?_
  refine r_aload_n (pc := 40) (j := 0) dX3_partedBy_40 rfl rfl ?_
  refine gf3_4 (pc := 41) tw_2_30 hw_ dX3_partedBy_41 ?_
  refine r_aload_n (pc := 44) (j := 0) dX3_partedBy_44 rfl rfl ?_
  refine gf3_5 (pc := 45) tw_2_32 hw_ dX3_partedBy_45 ?_
  refine r_iload (pc := 48) (j := 5) dX3_partedBy_48 rfl ?_
  refine r_iconst (pc := 50) (v := (1 : Int32)) dX3_partedBy_50 rfl ?_
  refine r_iadd (pc := 51) dX3_partedBy_51 ?_
  obtain ⟨h4, hr⟩ := grd_inv hr
  refine x_iald (pc := 52) (k := (Int32.toNatClampNeg (v5_ + (1 : Int32)))) rfl h4 rfl dX3_partedBy_52 ?_
  obtain ⟨h5, hr⟩ := grd_inv hr
  refine x_iald (pc := 53) (k := (Int32.toNatClampNeg (gI σ_ 52 (Int32.toNatClampNeg (v5_ + (1 : Int32)))))) rfl h5 rfl dX3_partedBy_53 ?_
  refine r_isub (pc := 54) dX3_partedBy_54 ?_
  refine r_iload (pc := 55) (j := 4) dX3_partedBy_55 rfl ?_
  refine r_icmp_le (pc := 57) (tgt := 94) dX3_partedBy_57 rfl (fun hc => ?_) (fun hc => ?_)
  · replace hr := ite_t hc hr
    refine r_iinc (pc := 94) (j := 5) (v := (v5_ + (1 : Int32))) (ls1 := [(5, .int (v5_ + (1 : Int32))), (0, .ref (ad g 31)), (1, .ref (ad g o1_)), (2, .int x2_), (3, .int v3_), (4, .int v4_)]) dX3_partedBy_94 rfl rfl (nle rfl) rfl ?_
    refine r_goto (pc := 97) (tgt := 17) dX3_partedBy_97 rfl ?_
    exact r_pick (ls1 := [(0, .ref (ad g 31)), (1, .ref (ad g o1_)), (2, .int x2_), (3, .int v3_), (4, .int v4_), (5, .int (v5_ + (1 : Int32)))]) [1, 2, 3, 4, 5, 0] rfl (ih v3_ v4_ (v5_ + (1 : Int32)) hr)
  replace hr := ite_f hc hr
  refine r_aload_n (pc := 60) (j := 0) dX3_partedBy_60 rfl rfl ?_
  refine gf3_4 (pc := 61) tw_2_30 hw_ dX3_partedBy_61 ?_
  refine r_aload_n (pc := 64) (j := 0) dX3_partedBy_64 rfl rfl ?_
  refine gf3_5 (pc := 65) tw_2_32 hw_ dX3_partedBy_65 ?_
  refine r_iload (pc := 68) (j := 5) dX3_partedBy_68 rfl ?_
  refine x_iald (pc := 70) (k := (Int32.toNatClampNeg v5_)) rfl h2 rfl dX3_partedBy_70 ?_
  refine x_iald (pc := 71) (k := (Int32.toNatClampNeg (gI σ_ 52 (Int32.toNatClampNeg v5_)))) rfl h3 rfl dX3_partedBy_71 ?_
  refine r_aload_n (pc := 72) (j := 0) dX3_partedBy_72 rfl rfl ?_
  refine gf3_4 (pc := 73) tw_2_30 hw_ dX3_partedBy_73 ?_
  refine r_aload_n (pc := 76) (j := 0) dX3_partedBy_76 rfl rfl ?_
  refine gf3_5 (pc := 77) tw_2_32 hw_ dX3_partedBy_77 ?_
  refine r_iload (pc := 80) (j := 5) dX3_partedBy_80 rfl ?_
  refine r_iconst (pc := 82) (v := (1 : Int32)) dX3_partedBy_82 rfl ?_
  refine r_iadd (pc := 83) dX3_partedBy_83 ?_
  refine x_iald (pc := 84) (k := (Int32.toNatClampNeg (v5_ + (1 : Int32)))) rfl h4 rfl dX3_partedBy_84 ?_
  refine x_iald (pc := 85) (k := (Int32.toNatClampNeg (gI σ_ 52 (Int32.toNatClampNeg (v5_ + (1 : Int32)))))) rfl h5 rfl dX3_partedBy_85 ?_
  refine r_isub (pc := 86) dX3_partedBy_86 ?_
  refine r_topi fun v6 ev6 => ?_
  replace hr := vthen_inv hr v6 ev6
  refine r_istore (pc := 87) (ls1 := [(4, .int v6), (0, .ref (ad g 31)), (1, .ref (ad g o1_)), (2, .int x2_), (3, .int v3_), (5, .int v5_)]) dX3_partedBy_87 (nle rfl) rfl ?_
  refine r_iload (pc := 89) (j := 5) dX3_partedBy_89 rfl ?_
  refine r_iconst (pc := 91) (v := (1 : Int32)) dX3_partedBy_91 rfl ?_
  refine r_iadd (pc := 92) dX3_partedBy_92 ?_
  refine r_topi fun v7 ev7 => ?_
  replace hr := vthen_inv hr v7 ev7
  refine r_istore_n (pc := 93) (ls1 := [(3, .int v7), (4, .int v6), (0, .ref (ad g 31)), (1, .ref (ad g o1_)), (2, .int x2_), (5, .int v5_)]) dX3_partedBy_93 rfl (nle rfl) rfl ?_
  refine r_iinc (pc := 94) (j := 5) (v := (v5_ + (1 : Int32))) (ls1 := [(5, .int (v5_ + (1 : Int32))), (3, .int v7), (4, .int v6), (0, .ref (ad g 31)), (1, .ref (ad g o1_)), (2, .int x2_)]) dX3_partedBy_94 rfl rfl (nle rfl) rfl ?_
  refine r_goto (pc := 97) (tgt := 17) dX3_partedBy_97 rfl ?_
  exact r_pick (ls1 := [(0, .ref (ad g 31)), (1, .ref (ad g o1_)), (2, .int x2_), (3, .int v7), (4, .int v6), (5, .int (v5_ + (1 : Int32)))]) [3, 4, 5, 1, 2, 0] rfl (ih v7 v6 (v5_ + (1 : Int32)) hr)

set_option maxRecDepth 20000 in
theorem sX3_partedBy {g : GG} {σ : SS} {a1 : Nat} {a2 : Int32} {r : Int32 × SS} (hr : fX3_partedBy σ a1 a2 = some r) (hs1 : shp a1 = (1, 0)) : Ct g mX3_partedBy [.ref (ad g 31), .ref (ad g a1), .int a2] NF σ (some (.int r.1)) NF r.2 := by
  refine Ct.of (by decide +kernel) (nle rfl) fun hw0 => ?_
  have hw := hw0 rfl
  unfold fX3_partedBy at hr
  change RR g mX3_partedBy (FinR g mX3_partedBy (some (.int r.1)) NF r.2) zF 0 [(0, .ref (ad g 31)), (1, .ref (ad g a1)), (2, .int a2)] [] σ
  refine r_aload_n (pc := 0) (j := 0) dX3_partedBy_0 rfl rfl ?_
  refine r_iconst (pc := 1) (v := (0 : Int32)) dX3_partedBy_1 rfl ?_
  refine r_aload_n (pc := 2) (j := 1) dX3_partedBy_2 rfl rfl ?_
  refine gf1_6 (pc := 3) tw_1_83 hs1 dX3_partedBy_3 ?_
  obtain ⟨σ1, eσ1, hr⟩ := bnd1_inv hr
  refine kX3_sortByDark (pc := 6) eσ1 tw_4_144 ⟨nle rfl, nle rfl⟩ (nle rfl) dX3_partedBy_6 fun hσ1 => ?_
  refine r_iconst (pc := 9) (v := (0 : Int32)) dX3_partedBy_9 rfl ?_
  refine r_istore_n (pc := 10) (ls1 := [(3, .int (0 : Int32)), (0, .ref (ad g 31)), (1, .ref (ad g a1)), (2, .int a2)]) dX3_partedBy_10 rfl (nle rfl) rfl ?_
  refine r_iconst (pc := 11) (v := (0 : Int32)) dX3_partedBy_11 rfl ?_
  refine r_istore (pc := 12) (ls1 := [(4, .int (0 : Int32)), (3, .int (0 : Int32)), (0, .ref (ad g 31)), (1, .ref (ad g a1)), (2, .int a2)]) dX3_partedBy_12 (nle rfl) rfl ?_
  refine r_iconst (pc := 14) (v := (0 : Int32)) dX3_partedBy_14 rfl ?_
  refine r_istore (pc := 15) (ls1 := [(5, .int (0 : Int32)), (4, .int (0 : Int32)), (3, .int (0 : Int32)), (0, .ref (ad g 31)), (1, .ref (ad g a1)), (2, .int a2)]) dX3_partedBy_15 (nle rfl) rfl ?_
  refine r_pick (ls1 := [(0, .ref (ad g 31)), (1, .ref (ad g a1)), (2, .int a2), (3, .int (0 : Int32)), (4, .int (0 : Int32)), (5, .int (0 : Int32))]) [3, 4, 5, 2, 1, 0] rfl ?_
  refine sX3_partedBy_L17 hs1 hσ1  (fun v8 v9 hr => ?_) fuel (0 : Int32) (0 : Int32) (0 : Int32) hr
  refine r_iload_n (pc := 100) (j := 2) dX3_partedBy_100 rfl rfl ?_
  refine r_if_ne (pc := 101) (tgt := 107) dX3_partedBy_101 rfl (fun hc => ?_) (fun hc => ?_)
  · replace hr := ite_f hc hr
    refine r_iload_n (pc := 107) (j := 2) dX3_partedBy_107 rfl rfl ?_
    refine r_iconst (pc := 108) (v := (1 : Int32)) dX3_partedBy_108 rfl ?_
    refine r_icmp_ne (pc := 109) (tgt := 116) dX3_partedBy_109 rfl (fun hc => ?_) (fun hc => ?_)
    · replace hr := ite_f hc hr
      refine r_aload_n (pc := 116) (j := 0) dX3_partedBy_116 rfl rfl ?_
      refine r_aload_n (pc := 117) (j := 1) dX3_partedBy_117 rfl rfl ?_
      refine r_iload_n (pc := 118) (j := 3) dX3_partedBy_118 rfl rfl ?_
      obtain ⟨v10, hv10, hr⟩ := bnd1_inv hr
      refine kX3_judgedElse (pc := 119) hv10 hs1 tw_4_195 ⟨nle rfl, nle rfl⟩ (nle rfl) dX3_partedBy_119 ?_
      exact l_osi hr (r_iret (pc := 122) (v := v10) rfl rfl ⟨Nat.le_refl _, Nat.le_refl _⟩ dX3_partedBy_122)
    replace hr := ite_t hc hr
    refine r_iload_n (pc := 112) (j := 3) dX3_partedBy_112 rfl rfl ?_
    refine r_goto (pc := 113) (tgt := 122) dX3_partedBy_113 rfl ?_
    exact l_osi hr (r_iret (pc := 122) (v := v8) rfl rfl ⟨Nat.le_refl _, Nat.le_refl _⟩ dX3_partedBy_122)
  replace hr := ite_t hc hr
  refine r_iload (pc := 104) (j := 4) dX3_partedBy_104 rfl ?_
  exact l_osi hr (r_iret (pc := 106) (v := v9) rfl rfl ⟨Nat.le_refl _, Nat.le_refl _⟩ dX3_partedBy_106)

theorem kX3_partedBy {g : GG} {σ : SS} {a1 : Nat} {a2 : Int32} {v : Int32} {σ2 : SS} {M : MM} {F : State → Array Value → List Frame → State → Prop} {pc index : Nat} {ls : List (Nat × Value)} {rest : List Value} (hf : fX3_partedBy σ a1 a2 = some (v, σ2)) (hs1 : shp a1 = (1, 0)) (hl : Cond.methodLink M.1.cls index yX3_partedBy ∈ lw_gt) (hR : mX3_partedBy.2.2.2.2.frames + 1 ≤ M.2.2.2.2.frames ∧ 8 + (mX3_partedBy.2.2.1 + 11) + mX3_partedBy.2.2.2.2.locals ≤ M.2.2.2.2.locals) (hrest : (rest.map fun v => v.category).sum ≤ 8) (hd : decode M.2.1 pc = .ok (.invokevirtual index, 3)) (k : WT σ2 → RR g M F zF (pc + 3) ls (.int v :: rest) σ2) : RR g M F zF pc ls (.int a2 :: .ref (ad g a1) :: .ref (ad g 31) :: rest) σ :=
  r_callV (z := zF) (N := mX3_partedBy) (nn := 2) (o1 := some (.int v)) (sX3_partedBy hf hs1) (rfl : shp 31 = (3, 0)) (by decide) (shp_le (rfl : shp 31 = (3, 0)) (nle rfl)) (ci := 3) rfl rfl tw_4_194 tw_1_5 hl tw_4_192 tw_4_193 ⟨by decide, by decide, rfl⟩ hR rfl hrest hd ⟨Nat.zero_le _, Nat.zero_le _⟩ rfl (fun h => k (h rfl))

theorem dX7_apart_0 : decode cX7_apart 0 = .ok (.aload_n 0, 1) := by decide +kernel
theorem dX7_apart_1 : decode cX7_apart 1 = .ok (.getfield 32, 3) := by decide +kernel
theorem dX7_apart_4 : decode cX7_apart 4 = .ok (.getfield 274, 3) := by decide +kernel
theorem dX7_apart_7 : decode cX7_apart 7 = .ok (.ifCond .eq 12, 3) := by decide +kernel
theorem dX7_apart_10 : decode cX7_apart 10 = .ok (.iload_n 1, 1) := by decide +kernel
theorem dX7_apart_11 : decode cX7_apart 11 = .ok (.ifCond .lt 8, 3) := by decide +kernel
theorem dX7_apart_14 : decode cX7_apart 14 = .ok (.iload_n 1, 1) := by decide +kernel
theorem dX7_apart_15 : decode cX7_apart 15 = .ok (.iconst 2, 1) := by decide +kernel
theorem dX7_apart_16 : decode cX7_apart 16 = .ok (.if_icmp .le 5, 3) := by decide +kernel
theorem dX7_apart_19 : decode cX7_apart 19 = .ok (.iconst (-1), 1) := by decide +kernel
theorem dX7_apart_20 : decode cX7_apart 20 = .ok (.ireturn, 1) := by decide +kernel
theorem dX7_apart_21 : decode cX7_apart 21 = .ok (.aload_n 0, 1) := by decide +kernel
theorem dX7_apart_22 : decode cX7_apart 22 = .ok (.getfield 62, 3) := by decide +kernel
theorem dX7_apart_25 : decode cX7_apart 25 = .ok (.aload_n 0, 1) := by decide +kernel
theorem dX7_apart_26 : decode cX7_apart 26 = .ok (.getfield 18, 3) := by decide +kernel
theorem dX7_apart_29 : decode cX7_apart 29 = .ok (.aload_n 0, 1) := by decide +kernel
theorem dX7_apart_30 : decode cX7_apart 30 = .ok (.getfield 32, 3) := by decide +kernel
theorem dX7_apart_33 : decode cX7_apart 33 = .ok (.invokevirtual 303, 3) := by decide +kernel
theorem dX7_apart_36 : decode cX7_apart 36 = .ok (.ifCond .ne 6, 3) := by decide +kernel
theorem dX7_apart_39 : decode cX7_apart 39 = .ok (.bipush (-2), 2) := by decide +kernel
theorem dX7_apart_41 : decode cX7_apart 41 = .ok (.ireturn, 1) := by decide +kernel
theorem dX7_apart_42 : decode cX7_apart 42 = .ok (.aload_n 0, 1) := by decide +kernel
theorem dX7_apart_43 : decode cX7_apart 43 = .ok (.getfield 62, 3) := by decide +kernel
theorem dX7_apart_46 : decode cX7_apart 46 = .ok (.aload_n 0, 1) := by decide +kernel
theorem dX7_apart_47 : decode cX7_apart 47 = .ok (.getfield 32, 3) := by decide +kernel
theorem dX7_apart_50 : decode cX7_apart 50 = .ok (.iload_n 1, 1) := by decide +kernel
theorem dX7_apart_51 : decode cX7_apart 51 = .ok (.invokevirtual 338, 3) := by decide +kernel
theorem dX7_apart_54 : decode cX7_apart 54 = .ok (.ireturn, 1) := by decide +kernel
def mX7_apart : MM := (yX7_apart, cX7_apart, 2, Option.some Jvm.ClassFile.FieldType.int, { frames := 6, cells := 0, slots := 0, locals := 148 })
def fX7_apart (σ : SS) (a1 : Int32) : Option (Int32 × SS) :=
  if (gI σ (gR σ 1 5) 0) = 0 then (
    some ((-1 : Int32), σ)
    ) else (
    if a1 < 0 then (
      some ((-1 : Int32), σ)
      ) else (
      if a1 ≤ (2 : Int32) then (
        bnd (fX3_read σ (gR σ 1 2) (gR σ 1 5)) fun b2 σ4 =>
        if b2 = true then (
          bnd (fX3_partedBy σ4 (gR σ4 1 5) a1) fun v5 σ8 =>
          some (v5, σ8)
          ) else (
          some ((-2 : Int32), σ4)
          )
        ) else (
        some ((-1 : Int32), σ)
        )
      )
    )

set_option maxRecDepth 20000 in
theorem sX7_apart {g : GG} {σ : SS} {a1 : Int32} {r : Int32 × SS} (hr : fX7_apart σ a1 = some r)  : Ct g mX7_apart [.ref (ad g 1), .int a1] NF σ (some (.int r.1)) NF r.2 := by
  refine Ct.of (by decide +kernel) (nle rfl) fun hw0 => ?_
  have hw := hw0 rfl
  unfold fX7_apart at hr
  change RR g mX7_apart (FinR g mX7_apart (some (.int r.1)) NF r.2) zF 0 [(0, .ref (ad g 1)), (1, .int a1)] [] σ
  refine r_aload_n (pc := 0) (j := 0) dX7_apart_0 rfl rfl ?_
  refine gf7_5 (pc := 1) tw_2_114 hw dX7_apart_1 ?_
  refine gf1_0 (pc := 4) tw_1_61 (wt_fo hw).1 dX7_apart_4 ?_
  refine r_if_eq (pc := 7) (tgt := 19) dX7_apart_7 rfl (fun hc => ?_) (fun hc => ?_)
  · replace hr := ite_t hc hr
    refine r_iconst (pc := 19) (v := (-1 : Int32)) dX7_apart_19 rfl ?_
    exact l_osi hr (r_iret (pc := 20) (v := (-1 : Int32)) rfl rfl ⟨Nat.le_refl _, Nat.le_refl _⟩ dX7_apart_20)
  replace hr := ite_f hc hr
  refine r_iload_n (pc := 10) (j := 1) dX7_apart_10 rfl rfl ?_
  refine r_if_lt (pc := 11) (tgt := 19) dX7_apart_11 rfl (fun hc => ?_) (fun hc => ?_)
  · replace hr := ite_t hc hr
    refine r_iconst (pc := 19) (v := (-1 : Int32)) dX7_apart_19 rfl ?_
    exact l_osi hr (r_iret (pc := 20) (v := (-1 : Int32)) rfl rfl ⟨Nat.le_refl _, Nat.le_refl _⟩ dX7_apart_20)
  replace hr := ite_f hc hr
  refine r_iload_n (pc := 14) (j := 1) dX7_apart_14 rfl rfl ?_
  refine r_iconst (pc := 15) (v := (2 : Int32)) dX7_apart_15 rfl ?_
  refine r_icmp_le (pc := 16) (tgt := 21) dX7_apart_16 rfl (fun hc => ?_) (fun hc => ?_)
  · replace hr := ite_t hc hr
    refine r_aload_n (pc := 21) (j := 0) dX7_apart_21 rfl rfl ?_
    refine gf7_12 (pc := 22) tw_2_121 hw dX7_apart_22 ?_
    refine r_aload_n (pc := 25) (j := 0) dX7_apart_25 rfl rfl ?_
    refine gf7_2 (pc := 26) tw_2_111 hw dX7_apart_26 ?_
    refine r_aload_n (pc := 29) (j := 0) dX7_apart_29 rfl rfl ?_
    refine gf7_5 (pc := 30) tw_2_114 hw dX7_apart_30 ?_
    obtain ⟨b2, σ4, eσ4, hr⟩ := bnd_inv hr
    refine kX3_read (pc := 33) eσ4 (wt_sc hw).1 (wt_fo hw).1 tw_4_135 ⟨nle rfl, nle rfl⟩ (nle rfl) dX7_apart_33 fun hσ4 => ?_
    refine r_ifB_ne (pc := 36) (tgt := 42) dX7_apart_36 rfl (fun hc => ?_) (fun hc => ?_)
    · replace hr := ite_t hc hr
      refine r_aload_n (pc := 42) (j := 0) dX7_apart_42 rfl rfl ?_
      refine gf7_12 (pc := 43) tw_2_121 hσ4 dX7_apart_43 ?_
      refine r_aload_n (pc := 46) (j := 0) dX7_apart_46 rfl rfl ?_
      refine gf7_5 (pc := 47) tw_2_114 hσ4 dX7_apart_47 ?_
      refine r_iload_n (pc := 50) (j := 1) dX7_apart_50 rfl rfl ?_
      obtain ⟨v5, σ8, eσ8, hr⟩ := bnd_inv hr
      refine kX3_partedBy (pc := 51) eσ8 (wt_fo hσ4).1 tw_4_191 ⟨nle rfl, nle rfl⟩ (nle rfl) dX7_apart_51 fun hσ8 => ?_
      exact l_osi hr (r_iret (pc := 54) (v := v5) rfl rfl ⟨Nat.le_refl _, Nat.le_refl _⟩ dX7_apart_54)
    replace hr := ite_f hc hr
    refine r_bipush (pc := 39) (v := (-2 : Int32)) dX7_apart_39 rfl ?_
    exact l_osi hr (r_iret (pc := 41) (v := (-2 : Int32)) rfl rfl ⟨Nat.le_refl _, Nat.le_refl _⟩ dX7_apart_41)
  replace hr := ite_f hc hr
  refine r_iconst (pc := 19) (v := (-1 : Int32)) dX7_apart_19 rfl ?_
  exact l_osi hr (r_iret (pc := 20) (v := (-1 : Int32)) rfl rfl ⟨Nat.le_refl _, Nat.le_refl _⟩ dX7_apart_20)

theorem kX7_apart {g : GG} {σ : SS} {a1 : Int32} {v : Int32} {σ2 : SS} {M : MM} {F : State → Array Value → List Frame → State → Prop} {pc index : Nat} {ls : List (Nat × Value)} {rest : List Value} (hf : fX7_apart σ a1 = some (v, σ2))  (hl : Cond.methodLink M.1.cls index yX7_apart ∈ lw_gt) (hR : mX7_apart.2.2.2.2.frames + 1 ≤ M.2.2.2.2.frames ∧ 8 + (mX7_apart.2.2.1 + 11) + mX7_apart.2.2.2.2.locals ≤ M.2.2.2.2.locals) (hrest : (rest.map fun v => v.category).sum ≤ 8) (hd : decode M.2.1 pc = .ok (.invokevirtual index, 3)) (k : WT σ2 → RR g M F zF (pc + 3) ls (.int v :: rest) σ2) : RR g M F zF pc ls (.int a1 :: .ref (ad g 1) :: rest) σ :=
  r_callV (z := zF) (N := mX7_apart) (nn := 1) (o1 := some (.int v)) (sX7_apart hf ) (rfl : shp 1 = (7, 0)) (by decide) (shp_le (rfl : shp 1 = (7, 0)) (nle rfl)) (ci := 7) rfl rfl tw_4_190 tw_1_1 hl tw_4_188 tw_4_189 ⟨by decide, by decide, rfl⟩ hR rfl hrest hd ⟨Nat.zero_le _, Nat.zero_le _⟩ rfl (fun h => k (h rfl))

theorem dX8_apart_0 : decode cX8_apart 0 = .ok (.aload_n 0, 1) := by decide +kernel
theorem dX8_apart_1 : decode cX8_apart 1 = .ok (.getfield 202, 3) := by decide +kernel
theorem dX8_apart_4 : decode cX8_apart 4 = .ok (.ifCond .eq 12, 3) := by decide +kernel
theorem dX8_apart_7 : decode cX8_apart 7 = .ok (.iload_n 1, 1) := by decide +kernel
theorem dX8_apart_8 : decode cX8_apart 8 = .ok (.iconst 0, 1) := by decide +kernel
theorem dX8_apart_9 : decode cX8_apart 9 = .ok (.iconst 2, 1) := by decide +kernel
theorem dX8_apart_10 : decode cX8_apart 10 = .ok (.invokestatic 165, 3) := by decide +kernel
theorem dX8_apart_13 : decode cX8_apart 13 = .ok (.ifCond .ne 5, 3) := by decide +kernel
theorem dX8_apart_16 : decode cX8_apart 16 = .ok (.iconst (-1), 1) := by decide +kernel
theorem dX8_apart_17 : decode cX8_apart 17 = .ok (.ireturn, 1) := by decide +kernel
theorem dX8_apart_18 : decode cX8_apart 18 = .ok (.aload_n 0, 1) := by decide +kernel
theorem dX8_apart_19 : decode cX8_apart 19 = .ok (.invokevirtual 373, 3) := by decide +kernel
theorem dX8_apart_22 : decode cX8_apart 22 = .ok (.ifCond .ne 6, 3) := by decide +kernel
theorem dX8_apart_25 : decode cX8_apart 25 = .ok (.bipush (-2), 2) := by decide +kernel
theorem dX8_apart_27 : decode cX8_apart 27 = .ok (.ireturn, 1) := by decide +kernel
theorem dX8_apart_28 : decode cX8_apart 28 = .ok (.iconst 0, 1) := by decide +kernel
theorem dX8_apart_29 : decode cX8_apart 29 = .ok (.istore_n 2, 1) := by decide +kernel
theorem dX8_apart_30 : decode cX8_apart 30 = .ok (.iconst 0, 1) := by decide +kernel
theorem dX8_apart_31 : decode cX8_apart 31 = .ok (.istore_n 3, 1) := by decide +kernel
theorem dX8_apart_32 : decode cX8_apart 32 = .ok (.iload_n 3, 1) := by decide +kernel
theorem dX8_apart_33 : decode cX8_apart 33 = .ok (.aload_n 0, 1) := by decide +kernel
theorem dX8_apart_34 : decode cX8_apart 34 = .ok (.invokevirtual 266, 3) := by decide +kernel
theorem dX8_apart_37 : decode cX8_apart 37 = .ok (.if_icmp .ge 108, 3) := by decide +kernel
theorem dX8_apart_40 : decode cX8_apart 40 = .ok (.iconst 0, 1) := by decide +kernel
theorem dX8_apart_41 : decode cX8_apart 41 = .ok (.istore 4, 2) := by decide +kernel
theorem dX8_apart_43 : decode cX8_apart 43 = .ok (.iload 4, 2) := by decide +kernel
theorem dX8_apart_45 : decode cX8_apart 45 = .ok (.aload_n 0, 1) := by decide +kernel
theorem dX8_apart_46 : decode cX8_apart 46 = .ok (.iload_n 3, 1) := by decide +kernel
theorem dX8_apart_47 : decode cX8_apart 47 = .ok (.invokevirtual 272, 3) := by decide +kernel
theorem dX8_apart_50 : decode cX8_apart 50 = .ok (.if_icmp .ge 89, 3) := by decide +kernel
theorem dX8_apart_53 : decode cX8_apart 53 = .ok (.iload_n 2, 1) := by decide +kernel
theorem dX8_apart_54 : decode cX8_apart 54 = .ok (.istore 5, 2) := by decide +kernel
theorem dX8_apart_56 : decode cX8_apart 56 = .ok (.iload 5, 2) := by decide +kernel
theorem dX8_apart_58 : decode cX8_apart 58 = .ok (.ifCond .le 57, 3) := by decide +kernel
theorem dX8_apart_61 : decode cX8_apart 61 = .ok (.aload_n 0, 1) := by decide +kernel
theorem dX8_apart_62 : decode cX8_apart 62 = .ok (.getfield 108, 3) := by decide +kernel
theorem dX8_apart_65 : decode cX8_apart 65 = .ok (.aload_n 0, 1) := by decide +kernel
theorem dX8_apart_66 : decode cX8_apart 66 = .ok (.getfield 114, 3) := by decide +kernel
theorem dX8_apart_69 : decode cX8_apart 69 = .ok (.iload 5, 2) := by decide +kernel
theorem dX8_apart_71 : decode cX8_apart 71 = .ok (.iconst 1, 1) := by decide +kernel
theorem dX8_apart_72 : decode cX8_apart 72 = .ok (.isub, 1) := by decide +kernel
theorem dX8_apart_73 : decode cX8_apart 73 = .ok (.iaload, 1) := by decide +kernel
theorem dX8_apart_74 : decode cX8_apart 74 = .ok (.iaload, 1) := by decide +kernel
theorem dX8_apart_75 : decode cX8_apart 75 = .ok (.aload_n 0, 1) := by decide +kernel
theorem dX8_apart_76 : decode cX8_apart 76 = .ok (.getfield 108, 3) := by decide +kernel
theorem dX8_apart_79 : decode cX8_apart 79 = .ok (.bipush 6, 2) := by decide +kernel
theorem dX8_apart_81 : decode cX8_apart 81 = .ok (.iload_n 3, 1) := by decide +kernel
theorem dX8_apart_82 : decode cX8_apart 82 = .ok (.imul, 1) := by decide +kernel
theorem dX8_apart_83 : decode cX8_apart 83 = .ok (.iload 4, 2) := by decide +kernel
theorem dX8_apart_85 : decode cX8_apart 85 = .ok (.iadd, 1) := by decide +kernel
theorem dX8_apart_86 : decode cX8_apart 86 = .ok (.iaload, 1) := by decide +kernel
theorem dX8_apart_87 : decode cX8_apart 87 = .ok (.if_icmp .ge 28, 3) := by decide +kernel
theorem dX8_apart_90 : decode cX8_apart 90 = .ok (.aload_n 0, 1) := by decide +kernel
theorem dX8_apart_91 : decode cX8_apart 91 = .ok (.getfield 114, 3) := by decide +kernel
theorem dX8_apart_94 : decode cX8_apart 94 = .ok (.iload 5, 2) := by decide +kernel
theorem dX8_apart_96 : decode cX8_apart 96 = .ok (.aload_n 0, 1) := by decide +kernel
theorem dX8_apart_97 : decode cX8_apart 97 = .ok (.getfield 114, 3) := by decide +kernel
theorem dX8_apart_100 : decode cX8_apart 100 = .ok (.iload 5, 2) := by decide +kernel
theorem dX8_apart_102 : decode cX8_apart 102 = .ok (.iconst 1, 1) := by decide +kernel
theorem dX8_apart_103 : decode cX8_apart 103 = .ok (.isub, 1) := by decide +kernel
theorem dX8_apart_104 : decode cX8_apart 104 = .ok (.iaload, 1) := by decide +kernel
theorem dX8_apart_105 : decode cX8_apart 105 = .ok (.iastore, 1) := by decide +kernel
theorem dX8_apart_106 : decode cX8_apart 106 = .ok (.iload 5, 2) := by decide +kernel
theorem dX8_apart_108 : decode cX8_apart 108 = .ok (.iconst 1, 1) := by decide +kernel
theorem dX8_apart_109 : decode cX8_apart 109 = .ok (.isub, 1) := by decide +kernel
theorem dX8_apart_110 : decode cX8_apart 110 = .ok (.istore 5, 2) := by decide +kernel
theorem dX8_apart_112 : decode cX8_apart 112 = .ok (.goto (-56), 3) := by decide +kernel
theorem dX8_apart_115 : decode cX8_apart 115 = .ok (.aload_n 0, 1) := by decide +kernel
theorem dX8_apart_116 : decode cX8_apart 116 = .ok (.getfield 114, 3) := by decide +kernel
theorem dX8_apart_119 : decode cX8_apart 119 = .ok (.iload 5, 2) := by decide +kernel
theorem dX8_apart_121 : decode cX8_apart 121 = .ok (.bipush 6, 2) := by decide +kernel
theorem dX8_apart_123 : decode cX8_apart 123 = .ok (.iload_n 3, 1) := by decide +kernel
theorem dX8_apart_124 : decode cX8_apart 124 = .ok (.imul, 1) := by decide +kernel
theorem dX8_apart_125 : decode cX8_apart 125 = .ok (.iload 4, 2) := by decide +kernel
theorem dX8_apart_127 : decode cX8_apart 127 = .ok (.iadd, 1) := by decide +kernel
theorem dX8_apart_128 : decode cX8_apart 128 = .ok (.iastore, 1) := by decide +kernel
theorem dX8_apart_129 : decode cX8_apart 129 = .ok (.iload_n 2, 1) := by decide +kernel
theorem dX8_apart_130 : decode cX8_apart 130 = .ok (.iconst 1, 1) := by decide +kernel
theorem dX8_apart_131 : decode cX8_apart 131 = .ok (.iadd, 1) := by decide +kernel
theorem dX8_apart_132 : decode cX8_apart 132 = .ok (.istore_n 2, 1) := by decide +kernel
theorem dX8_apart_133 : decode cX8_apart 133 = .ok (.iinc 4 1, 3) := by decide +kernel
theorem dX8_apart_136 : decode cX8_apart 136 = .ok (.goto (-93), 3) := by decide +kernel
theorem dX8_apart_139 : decode cX8_apart 139 = .ok (.iinc 3 1, 3) := by decide +kernel
theorem dX8_apart_142 : decode cX8_apart 142 = .ok (.goto (-110), 3) := by decide +kernel
theorem dX8_apart_145 : decode cX8_apart 145 = .ok (.iconst 0, 1) := by decide +kernel
theorem dX8_apart_146 : decode cX8_apart 146 = .ok (.istore_n 3, 1) := by decide +kernel
theorem dX8_apart_147 : decode cX8_apart 147 = .ok (.iconst 0, 1) := by decide +kernel
theorem dX8_apart_148 : decode cX8_apart 148 = .ok (.istore 4, 2) := by decide +kernel
theorem dX8_apart_150 : decode cX8_apart 150 = .ok (.iconst 0, 1) := by decide +kernel
theorem dX8_apart_151 : decode cX8_apart 151 = .ok (.istore 5, 2) := by decide +kernel
theorem dX8_apart_153 : decode cX8_apart 153 = .ok (.iload 5, 2) := by decide +kernel
theorem dX8_apart_155 : decode cX8_apart 155 = .ok (.iconst 1, 1) := by decide +kernel
theorem dX8_apart_156 : decode cX8_apart 156 = .ok (.iadd, 1) := by decide +kernel
theorem dX8_apart_157 : decode cX8_apart 157 = .ok (.iload_n 2, 1) := by decide +kernel
theorem dX8_apart_158 : decode cX8_apart 158 = .ok (.if_icmp .ge 56, 3) := by decide +kernel
theorem dX8_apart_161 : decode cX8_apart 161 = .ok (.aload_n 0, 1) := by decide +kernel
theorem dX8_apart_162 : decode cX8_apart 162 = .ok (.getfield 108, 3) := by decide +kernel
theorem dX8_apart_165 : decode cX8_apart 165 = .ok (.aload_n 0, 1) := by decide +kernel
theorem dX8_apart_166 : decode cX8_apart 166 = .ok (.getfield 114, 3) := by decide +kernel
theorem dX8_apart_169 : decode cX8_apart 169 = .ok (.iload 5, 2) := by decide +kernel
theorem dX8_apart_171 : decode cX8_apart 171 = .ok (.iaload, 1) := by decide +kernel
theorem dX8_apart_172 : decode cX8_apart 172 = .ok (.iaload, 1) := by decide +kernel
theorem dX8_apart_173 : decode cX8_apart 173 = .ok (.aload_n 0, 1) := by decide +kernel
theorem dX8_apart_174 : decode cX8_apart 174 = .ok (.getfield 108, 3) := by decide +kernel
theorem dX8_apart_177 : decode cX8_apart 177 = .ok (.aload_n 0, 1) := by decide +kernel
theorem dX8_apart_178 : decode cX8_apart 178 = .ok (.getfield 114, 3) := by decide +kernel
theorem dX8_apart_181 : decode cX8_apart 181 = .ok (.iload 5, 2) := by decide +kernel
theorem dX8_apart_183 : decode cX8_apart 183 = .ok (.iconst 1, 1) := by decide +kernel
theorem dX8_apart_184 : decode cX8_apart 184 = .ok (.iadd, 1) := by decide +kernel
theorem dX8_apart_185 : decode cX8_apart 185 = .ok (.iaload, 1) := by decide +kernel
theorem dX8_apart_186 : decode cX8_apart 186 = .ok (.iaload, 1) := by decide +kernel
theorem dX8_apart_187 : decode cX8_apart 187 = .ok (.isub, 1) := by decide +kernel
theorem dX8_apart_188 : decode cX8_apart 188 = .ok (.istore 6, 2) := by decide +kernel
theorem dX8_apart_190 : decode cX8_apart 190 = .ok (.iload 6, 2) := by decide +kernel
theorem dX8_apart_192 : decode cX8_apart 192 = .ok (.iload_n 3, 1) := by decide +kernel
theorem dX8_apart_193 : decode cX8_apart 193 = .ok (.if_icmp .gt 6, 3) := by decide +kernel
theorem dX8_apart_196 : decode cX8_apart 196 = .ok (.goto 12, 3) := by decide +kernel
theorem dX8_apart_199 : decode cX8_apart 199 = .ok (.iload 6, 2) := by decide +kernel
theorem dX8_apart_201 : decode cX8_apart 201 = .ok (.istore_n 3, 1) := by decide +kernel
theorem dX8_apart_202 : decode cX8_apart 202 = .ok (.iload 5, 2) := by decide +kernel
theorem dX8_apart_204 : decode cX8_apart 204 = .ok (.iconst 1, 1) := by decide +kernel
theorem dX8_apart_205 : decode cX8_apart 205 = .ok (.iadd, 1) := by decide +kernel
theorem dX8_apart_206 : decode cX8_apart 206 = .ok (.istore 4, 2) := by decide +kernel
theorem dX8_apart_208 : decode cX8_apart 208 = .ok (.iinc 5 1, 3) := by decide +kernel
theorem dX8_apart_211 : decode cX8_apart 211 = .ok (.goto (-58), 3) := by decide +kernel
theorem dX8_apart_214 : decode cX8_apart 214 = .ok (.iload_n 1, 1) := by decide +kernel
theorem dX8_apart_215 : decode cX8_apart 215 = .ok (.iconst 2, 1) := by decide +kernel
theorem dX8_apart_216 : decode cX8_apart 216 = .ok (.if_icmp .ge 14, 3) := by decide +kernel
theorem dX8_apart_219 : decode cX8_apart 219 = .ok (.iload_n 1, 1) := by decide +kernel
theorem dX8_apart_220 : decode cX8_apart 220 = .ok (.ifCond .ne 7, 3) := by decide +kernel
theorem dX8_apart_223 : decode cX8_apart 223 = .ok (.iload_n 3, 1) := by decide +kernel
theorem dX8_apart_224 : decode cX8_apart 224 = .ok (.goto 5, 3) := by decide +kernel
theorem dX8_apart_227 : decode cX8_apart 227 = .ok (.iload 4, 2) := by decide +kernel
theorem dX8_apart_229 : decode cX8_apart 229 = .ok (.ireturn, 1) := by decide +kernel
theorem dX8_apart_230 : decode cX8_apart 230 = .ok (.iconst 0, 1) := by decide +kernel
theorem dX8_apart_231 : decode cX8_apart 231 = .ok (.istore 5, 2) := by decide +kernel
theorem dX8_apart_233 : decode cX8_apart 233 = .ok (.iconst 0, 1) := by decide +kernel
theorem dX8_apart_234 : decode cX8_apart 234 = .ok (.istore 6, 2) := by decide +kernel
theorem dX8_apart_236 : decode cX8_apart 236 = .ok (.iload 6, 2) := by decide +kernel
theorem dX8_apart_238 : decode cX8_apart 238 = .ok (.iload_n 2, 1) := by decide +kernel
theorem dX8_apart_239 : decode cX8_apart 239 = .ok (.if_icmp .ge 71, 3) := by decide +kernel
theorem dX8_apart_242 : decode cX8_apart 242 = .ok (.aload_n 0, 1) := by decide +kernel
theorem dX8_apart_243 : decode cX8_apart 243 = .ok (.aload_n 0, 1) := by decide +kernel
theorem dX8_apart_244 : decode cX8_apart 244 = .ok (.getfield 114, 3) := by decide +kernel
theorem dX8_apart_247 : decode cX8_apart 247 = .ok (.iload 6, 2) := by decide +kernel
theorem dX8_apart_249 : decode cX8_apart 249 = .ok (.iaload, 1) := by decide +kernel
theorem dX8_apart_250 : decode cX8_apart 250 = .ok (.bipush 6, 2) := by decide +kernel
theorem dX8_apart_252 : decode cX8_apart 252 = .ok (.idiv, 1) := by decide +kernel
theorem dX8_apart_253 : decode cX8_apart 253 = .ok (.aload_n 0, 1) := by decide +kernel
theorem dX8_apart_254 : decode cX8_apart 254 = .ok (.getfield 53, 3) := by decide +kernel
theorem dX8_apart_257 : decode cX8_apart 257 = .ok (.iconst 3, 1) := by decide +kernel
theorem dX8_apart_258 : decode cX8_apart 258 = .ok (.iaload, 1) := by decide +kernel
theorem dX8_apart_259 : decode cX8_apart 259 = .ok (.invokevirtual 401, 3) := by decide +kernel
theorem dX8_apart_262 : decode cX8_apart 262 = .ok (.iload 5, 2) := by decide +kernel
theorem dX8_apart_264 : decode cX8_apart 264 = .ok (.aload_n 0, 1) := by decide +kernel
theorem dX8_apart_265 : decode cX8_apart 265 = .ok (.getfield 385, 3) := by decide +kernel
theorem dX8_apart_268 : decode cX8_apart 268 = .ok (.aload_n 0, 1) := by decide +kernel
theorem dX8_apart_269 : decode cX8_apart 269 = .ok (.getfield 114, 3) := by decide +kernel
theorem dX8_apart_272 : decode cX8_apart 272 = .ok (.iload 6, 2) := by decide +kernel
theorem dX8_apart_274 : decode cX8_apart 274 = .ok (.iaload, 1) := by decide +kernel
theorem dX8_apart_275 : decode cX8_apart 275 = .ok (.bipush 6, 2) := by decide +kernel
theorem dX8_apart_277 : decode cX8_apart 277 = .ok (.irem, 1) := by decide +kernel
theorem dX8_apart_278 : decode cX8_apart 278 = .ok (.invokestatic 228, 3) := by decide +kernel
theorem dX8_apart_281 : decode cX8_apart 281 = .ok (.iload 6, 2) := by decide +kernel
theorem dX8_apart_283 : decode cX8_apart 283 = .ok (.iload 4, 2) := by decide +kernel
theorem dX8_apart_285 : decode cX8_apart 285 = .ok (.if_icmp .ge 7, 3) := by decide +kernel
theorem dX8_apart_288 : decode cX8_apart 288 = .ok (.iconst 1, 1) := by decide +kernel
theorem dX8_apart_289 : decode cX8_apart 289 = .ok (.goto 4, 3) := by decide +kernel
theorem dX8_apart_292 : decode cX8_apart 292 = .ok (.iconst 0, 1) := by decide +kernel
theorem dX8_apart_293 : decode cX8_apart 293 = .ok (.if_icmp .ne 7, 3) := by decide +kernel
theorem dX8_apart_296 : decode cX8_apart 296 = .ok (.iconst 0, 1) := by decide +kernel
theorem dX8_apart_297 : decode cX8_apart 297 = .ok (.goto 4, 3) := by decide +kernel
theorem dX8_apart_300 : decode cX8_apart 300 = .ok (.iconst 1, 1) := by decide +kernel
theorem dX8_apart_301 : decode cX8_apart 301 = .ok (.iadd, 1) := by decide +kernel
theorem dX8_apart_302 : decode cX8_apart 302 = .ok (.istore 5, 2) := by decide +kernel
theorem dX8_apart_304 : decode cX8_apart 304 = .ok (.iinc 6 1, 3) := by decide +kernel
theorem dX8_apart_307 : decode cX8_apart 307 = .ok (.goto (-71), 3) := by decide +kernel
theorem dX8_apart_310 : decode cX8_apart 310 = .ok (.iload 5, 2) := by decide +kernel
theorem dX8_apart_312 : decode cX8_apart 312 = .ok (.ireturn, 1) := by decide +kernel
def mX8_apart : MM := (yX8_apart, cX8_apart, 7, Option.some Jvm.ClassFile.FieldType.int, { frames := 7, cells := 0, slots := 0, locals := 158 })
def X8_apart_L56 (u3_ : Int32) (u4_ : Int32) (k115 : Int32 → SS → Option (Int32 × SS)) : Nat → Int32 → SS → Option (Int32 × SS) :=
  lp (fun _ _ => none) fun rec v5_ σ_ =>
    if v5_ ≤ 0 then (
      k115 v5_ σ_
      ) else (
      grd (inb (v5_ - (1 : Int32)) 72) <|
      grd (inb (gI σ_ 108 (Int32.toNatClampNeg (v5_ - (1 : Int32)))) 72) <|
      grd (inb (((6 : Int32) * u3_) + u4_) 72) <|
      if (gI σ_ 106 (Int32.toNatClampNeg (((6 : Int32) * u3_) + u4_))) ≤ (gI σ_ 106 (Int32.toNatClampNeg (gI σ_ 108 (Int32.toNatClampNeg (v5_ - (1 : Int32)))))) then (
        k115 v5_ σ_
        ) else (
        grd (inb v5_ 72) <|
        vthen (sI σ_ 108 (Int32.toNatClampNeg v5_) (gI σ_ 108 (Int32.toNatClampNeg (v5_ - (1 : Int32))))) fun σ15 =>
        vthen (v5_ - (1 : Int32)) fun v16 =>
        rec v16 σ15
        )
      )

def X8_apart_L43 (u3_ : Int32) (k139 : Int32 → SS → Option (Int32 × SS)) : Nat → Int32 → Int32 → SS → Option (Int32 × SS) :=
  lp (fun _ _ _ => none) fun rec v2_ v4_ σ_ =>
    bnd1 (fX8_boxesOf σ_ u3_) fun v8 =>
    if v8 ≤ v4_ then (
      k139 v2_ σ_
      ) else (
      X8_apart_L56 u3_ v4_
      (fun v17 σ18 =>
        grd (inb v17 72) <|
        vthen (sI σ18 108 (Int32.toNatClampNeg v17) (((6 : Int32) * u3_) + v4_)) fun σ20 =>
        vthen (v2_ + (1 : Int32)) fun v21 =>
        rec v21 (v4_ + (1 : Int32)) σ20
        )
      fuel v2_ σ_
      )

def X8_apart_L32  (k145 : Int32 → SS → Option (Int32 × SS)) : Nat → Int32 → Int32 → SS → Option (Int32 × SS) :=
  lp (fun _ _ _ => none) fun rec v2_ v3_ σ_ =>
    bnd1 (fX8_questions σ_) fun v5 =>
    if v5 ≤ v3_ then (
      k145 v2_ σ_
      ) else (
      X8_apart_L43 v3_
      (fun v22 σ23 =>
        rec v22 (v3_ + (1 : Int32)) σ23
        )
      fuel v2_ (0 : Int32) σ_
      )

def X8_apart_L153 (σ_ : SS) (u2_ : Int32) (k214 : Int32 → Int32 → Option (Int32 × SS)) : Nat → Int32 → Int32 → Int32 → Option (Int32 × SS) :=
  lp (fun _ _ _ => none) fun rec v3_ v4_ v5_ =>
    if u2_ ≤ (v5_ + (1 : Int32)) then (
      k214 v3_ v4_
      ) else (
      grd (inb v5_ 72) <|
      grd (inb (gI σ_ 108 (Int32.toNatClampNeg v5_)) 72) <|
      grd (inb (v5_ + (1 : Int32)) 72) <|
      grd (inb (gI σ_ 108 (Int32.toNatClampNeg (v5_ + (1 : Int32)))) 72) <|
      vthen ((gI σ_ 106 (Int32.toNatClampNeg (gI σ_ 108 (Int32.toNatClampNeg v5_)))) - (gI σ_ 106 (Int32.toNatClampNeg (gI σ_ 108 (Int32.toNatClampNeg (v5_ + (1 : Int32))))))) fun v30 =>
      if v3_ < v30 then (
        vthen (v5_ + (1 : Int32)) fun v31 =>
        rec v30 v31 (v5_ + (1 : Int32))
        ) else (
        rec v3_ v4_ (v5_ + (1 : Int32))
        )
      )

def X8_apart_L236 (u2_ : Int32) (u4_ : Int32)  : Nat → Int32 → Int32 → SS → Option (Int32 × SS) :=
  lp (fun _ _ _ => none) fun rec v5_ v6_ σ_ =>
    if u2_ ≤ v6_ then (
      some (v5_, σ_)
      ) else (
      grd (inb v6_ 72) <|
      bnd1 (fX8_judges σ_ ((gI σ_ 108 (Int32.toNatClampNeg v6_)) / (6 : Int32)) (gI σ_ 88 3)) fun σ35 =>
      vthen (fun (s36 : Int32) =>
        if (b2i (fX8_has σ35 (gI σ35 73 55) (irm (gI σ35 108 (Int32.toNatClampNeg v6_)) (6 : Int32)))) = s36 then (
          vthen (v5_ + (0 : Int32)) fun v38 =>
          rec v38 (v6_ + (1 : Int32)) σ35
          ) else (
          vthen (v5_ + (1 : Int32)) fun v37 =>
          rec v37 (v6_ + (1 : Int32)) σ35
          )
        ) fun j293 =>
      if u4_ ≤ v6_ then (
        j293 (0 : Int32)
        ) else (
        j293 (1 : Int32)
        )
      )

def fX8_apart (σ : SS) (a1 : Int32) : Option (Int32 × SS) :=
  if (gI σ 73 12) = 0 then (
    some ((-1 : Int32), σ)
    ) else (
    if (fX8_in σ a1 (0 : Int32) (2 : Int32)) = true then (
      bnd (fX8_finds σ) fun b2 σ4 =>
      if b2 = true then (
        X8_apart_L32
        (fun v24 σ25 =>
          X8_apart_L153 σ25 v24
          (fun v32 v33 =>
            if (2 : Int32) ≤ a1 then (
              X8_apart_L236 v24 v33
              fuel (0 : Int32) (0 : Int32) σ25
              ) else (
              if a1 = 0 then (
                some (v32, σ25)
                ) else (
                some (v33, σ25)
                )
              )
            )
          fuel (0 : Int32) (0 : Int32) (0 : Int32)
          )
        fuel (0 : Int32) (0 : Int32) σ4
        ) else (
        some ((-2 : Int32), σ4)
        )
      ) else (
      some ((-1 : Int32), σ)
      )
    )

set_option maxRecDepth 20000 in
theorem sX8_apart_L56 {g : GG} {r : Int32 × SS} {x1_ : Int32} {x2_ : Int32} {u3_ : Int32} {u4_ : Int32} {k115 : Int32 → SS → Option (Int32 × SS)} 
    (hk115 : ∀ (y5 : Int32) (σ_ : SS), k115 y5 σ_ = some r → WT σ_ → RR g mX8_apart (FinR g mX8_apart (some (.int r.1)) NF r.2) zF 115 [(0, .ref (ad g 73)), (1, .int x1_), (2, .int x2_), (3, .int u3_), (4, .int u4_), (5, .int y5)] [] σ_)
    (n : Nat) : ∀ (v5_ : Int32) (σ_ : SS), X8_apart_L56 u3_ u4_ k115 n v5_ σ_ = some r → WT σ_ → RR g mX8_apart (FinR g mX8_apart (some (.int r.1)) NF r.2) zF 56 [(0, .ref (ad g 73)), (1, .int x1_), (2, .int x2_), (3, .int u3_), (4, .int u4_), (5, .int v5_)] [] σ_ := by
  unfold X8_apart_L56
  refine lp_ind (P := fun (rec : Int32 → SS → Option (Int32 × SS)) => ∀ (v5_ : Int32) (σ_ : SS), rec v5_ σ_ = some r → WT σ_ → RR g mX8_apart (FinR g mX8_apart (some (.int r.1)) NF r.2) zF 56 [(0, .ref (ad g 73)), (1, .int x1_), (2, .int x2_), (3, .int u3_), (4, .int u4_), (5, .int v5_)] [] σ_) ?_ ?_ n
  · intro v5_ σ_ hr; cases hr
  intro rec ih v5_ σ_ hr hw_
  refine r_iload (pc := 56) (j := 5) dX8_apart_56 rfl ?_
  refine r_if_le (pc := 58) (tgt := 115) dX8_apart_58 rfl (fun hc => ?_) (fun hc => ?_)
  · replace hr := ite_t hc hr
    exact r_pick (ls1 := [(0, .ref (ad g 73)), (1, .int x1_), (2, .int x2_), (3, .int u3_), (4, .int u4_), (5, .int v5_)]) [0, 1, 2, 3, 4, 5] rfl (hk115 v5_ σ_ hr hw_)
  replace hr := ite_f hc hr
  refine r_aload_n (pc := 61) (j := 0) dX8_apart_61 rfl rfl ?_
  refine gf8_52 (pc := 62) tw_5_146 hw_ dX8_apart_62 ?_
  refine r_aload_n (pc := 65) (j := 0) dX8_apart_65 rfl rfl ?_
  refine gf8_59 (pc := 66) tw_5_153 hw_ dX8_apart_66 ?_
  refine r_iload (pc := 69) (j := 5) dX8_apart_69 rfl ?_
  refine r_iconst (pc := 71) (v := (1 : Int32)) dX8_apart_71 rfl ?_
  refine r_isub (pc := 72) dX8_apart_72 ?_
  obtain ⟨h11, hr⟩ := grd_inv hr
  refine x_iald (pc := 73) (k := (Int32.toNatClampNeg (v5_ - (1 : Int32)))) rfl h11 rfl dX8_apart_73 ?_
  obtain ⟨h12, hr⟩ := grd_inv hr
  refine x_iald (pc := 74) (k := (Int32.toNatClampNeg (gI σ_ 108 (Int32.toNatClampNeg (v5_ - (1 : Int32)))))) rfl h12 rfl dX8_apart_74 ?_
  refine r_aload_n (pc := 75) (j := 0) dX8_apart_75 rfl rfl ?_
  refine gf8_52 (pc := 76) tw_5_146 hw_ dX8_apart_76 ?_
  refine r_bipush (pc := 79) (v := (6 : Int32)) dX8_apart_79 rfl ?_
  refine r_iload_n (pc := 81) (j := 3) dX8_apart_81 rfl rfl ?_
  refine r_imul (pc := 82) dX8_apart_82 ?_
  refine r_iload (pc := 83) (j := 4) dX8_apart_83 rfl ?_
  refine r_iadd (pc := 85) dX8_apart_85 ?_
  obtain ⟨h13, hr⟩ := grd_inv hr
  refine x_iald (pc := 86) (k := (Int32.toNatClampNeg (((6 : Int32) * u3_) + u4_))) rfl h13 rfl dX8_apart_86 ?_
  refine r_icmp_ge (pc := 87) (tgt := 115) dX8_apart_87 rfl (fun hc => ?_) (fun hc => ?_)
  · replace hr := ite_t hc hr
    exact r_pick (ls1 := [(0, .ref (ad g 73)), (1, .int x1_), (2, .int x2_), (3, .int u3_), (4, .int u4_), (5, .int v5_)]) [0, 1, 2, 3, 4, 5] rfl (hk115 v5_ σ_ hr hw_)
  replace hr := ite_f hc hr
  refine r_aload_n (pc := 90) (j := 0) dX8_apart_90 rfl rfl ?_
  refine gf8_59 (pc := 91) tw_5_153 hw_ dX8_apart_91 ?_
  refine r_iload (pc := 94) (j := 5) dX8_apart_94 rfl ?_
  refine r_aload_n (pc := 96) (j := 0) dX8_apart_96 rfl rfl ?_
  refine gf8_59 (pc := 97) tw_5_153 hw_ dX8_apart_97 ?_
  refine r_iload (pc := 100) (j := 5) dX8_apart_100 rfl ?_
  refine r_iconst (pc := 102) (v := (1 : Int32)) dX8_apart_102 rfl ?_
  refine r_isub (pc := 103) dX8_apart_103 ?_
  refine x_iald (pc := 104) (k := (Int32.toNatClampNeg (v5_ - (1 : Int32)))) rfl h11 rfl dX8_apart_104 ?_
  obtain ⟨h14, hr⟩ := grd_inv hr
  refine x_iast (pc := 105) (j := (Int32.toNatClampNeg v5_)) rfl h14 rfl dX8_apart_105 fun σ15 eσ15 => ?_
  replace hr := vthen_inv hr σ15 eσ15
  have hσ15 := wtI eσ15 hw_
  refine r_iload (pc := 106) (j := 5) dX8_apart_106 rfl ?_
  refine r_iconst (pc := 108) (v := (1 : Int32)) dX8_apart_108 rfl ?_
  refine r_isub (pc := 109) dX8_apart_109 ?_
  refine r_topi fun v16 ev16 => ?_
  replace hr := vthen_inv hr v16 ev16
  refine r_istore (pc := 110) (ls1 := [(5, .int v16), (0, .ref (ad g 73)), (1, .int x1_), (2, .int x2_), (3, .int u3_), (4, .int u4_)]) dX8_apart_110 (nle rfl) rfl ?_
  refine r_goto (pc := 112) (tgt := 56) dX8_apart_112 rfl ?_
  exact r_pick (ls1 := [(0, .ref (ad g 73)), (1, .int x1_), (2, .int x2_), (3, .int u3_), (4, .int u4_), (5, .int v16)]) [1, 2, 3, 4, 5, 0] rfl (ih v16 σ15 hr hσ15)

set_option maxRecDepth 20000 in
theorem sX8_apart_L43 {g : GG} {r : Int32 × SS} {x1_ : Int32} {u3_ : Int32} {k139 : Int32 → SS → Option (Int32 × SS)} 
    (hk139 : ∀ (y2 : Int32) (σ_ : SS), k139 y2 σ_ = some r → WT σ_ → RR g mX8_apart (FinR g mX8_apart (some (.int r.1)) NF r.2) zF 139 [(0, .ref (ad g 73)), (1, .int x1_), (2, .int y2), (3, .int u3_)] [] σ_)
    (n : Nat) : ∀ (v2_ : Int32) (v4_ : Int32) (σ_ : SS), X8_apart_L43 u3_ k139 n v2_ v4_ σ_ = some r → WT σ_ → RR g mX8_apart (FinR g mX8_apart (some (.int r.1)) NF r.2) zF 43 [(0, .ref (ad g 73)), (1, .int x1_), (2, .int v2_), (3, .int u3_), (4, .int v4_)] [] σ_ := by
  unfold X8_apart_L43
  refine lp_ind (P := fun (rec : Int32 → Int32 → SS → Option (Int32 × SS)) => ∀ (v2_ : Int32) (v4_ : Int32) (σ_ : SS), rec v2_ v4_ σ_ = some r → WT σ_ → RR g mX8_apart (FinR g mX8_apart (some (.int r.1)) NF r.2) zF 43 [(0, .ref (ad g 73)), (1, .int x1_), (2, .int v2_), (3, .int u3_), (4, .int v4_)] [] σ_) ?_ ?_ n
  · intro v2_ v4_ σ_ hr; cases hr
  intro rec ih v2_ v4_ σ_ hr hw_
  refine r_iload (pc := 43) (j := 4) dX8_apart_43 rfl ?_
  refine r_aload_n (pc := 45) (j := 0) dX8_apart_45 rfl rfl ?_
  refine r_iload_n (pc := 46) (j := 3) dX8_apart_46 rfl rfl ?_
  obtain ⟨v8, hv8, hr⟩ := bnd1_inv hr
  refine kX8_boxesOf (pc := 47) hv8 tw_7_27 ⟨nle rfl, nle rfl⟩ (nle rfl) dX8_apart_47 ?_
  refine r_icmp_ge (pc := 50) (tgt := 139) dX8_apart_50 rfl (fun hc => ?_) (fun hc => ?_)
  · replace hr := ite_t hc hr
    exact r_pick (ls1 := [(0, .ref (ad g 73)), (1, .int x1_), (2, .int v2_), (3, .int u3_)]) [0, 1, 2, 3] rfl (hk139 v2_ σ_ hr hw_)
  replace hr := ite_f hc hr
  refine r_iload_n (pc := 53) (j := 2) dX8_apart_53 rfl rfl ?_
  refine r_istore (pc := 54) (ls1 := [(5, .int v2_), (0, .ref (ad g 73)), (1, .int x1_), (2, .int v2_), (3, .int u3_), (4, .int v4_)]) dX8_apart_54 (nle rfl) rfl ?_
  refine r_pick (ls1 := [(0, .ref (ad g 73)), (1, .int x1_), (2, .int v2_), (3, .int u3_), (4, .int v4_), (5, .int v2_)]) [1, 2, 3, 4, 5, 0] rfl ?_
  refine sX8_apart_L56    (fun v17 σ18 hr hσ18 => ?_) fuel v2_ σ_ hr hw_
  refine r_aload_n (pc := 115) (j := 0) dX8_apart_115 rfl rfl ?_
  refine gf8_59 (pc := 116) tw_5_153 hσ18 dX8_apart_116 ?_
  refine r_iload (pc := 119) (j := 5) dX8_apart_119 rfl ?_
  refine r_bipush (pc := 121) (v := (6 : Int32)) dX8_apart_121 rfl ?_
  refine r_iload_n (pc := 123) (j := 3) dX8_apart_123 rfl rfl ?_
  refine r_imul (pc := 124) dX8_apart_124 ?_
  refine r_iload (pc := 125) (j := 4) dX8_apart_125 rfl ?_
  refine r_iadd (pc := 127) dX8_apart_127 ?_
  obtain ⟨h19, hr⟩ := grd_inv hr
  refine x_iast (pc := 128) (j := (Int32.toNatClampNeg v17)) rfl h19 rfl dX8_apart_128 fun σ20 eσ20 => ?_
  replace hr := vthen_inv hr σ20 eσ20
  have hσ20 := wtI eσ20 hσ18
  refine r_iload_n (pc := 129) (j := 2) dX8_apart_129 rfl rfl ?_
  refine r_iconst (pc := 130) (v := (1 : Int32)) dX8_apart_130 rfl ?_
  refine r_iadd (pc := 131) dX8_apart_131 ?_
  refine r_topi fun v21 ev21 => ?_
  replace hr := vthen_inv hr v21 ev21
  refine r_istore_n (pc := 132) (ls1 := [(2, .int v21), (0, .ref (ad g 73)), (1, .int x1_), (3, .int u3_), (4, .int v4_), (5, .int v17)]) dX8_apart_132 rfl (nle rfl) rfl ?_
  refine r_iinc (pc := 133) (j := 4) (v := (v4_ + (1 : Int32))) (ls1 := [(4, .int (v4_ + (1 : Int32))), (2, .int v21), (0, .ref (ad g 73)), (1, .int x1_), (3, .int u3_), (5, .int v17)]) dX8_apart_133 rfl rfl (nle rfl) rfl ?_
  refine r_goto (pc := 136) (tgt := 43) dX8_apart_136 rfl ?_
  exact r_pick (ls1 := [(0, .ref (ad g 73)), (1, .int x1_), (2, .int v21), (3, .int u3_), (4, .int (v4_ + (1 : Int32)))]) [2, 3, 1, 4, 0] rfl (ih v21 (v4_ + (1 : Int32)) σ20 hr hσ20)

set_option maxRecDepth 20000 in
theorem sX8_apart_L32 {g : GG} {r : Int32 × SS} {x1_ : Int32} {k145 : Int32 → SS → Option (Int32 × SS)} 
    (hk145 : ∀ (y2 : Int32) (σ_ : SS), k145 y2 σ_ = some r → WT σ_ → RR g mX8_apart (FinR g mX8_apart (some (.int r.1)) NF r.2) zF 145 [(0, .ref (ad g 73)), (1, .int x1_), (2, .int y2)] [] σ_)
    (n : Nat) : ∀ (v2_ : Int32) (v3_ : Int32) (σ_ : SS), X8_apart_L32 k145 n v2_ v3_ σ_ = some r → WT σ_ → RR g mX8_apart (FinR g mX8_apart (some (.int r.1)) NF r.2) zF 32 [(0, .ref (ad g 73)), (1, .int x1_), (2, .int v2_), (3, .int v3_)] [] σ_ := by
  unfold X8_apart_L32
  refine lp_ind (P := fun (rec : Int32 → Int32 → SS → Option (Int32 × SS)) => ∀ (v2_ : Int32) (v3_ : Int32) (σ_ : SS), rec v2_ v3_ σ_ = some r → WT σ_ → RR g mX8_apart (FinR g mX8_apart (some (.int r.1)) NF r.2) zF 32 [(0, .ref (ad g 73)), (1, .int x1_), (2, .int v2_), (3, .int v3_)] [] σ_) ?_ ?_ n
  · intro v2_ v3_ σ_ hr; cases hr
  intro rec ih v2_ v3_ σ_ hr hw_
  refine r_iload_n (pc := 32) (j := 3) dX8_apart_32 rfl rfl ?_
  refine r_aload_n (pc := 33) (j := 0) dX8_apart_33 rfl rfl ?_
  obtain ⟨v5, hv5, hr⟩ := bnd1_inv hr
  refine kX8_questions (pc := 34) hv5 tw_6_145 ⟨nle rfl, nle rfl⟩ (nle rfl) dX8_apart_34 ?_
  refine r_icmp_ge (pc := 37) (tgt := 145) dX8_apart_37 rfl (fun hc => ?_) (fun hc => ?_)
  · replace hr := ite_t hc hr
    exact r_pick (ls1 := [(0, .ref (ad g 73)), (1, .int x1_), (2, .int v2_)]) [0, 1, 2] rfl (hk145 v2_ σ_ hr hw_)
  replace hr := ite_f hc hr
  refine r_iconst (pc := 40) (v := (0 : Int32)) dX8_apart_40 rfl ?_
  refine r_istore (pc := 41) (ls1 := [(4, .int (0 : Int32)), (0, .ref (ad g 73)), (1, .int x1_), (2, .int v2_), (3, .int v3_)]) dX8_apart_41 (nle rfl) rfl ?_
  refine r_pick (ls1 := [(0, .ref (ad g 73)), (1, .int x1_), (2, .int v2_), (3, .int v3_), (4, .int (0 : Int32))]) [1, 2, 3, 4, 0] rfl ?_
  refine sX8_apart_L43    (fun v22 σ23 hr hσ23 => ?_) fuel v2_ (0 : Int32) σ_ hr hw_
  refine r_iinc (pc := 139) (j := 3) (v := (v3_ + (1 : Int32))) (ls1 := [(3, .int (v3_ + (1 : Int32))), (0, .ref (ad g 73)), (1, .int x1_), (2, .int v22)]) dX8_apart_139 rfl rfl (nle rfl) rfl ?_
  refine r_goto (pc := 142) (tgt := 32) dX8_apart_142 rfl ?_
  exact r_pick (ls1 := [(0, .ref (ad g 73)), (1, .int x1_), (2, .int v22), (3, .int (v3_ + (1 : Int32)))]) [1, 2, 3, 0] rfl (ih v22 (v3_ + (1 : Int32)) σ23 hr hσ23)

set_option maxRecDepth 20000 in
theorem sX8_apart_L153 {g : GG} {r : Int32 × SS} {σ_ : SS} {x1_ : Int32} {u2_ : Int32} {k214 : Int32 → Int32 → Option (Int32 × SS)} 
    (hw_ : WT σ_)
    (hk214 : ∀ (y3 : Int32) (y4 : Int32), k214 y3 y4 = some r → RR g mX8_apart (FinR g mX8_apart (some (.int r.1)) NF r.2) zF 214 [(0, .ref (ad g 73)), (1, .int x1_), (2, .int u2_), (3, .int y3), (4, .int y4)] [] σ_)
    (n : Nat) : ∀ (v3_ : Int32) (v4_ : Int32) (v5_ : Int32), X8_apart_L153 σ_ u2_ k214 n v3_ v4_ v5_ = some r → RR g mX8_apart (FinR g mX8_apart (some (.int r.1)) NF r.2) zF 153 [(0, .ref (ad g 73)), (1, .int x1_), (2, .int u2_), (3, .int v3_), (4, .int v4_), (5, .int v5_)] [] σ_ := by
  unfold X8_apart_L153
  refine lp_ind (P := fun (rec : Int32 → Int32 → Int32 → Option (Int32 × SS)) => ∀ (v3_ : Int32) (v4_ : Int32) (v5_ : Int32), rec v3_ v4_ v5_ = some r → RR g mX8_apart (FinR g mX8_apart (some (.int r.1)) NF r.2) zF 153 [(0, .ref (ad g 73)), (1, .int x1_), (2, .int u2_), (3, .int v3_), (4, .int v4_), (5, .int v5_)] [] σ_) ?_ ?_ n
  · intro v3_ v4_ v5_ hr; cases hr
  intro rec ih v3_ v4_ v5_ hr
  refine r_iload (pc := 153) (j := 5) dX8_apart_153 rfl ?_
  refine r_iconst (pc := 155) (v := (1 : Int32)) dX8_apart_155 rfl ?_
  refine r_iadd (pc := 156) dX8_apart_156 ?_
  refine r_iload_n (pc := 157) (j := 2) dX8_apart_157 rfl rfl ?_
  refine r_icmp_ge (pc := 158) (tgt := 214) dX8_apart_158 rfl (fun hc => ?_) (fun hc => ?_)
  · replace hr := ite_t hc hr
    exact r_pick (ls1 := [(0, .ref (ad g 73)), (1, .int x1_), (2, .int u2_), (3, .int v3_), (4, .int v4_)]) [0, 1, 2, 3, 4] rfl (hk214 v3_ v4_ hr)
  replace hr := ite_f hc hr
  refine r_aload_n (pc := 161) (j := 0) dX8_apart_161 rfl rfl ?_
  refine gf8_52 (pc := 162) tw_5_146 hw_ dX8_apart_162 ?_
  refine r_aload_n (pc := 165) (j := 0) dX8_apart_165 rfl rfl ?_
  refine gf8_59 (pc := 166) tw_5_153 hw_ dX8_apart_166 ?_
  refine r_iload (pc := 169) (j := 5) dX8_apart_169 rfl ?_
  obtain ⟨h26, hr⟩ := grd_inv hr
  refine x_iald (pc := 171) (k := (Int32.toNatClampNeg v5_)) rfl h26 rfl dX8_apart_171 ?_
  obtain ⟨h27, hr⟩ := grd_inv hr
  refine x_iald (pc := 172) (k := (Int32.toNatClampNeg (gI σ_ 108 (Int32.toNatClampNeg v5_)))) rfl h27 rfl dX8_apart_172 ?_
  refine r_aload_n (pc := 173) (j := 0) dX8_apart_173 rfl rfl ?_
  refine gf8_52 (pc := 174) tw_5_146 hw_ dX8_apart_174 ?_
  refine r_aload_n (pc := 177) (j := 0) dX8_apart_177 rfl rfl ?_
  refine gf8_59 (pc := 178) tw_5_153 hw_ dX8_apart_178 ?_
  refine r_iload (pc := 181) (j := 5) dX8_apart_181 rfl ?_
  refine r_iconst (pc := 183) (v := (1 : Int32)) dX8_apart_183 rfl ?_
  refine r_iadd (pc := 184) dX8_apart_184 ?_
  obtain ⟨h28, hr⟩ := grd_inv hr
  refine x_iald (pc := 185) (k := (Int32.toNatClampNeg (v5_ + (1 : Int32)))) rfl h28 rfl dX8_apart_185 ?_
  obtain ⟨h29, hr⟩ := grd_inv hr
  refine x_iald (pc := 186) (k := (Int32.toNatClampNeg (gI σ_ 108 (Int32.toNatClampNeg (v5_ + (1 : Int32)))))) rfl h29 rfl dX8_apart_186 ?_
  refine r_isub (pc := 187) dX8_apart_187 ?_
  refine r_topi fun v30 ev30 => ?_
  replace hr := vthen_inv hr v30 ev30
  refine r_istore (pc := 188) (ls1 := [(6, .int v30), (0, .ref (ad g 73)), (1, .int x1_), (2, .int u2_), (3, .int v3_), (4, .int v4_), (5, .int v5_)]) dX8_apart_188 (nle rfl) rfl ?_
  refine r_iload (pc := 190) (j := 0) dX8_apart_190 rfl ?_
  refine r_iload_n (pc := 192) (j := 4) dX8_apart_192 rfl rfl ?_
  refine r_icmp_gt (pc := 193) (tgt := 199) dX8_apart_193 rfl (fun hc => ?_) (fun hc => ?_)
  · replace hr := ite_t hc hr
    refine r_iload (pc := 199) (j := 0) dX8_apart_199 rfl ?_
    refine r_istore_n (pc := 201) (ls1 := [(3, .int v30), (6, .int v30), (0, .ref (ad g 73)), (1, .int x1_), (2, .int u2_), (4, .int v4_), (5, .int v5_)]) dX8_apart_201 rfl (nle rfl) rfl ?_
    refine r_iload (pc := 202) (j := 6) dX8_apart_202 rfl ?_
    refine r_iconst (pc := 204) (v := (1 : Int32)) dX8_apart_204 rfl ?_
    refine r_iadd (pc := 205) dX8_apart_205 ?_
    refine r_topi fun v31 ev31 => ?_
    replace hr := vthen_inv hr v31 ev31
    refine r_istore (pc := 206) (ls1 := [(4, .int v31), (3, .int v30), (6, .int v30), (0, .ref (ad g 73)), (1, .int x1_), (2, .int u2_), (5, .int v5_)]) dX8_apart_206 (nle rfl) rfl ?_
    refine r_iinc (pc := 208) (j := 6) (v := (v5_ + (1 : Int32))) (ls1 := [(5, .int (v5_ + (1 : Int32))), (4, .int v31), (3, .int v30), (6, .int v30), (0, .ref (ad g 73)), (1, .int x1_), (2, .int u2_)]) dX8_apart_208 rfl rfl (nle rfl) rfl ?_
    refine r_goto (pc := 211) (tgt := 153) dX8_apart_211 rfl ?_
    exact r_pick (ls1 := [(0, .ref (ad g 73)), (1, .int x1_), (2, .int u2_), (3, .int v30), (4, .int v31), (5, .int (v5_ + (1 : Int32)))]) [4, 5, 6, 2, 1, 0] rfl (ih v30 v31 (v5_ + (1 : Int32)) hr)
  replace hr := ite_f hc hr
  refine r_goto (pc := 196) (tgt := 208) dX8_apart_196 rfl ?_
  refine r_iinc (pc := 208) (j := 6) (v := (v5_ + (1 : Int32))) (ls1 := [(5, .int (v5_ + (1 : Int32))), (6, .int v30), (0, .ref (ad g 73)), (1, .int x1_), (2, .int u2_), (3, .int v3_), (4, .int v4_)]) dX8_apart_208 rfl rfl (nle rfl) rfl ?_
  refine r_goto (pc := 211) (tgt := 153) dX8_apart_211 rfl ?_
  exact r_pick (ls1 := [(0, .ref (ad g 73)), (1, .int x1_), (2, .int u2_), (3, .int v3_), (4, .int v4_), (5, .int (v5_ + (1 : Int32)))]) [2, 3, 4, 5, 6, 0] rfl (ih v3_ v4_ (v5_ + (1 : Int32)) hr)

set_option maxRecDepth 20000 in
theorem sX8_apart_L236 {g : GG} {r : Int32 × SS} {u2_ : Int32} {u4_ : Int32}  
    (n : Nat) : ∀ (v5_ : Int32) (v6_ : Int32) (σ_ : SS), X8_apart_L236 u2_ u4_ n v5_ v6_ σ_ = some r → WT σ_ → RR g mX8_apart (FinR g mX8_apart (some (.int r.1)) NF r.2) zF 236 [(0, .ref (ad g 73)), (2, .int u2_), (4, .int u4_), (5, .int v5_), (6, .int v6_)] [] σ_ := by
  unfold X8_apart_L236
  refine lp_ind (P := fun (rec : Int32 → Int32 → SS → Option (Int32 × SS)) => ∀ (v5_ : Int32) (v6_ : Int32) (σ_ : SS), rec v5_ v6_ σ_ = some r → WT σ_ → RR g mX8_apart (FinR g mX8_apart (some (.int r.1)) NF r.2) zF 236 [(0, .ref (ad g 73)), (2, .int u2_), (4, .int u4_), (5, .int v5_), (6, .int v6_)] [] σ_) ?_ ?_ n
  · intro v5_ v6_ σ_ hr; cases hr
  intro rec ih v5_ v6_ σ_ hr hw_
  refine r_iload (pc := 236) (j := 4) dX8_apart_236 rfl ?_
  refine r_iload_n (pc := 238) (j := 1) dX8_apart_238 rfl rfl ?_
  refine r_icmp_ge (pc := 239) (tgt := 310) dX8_apart_239 rfl (fun hc => ?_) (fun hc => ?_)
  · replace hr := ite_t hc hr
    refine r_iload (pc := 310) (j := 3) dX8_apart_310 rfl ?_
    exact l_osi hr (r_iret (pc := 312) (v := v5_) rfl rfl ⟨Nat.le_refl _, Nat.le_refl _⟩ dX8_apart_312)
  replace hr := ite_f hc hr
  refine r_aload_n (pc := 242) (j := 0) dX8_apart_242 rfl rfl ?_
  refine r_aload_n (pc := 243) (j := 0) dX8_apart_243 rfl rfl ?_
  refine gf8_59 (pc := 244) tw_5_153 hw_ dX8_apart_244 ?_
  refine r_iload (pc := 247) (j := 4) dX8_apart_247 rfl ?_
  obtain ⟨h34, hr⟩ := grd_inv hr
  refine x_iald (pc := 249) (k := (Int32.toNatClampNeg v6_)) rfl h34 rfl dX8_apart_249 ?_
  refine r_bipush (pc := 250) (v := (6 : Int32)) dX8_apart_250 rfl ?_
  refine r_idiv (pc := 252) dX8_apart_252 (by decide) ?_
  refine r_aload_n (pc := 253) (j := 0) dX8_apart_253 rfl rfl ?_
  refine gf8_26 (pc := 254) tw_5_120 hw_ dX8_apart_254 ?_
  refine r_iconst (pc := 257) (v := (3 : Int32)) dX8_apart_257 rfl ?_
  refine x_iald (pc := 258) (k := 3) rfl (by decide) rfl dX8_apart_258 ?_
  obtain ⟨σ35, eσ35, hr⟩ := bnd1_inv hr
  refine kX8_judges (pc := 259) eσ35 tw_7_107 ⟨nle rfl, nle rfl⟩ (nle rfl) dX8_apart_259 fun hσ35 => ?_
  refine r_iload (pc := 262) (j := 3) dX8_apart_262 rfl ?_
  refine r_aload_n (pc := 264) (j := 0) dX8_apart_264 rfl rfl ?_
  refine gf8_55 (pc := 265) tw_5_149 rfl dX8_apart_265 ?_
  refine r_aload_n (pc := 268) (j := 0) dX8_apart_268 rfl rfl ?_
  refine gf8_59 (pc := 269) tw_5_153 hσ35 dX8_apart_269 ?_
  refine r_iload (pc := 272) (j := 4) dX8_apart_272 rfl ?_
  refine x_iald (pc := 274) (k := (Int32.toNatClampNeg v6_)) rfl h34 rfl dX8_apart_274 ?_
  refine r_bipush (pc := 275) (v := (6 : Int32)) dX8_apart_275 rfl ?_
  refine r_irem (pc := 277) dX8_apart_277 (by decide) ?_
  refine kX8_has (pc := 278) (hf := rfl) tw_6_133 ⟨nle rfl, nle rfl⟩ (nle rfl) dX8_apart_278 ?_
  refine r_iload (pc := 281) (j := 4) dX8_apart_281 rfl ?_
  refine r_iload (pc := 283) (j := 2) dX8_apart_283 rfl ?_
  obtain ⟨j293, ej293, hr⟩ := vth_ex hr
  have hj293 : ∀ (s36 : Int32), j293 s36 = some r → RR g mX8_apart (FinR g mX8_apart (some (.int r.1)) NF r.2) zF 293 [(0, .ref (ad g 73)), (2, .int u2_), (4, .int u4_), (6, .int v6_)] [.int s36, .int (b2i (fX8_has σ35 (gI σ35 73 55) (irm (gI σ35 108 (Int32.toNatClampNeg v6_)) (6 : Int32)))), .int v5_] σ35 := by
    intro s36 hr
    replace hr := (congrFun ej293 s36).symm.trans hr
    refine r_icmp_ne (pc := 293) (tgt := 300) dX8_apart_293 rfl (fun hc => ?_) (fun hc => ?_)
    · replace hr := ite_f hc hr
      refine r_iconst (pc := 300) (v := (1 : Int32)) dX8_apart_300 rfl ?_
      refine r_iadd (pc := 301) dX8_apart_301 ?_
      refine r_topi fun v37 ev37 => ?_
      replace hr := vthen_inv hr v37 ev37
      refine r_istore (pc := 302) (ls1 := [(5, .int v37), (0, .ref (ad g 73)), (2, .int u2_), (4, .int u4_), (6, .int v6_)]) dX8_apart_302 (nle rfl) rfl ?_
      refine r_iinc (pc := 304) (j := 4) (v := (v6_ + (1 : Int32))) (ls1 := [(6, .int (v6_ + (1 : Int32))), (5, .int v37), (0, .ref (ad g 73)), (2, .int u2_), (4, .int u4_)]) dX8_apart_304 rfl rfl (nle rfl) rfl ?_
      refine r_goto (pc := 307) (tgt := 236) dX8_apart_307 rfl ?_
      exact r_pick (ls1 := [(0, .ref (ad g 73)), (2, .int u2_), (4, .int u4_), (5, .int v37), (6, .int (v6_ + (1 : Int32)))]) [2, 3, 4, 1, 0] rfl (ih v37 (v6_ + (1 : Int32)) σ35 hr hσ35)
    replace hr := ite_t hc hr
    refine r_iconst (pc := 296) (v := (0 : Int32)) dX8_apart_296 rfl ?_
    refine r_goto (pc := 297) (tgt := 301) dX8_apart_297 rfl ?_
    refine r_iadd (pc := 301) dX8_apart_301 ?_
    refine r_topi fun v38 ev38 => ?_
    replace hr := vthen_inv hr v38 ev38
    refine r_istore (pc := 302) (ls1 := [(5, .int v38), (0, .ref (ad g 73)), (2, .int u2_), (4, .int u4_), (6, .int v6_)]) dX8_apart_302 (nle rfl) rfl ?_
    refine r_iinc (pc := 304) (j := 4) (v := (v6_ + (1 : Int32))) (ls1 := [(6, .int (v6_ + (1 : Int32))), (5, .int v38), (0, .ref (ad g 73)), (2, .int u2_), (4, .int u4_)]) dX8_apart_304 rfl rfl (nle rfl) rfl ?_
    refine r_goto (pc := 307) (tgt := 236) dX8_apart_307 rfl ?_
    exact r_pick (ls1 := [(0, .ref (ad g 73)), (2, .int u2_), (4, .int u4_), (5, .int v38), (6, .int (v6_ + (1 : Int32)))]) [2, 3, 4, 1, 0] rfl (ih v38 (v6_ + (1 : Int32)) σ35 hr hσ35)
  refine r_icmp_ge (pc := 285) (tgt := 292) dX8_apart_285 rfl (fun hc => ?_) (fun hc => ?_)
  · replace hr := ite_t hc hr
    refine r_iconst (pc := 292) (v := (0 : Int32)) dX8_apart_292 rfl ?_
    exact r_pick (ls1 := [(0, .ref (ad g 73)), (2, .int u2_), (4, .int u4_), (6, .int v6_)]) [0, 1, 2, 4] rfl (hj293 (0 : Int32) hr)
  replace hr := ite_f hc hr
  refine r_iconst (pc := 288) (v := (1 : Int32)) dX8_apart_288 rfl ?_
  refine r_goto (pc := 289) (tgt := 293) dX8_apart_289 rfl ?_
  exact r_pick (ls1 := [(0, .ref (ad g 73)), (2, .int u2_), (4, .int u4_), (6, .int v6_)]) [0, 1, 2, 4] rfl (hj293 (1 : Int32) hr)

set_option maxRecDepth 20000 in
theorem sX8_apart {g : GG} {σ : SS} {a1 : Int32} {r : Int32 × SS} (hr : fX8_apart σ a1 = some r)  : Ct g mX8_apart [.ref (ad g 73), .int a1] NF σ (some (.int r.1)) NF r.2 := by
  refine Ct.of (by decide +kernel) (nle rfl) fun hw0 => ?_
  have hw := hw0 rfl
  unfold fX8_apart at hr
  change RR g mX8_apart (FinR g mX8_apart (some (.int r.1)) NF r.2) zF 0 [(0, .ref (ad g 73)), (1, .int a1)] [] σ
  refine r_aload_n (pc := 0) (j := 0) dX8_apart_0 rfl rfl ?_
  refine gf8_12 (pc := 1) tw_5_106 rfl dX8_apart_1 ?_
  refine r_if_eq (pc := 4) (tgt := 16) dX8_apart_4 rfl (fun hc => ?_) (fun hc => ?_)
  · replace hr := ite_t hc hr
    refine r_iconst (pc := 16) (v := (-1 : Int32)) dX8_apart_16 rfl ?_
    exact l_osi hr (r_iret (pc := 17) (v := (-1 : Int32)) rfl rfl ⟨Nat.le_refl _, Nat.le_refl _⟩ dX8_apart_17)
  replace hr := ite_f hc hr
  refine r_iload_n (pc := 7) (j := 1) dX8_apart_7 rfl rfl ?_
  refine r_iconst (pc := 8) (v := (0 : Int32)) dX8_apart_8 rfl ?_
  refine r_iconst (pc := 9) (v := (2 : Int32)) dX8_apart_9 rfl ?_
  refine kX8_in (pc := 10) (hf := rfl) tw_6_65 ⟨nle rfl, nle rfl⟩ (nle rfl) dX8_apart_10 ?_
  refine r_ifB_ne (pc := 13) (tgt := 18) dX8_apart_13 rfl (fun hc => ?_) (fun hc => ?_)
  · replace hr := ite_t hc hr
    refine r_aload_n (pc := 18) (j := 0) dX8_apart_18 rfl rfl ?_
    obtain ⟨b2, σ4, eσ4, hr⟩ := bnd_inv hr
    refine kX8_finds (pc := 19) eσ4 tw_7_94 ⟨nle rfl, nle rfl⟩ (nle rfl) dX8_apart_19 fun hσ4 => ?_
    refine r_ifB_ne (pc := 22) (tgt := 28) dX8_apart_22 rfl (fun hc => ?_) (fun hc => ?_)
    · replace hr := ite_t hc hr
      refine r_iconst (pc := 28) (v := (0 : Int32)) dX8_apart_28 rfl ?_
      refine r_istore_n (pc := 29) (ls1 := [(2, .int (0 : Int32)), (0, .ref (ad g 73)), (1, .int a1)]) dX8_apart_29 rfl (nle rfl) rfl ?_
      refine r_iconst (pc := 30) (v := (0 : Int32)) dX8_apart_30 rfl ?_
      refine r_istore_n (pc := 31) (ls1 := [(3, .int (0 : Int32)), (2, .int (0 : Int32)), (0, .ref (ad g 73)), (1, .int a1)]) dX8_apart_31 rfl (nle rfl) rfl ?_
      refine r_pick (ls1 := [(0, .ref (ad g 73)), (1, .int a1), (2, .int (0 : Int32)), (3, .int (0 : Int32))]) [2, 3, 1, 0] rfl ?_
      refine sX8_apart_L32    (fun v24 σ25 hr hσ25 => ?_) fuel (0 : Int32) (0 : Int32) σ4 hr hσ4
      refine r_iconst (pc := 145) (v := (0 : Int32)) dX8_apart_145 rfl ?_
      refine r_istore_n (pc := 146) (ls1 := [(3, .int (0 : Int32)), (0, .ref (ad g 73)), (1, .int a1), (2, .int v24)]) dX8_apart_146 rfl (nle rfl) rfl ?_
      refine r_iconst (pc := 147) (v := (0 : Int32)) dX8_apart_147 rfl ?_
      refine r_istore (pc := 148) (ls1 := [(4, .int (0 : Int32)), (3, .int (0 : Int32)), (0, .ref (ad g 73)), (1, .int a1), (2, .int v24)]) dX8_apart_148 (nle rfl) rfl ?_
      refine r_iconst (pc := 150) (v := (0 : Int32)) dX8_apart_150 rfl ?_
      refine r_istore (pc := 151) (ls1 := [(5, .int (0 : Int32)), (4, .int (0 : Int32)), (3, .int (0 : Int32)), (0, .ref (ad g 73)), (1, .int a1), (2, .int v24)]) dX8_apart_151 (nle rfl) rfl ?_
      refine r_pick (ls1 := [(0, .ref (ad g 73)), (1, .int a1), (2, .int v24), (3, .int (0 : Int32)), (4, .int (0 : Int32)), (5, .int (0 : Int32))]) [3, 4, 5, 2, 1, 0] rfl ?_
      refine sX8_apart_L153  hσ25  (fun v32 v33 hr => ?_) fuel (0 : Int32) (0 : Int32) (0 : Int32) hr
      refine r_iload_n (pc := 214) (j := 1) dX8_apart_214 rfl rfl ?_
      refine r_iconst (pc := 215) (v := (2 : Int32)) dX8_apart_215 rfl ?_
      refine r_icmp_ge (pc := 216) (tgt := 230) dX8_apart_216 rfl (fun hc => ?_) (fun hc => ?_)
      · replace hr := ite_t hc hr
        refine r_iconst (pc := 230) (v := (0 : Int32)) dX8_apart_230 rfl ?_
        refine r_istore (pc := 231) (ls1 := [(5, .int (0 : Int32)), (0, .ref (ad g 73)), (1, .int a1), (2, .int v24), (3, .int v32), (4, .int v33)]) dX8_apart_231 (nle rfl) rfl ?_
        refine r_iconst (pc := 233) (v := (0 : Int32)) dX8_apart_233 rfl ?_
        refine r_istore (pc := 234) (ls1 := [(6, .int (0 : Int32)), (5, .int (0 : Int32)), (0, .ref (ad g 73)), (1, .int a1), (2, .int v24), (3, .int v32), (4, .int v33)]) dX8_apart_234 (nle rfl) rfl ?_
        refine r_pick (ls1 := [(0, .ref (ad g 73)), (2, .int v24), (4, .int v33), (5, .int (0 : Int32)), (6, .int (0 : Int32))]) [2, 4, 6, 1, 0] rfl ?_
        refine sX8_apart_L236     fuel (0 : Int32) (0 : Int32) σ25 hr hσ25
      replace hr := ite_f hc hr
      refine r_iload_n (pc := 219) (j := 1) dX8_apart_219 rfl rfl ?_
      refine r_if_ne (pc := 220) (tgt := 227) dX8_apart_220 rfl (fun hc => ?_) (fun hc => ?_)
      · replace hr := ite_f hc hr
        refine r_iload (pc := 227) (j := 4) dX8_apart_227 rfl ?_
        exact l_osi hr (r_iret (pc := 229) (v := v33) rfl rfl ⟨Nat.le_refl _, Nat.le_refl _⟩ dX8_apart_229)
      replace hr := ite_t hc hr
      refine r_iload_n (pc := 223) (j := 3) dX8_apart_223 rfl rfl ?_
      refine r_goto (pc := 224) (tgt := 229) dX8_apart_224 rfl ?_
      exact l_osi hr (r_iret (pc := 229) (v := v32) rfl rfl ⟨Nat.le_refl _, Nat.le_refl _⟩ dX8_apart_229)
    replace hr := ite_f hc hr
    refine r_bipush (pc := 25) (v := (-2 : Int32)) dX8_apart_25 rfl ?_
    exact l_osi hr (r_iret (pc := 27) (v := (-2 : Int32)) rfl rfl ⟨Nat.le_refl _, Nat.le_refl _⟩ dX8_apart_27)
  replace hr := ite_f hc hr
  refine r_iconst (pc := 16) (v := (-1 : Int32)) dX8_apart_16 rfl ?_
  exact l_osi hr (r_iret (pc := 17) (v := (-1 : Int32)) rfl rfl ⟨Nat.le_refl _, Nat.le_refl _⟩ dX8_apart_17)

theorem kX8_apart {g : GG} {σ : SS} {a1 : Int32} {v : Int32} {σ2 : SS} {M : MM} {F : State → Array Value → List Frame → State → Prop} {pc index : Nat} {ls : List (Nat × Value)} {rest : List Value} (hf : fX8_apart σ a1 = some (v, σ2))  (hl : Cond.methodLink M.1.cls index yX8_apart ∈ lw_gt) (hR : mX8_apart.2.2.2.2.frames + 1 ≤ M.2.2.2.2.frames ∧ 8 + (mX8_apart.2.2.1 + 11) + mX8_apart.2.2.2.2.locals ≤ M.2.2.2.2.locals) (hrest : (rest.map fun v => v.category).sum ≤ 8) (hd : decode M.2.1 pc = .ok (.invokevirtual index, 3)) (k : WT σ2 → RR g M F zF (pc + 3) ls (.int v :: rest) σ2) : RR g M F zF pc ls (.int a1 :: .ref (ad g 73) :: rest) σ :=
  r_callV (z := zF) (N := mX8_apart) (nn := 1) (o1 := some (.int v)) (sX8_apart hf ) (rfl : shp 73 = (8, 0)) (by decide) (shp_le (rfl : shp 73 = (8, 0)) (nle rfl)) (ci := 8) rfl rfl tw_7_150 tw_1_10 hl tw_7_148 tw_7_149 ⟨by decide, by decide, rfl⟩ hR rfl hrest hd ⟨Nat.zero_le _, Nat.zero_le _⟩ rfl (fun h => k (h rfl))

theorem dX3_leastMargin_0 : decode cX3_leastMargin 0 = .ok (.aload_n 0, 1) := by decide +kernel
theorem dX3_leastMargin_1 : decode cX3_leastMargin 1 = .ok (.getfield 47, 3) := by decide +kernel
theorem dX3_leastMargin_4 : decode cX3_leastMargin 4 = .ok (.iload_n 1, 1) := by decide +kernel
theorem dX3_leastMargin_5 : decode cX3_leastMargin 5 = .ok (.iaload, 1) := by decide +kernel
theorem dX3_leastMargin_6 : decode cX3_leastMargin 6 = .ok (.istore_n 2, 1) := by decide +kernel
theorem dX3_leastMargin_7 : decode cX3_leastMargin 7 = .ok (.aload_n 0, 1) := by decide +kernel
theorem dX3_leastMargin_8 : decode cX3_leastMargin 8 = .ok (.getfield 9, 3) := by decide +kernel
theorem dX3_leastMargin_11 : decode cX3_leastMargin 11 = .ok (.iconst 3, 1) := by decide +kernel
theorem dX3_leastMargin_12 : decode cX3_leastMargin 12 = .ok (.iaload, 1) := by decide +kernel
theorem dX3_leastMargin_13 : decode cX3_leastMargin 13 = .ok (.iload_n 2, 1) := by decide +kernel
theorem dX3_leastMargin_14 : decode cX3_leastMargin 14 = .ok (.if_icmp .gt 5, 3) := by decide +kernel
theorem dX3_leastMargin_17 : decode cX3_leastMargin 17 = .ok (.iconst 1, 1) := by decide +kernel
theorem dX3_leastMargin_18 : decode cX3_leastMargin 18 = .ok (.ireturn, 1) := by decide +kernel
theorem dX3_leastMargin_19 : decode cX3_leastMargin 19 = .ok (.aload_n 0, 1) := by decide +kernel
theorem dX3_leastMargin_20 : decode cX3_leastMargin 20 = .ok (.getfield 9, 3) := by decide +kernel
theorem dX3_leastMargin_23 : decode cX3_leastMargin 23 = .ok (.iconst 3, 1) := by decide +kernel
theorem dX3_leastMargin_24 : decode cX3_leastMargin 24 = .ok (.iaload, 1) := by decide +kernel
theorem dX3_leastMargin_25 : decode cX3_leastMargin 25 = .ok (.iconst 2, 1) := by decide +kernel
theorem dX3_leastMargin_26 : decode cX3_leastMargin 26 = .ok (.iload_n 2, 1) := by decide +kernel
theorem dX3_leastMargin_27 : decode cX3_leastMargin 27 = .ok (.imul, 1) := by decide +kernel
theorem dX3_leastMargin_28 : decode cX3_leastMargin 28 = .ok (.if_icmp .gt 9, 3) := by decide +kernel
theorem dX3_leastMargin_31 : decode cX3_leastMargin 31 = .ok (.iload_n 2, 1) := by decide +kernel
theorem dX3_leastMargin_32 : decode cX3_leastMargin 32 = .ok (.iconst 1, 1) := by decide +kernel
theorem dX3_leastMargin_33 : decode cX3_leastMargin 33 = .ok (.iadd, 1) := by decide +kernel
theorem dX3_leastMargin_34 : decode cX3_leastMargin 34 = .ok (.goto 8, 3) := by decide +kernel
theorem dX3_leastMargin_37 : decode cX3_leastMargin 37 = .ok (.iconst 2, 1) := by decide +kernel
theorem dX3_leastMargin_38 : decode cX3_leastMargin 38 = .ok (.iload_n 2, 1) := by decide +kernel
theorem dX3_leastMargin_39 : decode cX3_leastMargin 39 = .ok (.imul, 1) := by decide +kernel
theorem dX3_leastMargin_40 : decode cX3_leastMargin 40 = .ok (.iconst 1, 1) := by decide +kernel
theorem dX3_leastMargin_41 : decode cX3_leastMargin 41 = .ok (.iadd, 1) := by decide +kernel
theorem dX3_leastMargin_42 : decode cX3_leastMargin 42 = .ok (.ireturn, 1) := by decide +kernel
def mX3_leastMargin : MM := (yX3_leastMargin, cX3_leastMargin, 3, Option.some Jvm.ClassFile.FieldType.int, { frames := 0, cells := 0, slots := 0, locals := 0 })
def fX3_leastMargin (σ0 : SS) (a1 : Int32) : Option Int32 :=
  grd (inb a1 12) <|
  vthen (gI σ0 56 (Int32.toNatClampNeg a1)) fun v2 =>
  if v2 < (gI σ0 32 3) then (
    if ((2 : Int32) * v2) < (gI σ0 32 3) then (
      some (((2 : Int32) * v2) + (1 : Int32))
      ) else (
      some (v2 + (1 : Int32))
      )
    ) else (
    some (1 : Int32)
    )

set_option maxRecDepth 20000 in
theorem sX3_leastMargin {g : GG} {σ0 : SS} {a1 : Int32} {r : Int32} (hr : fX3_leastMargin σ0 a1 = some r)  : Ct g mX3_leastMargin [.ref (ad g 31), .int a1] NF σ0 (some (.int r)) NF σ0 := by
  refine Ct.of (by decide +kernel) (nle rfl) fun hw0 => ?_
  have hw := hw0 rfl
  unfold fX3_leastMargin at hr
  change RR g mX3_leastMargin (FinR g mX3_leastMargin (some (.int r)) NF σ0) zF 0 [(0, .ref (ad g 31)), (1, .int a1)] [] σ0
  refine r_aload_n (pc := 0) (j := 0) dX3_leastMargin_0 rfl rfl ?_
  refine gf3_10 (pc := 1) tw_2_43 hw dX3_leastMargin_1 ?_
  refine r_iload_n (pc := 4) (j := 1) dX3_leastMargin_4 rfl rfl ?_
  obtain ⟨h1, hr⟩ := grd_inv hr
  refine x_iald (pc := 5) (k := (Int32.toNatClampNeg a1)) rfl h1 rfl dX3_leastMargin_5 ?_
  refine r_topi fun v2 ev2 => ?_
  replace hr := vthen_inv hr v2 ev2
  refine r_istore_n (pc := 6) (ls1 := [(2, .int v2), (0, .ref (ad g 31)), (1, .int a1)]) dX3_leastMargin_6 rfl (nle rfl) rfl ?_
  refine r_aload_n (pc := 7) (j := 1) dX3_leastMargin_7 rfl rfl ?_
  refine gf3_0 (pc := 8) tw_2_22 hw dX3_leastMargin_8 ?_
  refine r_iconst (pc := 11) (v := (3 : Int32)) dX3_leastMargin_11 rfl ?_
  refine x_iald (pc := 12) (k := 3) rfl (by decide) rfl dX3_leastMargin_12 ?_
  refine r_iload_n (pc := 13) (j := 0) dX3_leastMargin_13 rfl rfl ?_
  refine r_icmp_gt (pc := 14) (tgt := 19) dX3_leastMargin_14 rfl (fun hc => ?_) (fun hc => ?_)
  · replace hr := ite_t hc hr
    refine r_aload_n (pc := 19) (j := 1) dX3_leastMargin_19 rfl rfl ?_
    refine gf3_0 (pc := 20) tw_2_22 hw dX3_leastMargin_20 ?_
    refine r_iconst (pc := 23) (v := (3 : Int32)) dX3_leastMargin_23 rfl ?_
    refine x_iald (pc := 24) (k := 3) rfl (by decide) rfl dX3_leastMargin_24 ?_
    refine r_iconst (pc := 25) (v := (2 : Int32)) dX3_leastMargin_25 rfl ?_
    refine r_iload_n (pc := 26) (j := 0) dX3_leastMargin_26 rfl rfl ?_
    refine r_imul (pc := 27) dX3_leastMargin_27 ?_
    refine r_icmp_gt (pc := 28) (tgt := 37) dX3_leastMargin_28 rfl (fun hc => ?_) (fun hc => ?_)
    · replace hr := ite_t hc hr
      refine r_iconst (pc := 37) (v := (2 : Int32)) dX3_leastMargin_37 rfl ?_
      refine r_iload_n (pc := 38) (j := 0) dX3_leastMargin_38 rfl rfl ?_
      refine r_imul (pc := 39) dX3_leastMargin_39 ?_
      refine r_iconst (pc := 40) (v := (1 : Int32)) dX3_leastMargin_40 rfl ?_
      refine r_iadd (pc := 41) dX3_leastMargin_41 ?_
      exact l_opi hr (r_iret (pc := 42) (v := (((2 : Int32) * v2) + (1 : Int32))) rfl rfl ⟨Nat.le_refl _, Nat.le_refl _⟩ dX3_leastMargin_42)
    replace hr := ite_f hc hr
    refine r_iload_n (pc := 31) (j := 0) dX3_leastMargin_31 rfl rfl ?_
    refine r_iconst (pc := 32) (v := (1 : Int32)) dX3_leastMargin_32 rfl ?_
    refine r_iadd (pc := 33) dX3_leastMargin_33 ?_
    refine r_goto (pc := 34) (tgt := 42) dX3_leastMargin_34 rfl ?_
    exact l_opi hr (r_iret (pc := 42) (v := (v2 + (1 : Int32))) rfl rfl ⟨Nat.le_refl _, Nat.le_refl _⟩ dX3_leastMargin_42)
  replace hr := ite_f hc hr
  refine r_iconst (pc := 17) (v := (1 : Int32)) dX3_leastMargin_17 rfl ?_
  exact l_opi hr (r_iret (pc := 18) (v := (1 : Int32)) rfl rfl ⟨Nat.le_refl _, Nat.le_refl _⟩ dX3_leastMargin_18)

theorem kX3_leastMargin {g : GG} {σ0 : SS} {a1 : Int32} {v : Int32} {M : MM} {F : State → Array Value → List Frame → State → Prop} {pc index : Nat} {ls : List (Nat × Value)} {rest : List Value} (hf : fX3_leastMargin σ0 a1 = some v)  (hl : Cond.methodLink M.1.cls index yX3_leastMargin ∈ lw_gt) (hR : mX3_leastMargin.2.2.2.2.frames + 1 ≤ M.2.2.2.2.frames ∧ 8 + (mX3_leastMargin.2.2.1 + 11) + mX3_leastMargin.2.2.2.2.locals ≤ M.2.2.2.2.locals) (hrest : (rest.map fun v => v.category).sum ≤ 8) (hd : decode M.2.1 pc = .ok (.invokevirtual index, 3)) (k : RR g M F zF (pc + 3) ls (.int v :: rest) σ0) : RR g M F zF pc ls (.int a1 :: .ref (ad g 31) :: rest) σ0 :=
  r_callV (z := zF) (N := mX3_leastMargin) (nn := 1) (o1 := some (.int v)) (sX3_leastMargin hf ) (rfl : shp 31 = (3, 0)) (by decide) (shp_le (rfl : shp 31 = (3, 0)) (nle rfl)) (ci := 3) rfl rfl tw_4_206 tw_1_5 hl tw_4_204 tw_4_205 ⟨by decide, by decide, rfl⟩ hR rfl hrest hd ⟨Nat.zero_le _, Nat.zero_le _⟩ rfl (fun h => k)

theorem dX3_greatestMargin_0 : decode cX3_greatestMargin 0 = .ok (.aload_n 0, 1) := by decide +kernel
theorem dX3_greatestMargin_1 : decode cX3_greatestMargin 1 = .ok (.getfield 47, 3) := by decide +kernel
theorem dX3_greatestMargin_4 : decode cX3_greatestMargin 4 = .ok (.iload_n 1, 1) := by decide +kernel
theorem dX3_greatestMargin_5 : decode cX3_greatestMargin 5 = .ok (.iaload, 1) := by decide +kernel
theorem dX3_greatestMargin_6 : decode cX3_greatestMargin 6 = .ok (.istore_n 2, 1) := by decide +kernel
theorem dX3_greatestMargin_7 : decode cX3_greatestMargin 7 = .ok (.aload_n 0, 1) := by decide +kernel
theorem dX3_greatestMargin_8 : decode cX3_greatestMargin 8 = .ok (.getfield 9, 3) := by decide +kernel
theorem dX3_greatestMargin_11 : decode cX3_greatestMargin 11 = .ok (.iconst 3, 1) := by decide +kernel
theorem dX3_greatestMargin_12 : decode cX3_greatestMargin 12 = .ok (.iaload, 1) := by decide +kernel
theorem dX3_greatestMargin_13 : decode cX3_greatestMargin 13 = .ok (.iload_n 2, 1) := by decide +kernel
theorem dX3_greatestMargin_14 : decode cX3_greatestMargin 14 = .ok (.if_icmp .gt 11, 3) := by decide +kernel
theorem dX3_greatestMargin_17 : decode cX3_greatestMargin 17 = .ok (.iload_n 2, 1) := by decide +kernel
theorem dX3_greatestMargin_18 : decode cX3_greatestMargin 18 = .ok (.sipush 200, 3) := by decide +kernel
theorem dX3_greatestMargin_21 : decode cX3_greatestMargin 21 = .ok (.invokestatic 109, 3) := by decide +kernel
theorem dX3_greatestMargin_24 : decode cX3_greatestMargin 24 = .ok (.ireturn, 1) := by decide +kernel
theorem dX3_greatestMargin_25 : decode cX3_greatestMargin 25 = .ok (.aload_n 0, 1) := by decide +kernel
theorem dX3_greatestMargin_26 : decode cX3_greatestMargin 26 = .ok (.getfield 9, 3) := by decide +kernel
theorem dX3_greatestMargin_29 : decode cX3_greatestMargin 29 = .ok (.iconst 3, 1) := by decide +kernel
theorem dX3_greatestMargin_30 : decode cX3_greatestMargin 30 = .ok (.iaload, 1) := by decide +kernel
theorem dX3_greatestMargin_31 : decode cX3_greatestMargin 31 = .ok (.iconst 2, 1) := by decide +kernel
theorem dX3_greatestMargin_32 : decode cX3_greatestMargin 32 = .ok (.iload_n 2, 1) := by decide +kernel
theorem dX3_greatestMargin_33 : decode cX3_greatestMargin 33 = .ok (.imul, 1) := by decide +kernel
theorem dX3_greatestMargin_34 : decode cX3_greatestMargin 34 = .ok (.if_icmp .gt 15, 3) := by decide +kernel
theorem dX3_greatestMargin_37 : decode cX3_greatestMargin 37 = .ok (.iconst 2, 1) := by decide +kernel
theorem dX3_greatestMargin_38 : decode cX3_greatestMargin 38 = .ok (.iload_n 2, 1) := by decide +kernel
theorem dX3_greatestMargin_39 : decode cX3_greatestMargin 39 = .ok (.imul, 1) := by decide +kernel
theorem dX3_greatestMargin_40 : decode cX3_greatestMargin 40 = .ok (.sipush 200, 3) := by decide +kernel
theorem dX3_greatestMargin_43 : decode cX3_greatestMargin 43 = .ok (.invokestatic 109, 3) := by decide +kernel
theorem dX3_greatestMargin_46 : decode cX3_greatestMargin 46 = .ok (.goto 6, 3) := by decide +kernel
theorem dX3_greatestMargin_49 : decode cX3_greatestMargin 49 = .ok (.sipush 200, 3) := by decide +kernel
theorem dX3_greatestMargin_52 : decode cX3_greatestMargin 52 = .ok (.ireturn, 1) := by decide +kernel
def mX3_greatestMargin : MM := (yX3_greatestMargin, cX3_greatestMargin, 3, Option.some Jvm.ClassFile.FieldType.int, { frames := 1, cells := 0, slots := 0, locals := 21 })
def fX3_greatestMargin (σ0 : SS) (a1 : Int32) : Option Int32 :=
  grd (inb a1 12) <|
  vthen (gI σ0 56 (Int32.toNatClampNeg a1)) fun v2 =>
  if v2 < (gI σ0 32 3) then (
    if ((2 : Int32) * v2) < (gI σ0 32 3) then (
      some (200 : Int32)
      ) else (
      some (fJ9_min_7cf53 σ0 ((2 : Int32) * v2) (200 : Int32))
      )
    ) else (
    some (fJ9_min_7cf53 σ0 v2 (200 : Int32))
    )

set_option maxRecDepth 20000 in
theorem sX3_greatestMargin {g : GG} {σ0 : SS} {a1 : Int32} {r : Int32} (hr : fX3_greatestMargin σ0 a1 = some r)  : Ct g mX3_greatestMargin [.ref (ad g 31), .int a1] NF σ0 (some (.int r)) NF σ0 := by
  refine Ct.of (by decide +kernel) (nle rfl) fun hw0 => ?_
  have hw := hw0 rfl
  unfold fX3_greatestMargin at hr
  change RR g mX3_greatestMargin (FinR g mX3_greatestMargin (some (.int r)) NF σ0) zF 0 [(0, .ref (ad g 31)), (1, .int a1)] [] σ0
  refine r_aload_n (pc := 0) (j := 0) dX3_greatestMargin_0 rfl rfl ?_
  refine gf3_10 (pc := 1) tw_2_43 hw dX3_greatestMargin_1 ?_
  refine r_iload_n (pc := 4) (j := 1) dX3_greatestMargin_4 rfl rfl ?_
  obtain ⟨h1, hr⟩ := grd_inv hr
  refine x_iald (pc := 5) (k := (Int32.toNatClampNeg a1)) rfl h1 rfl dX3_greatestMargin_5 ?_
  refine r_topi fun v2 ev2 => ?_
  replace hr := vthen_inv hr v2 ev2
  refine r_istore_n (pc := 6) (ls1 := [(2, .int v2), (0, .ref (ad g 31)), (1, .int a1)]) dX3_greatestMargin_6 rfl (nle rfl) rfl ?_
  refine r_aload_n (pc := 7) (j := 1) dX3_greatestMargin_7 rfl rfl ?_
  refine gf3_0 (pc := 8) tw_2_22 hw dX3_greatestMargin_8 ?_
  refine r_iconst (pc := 11) (v := (3 : Int32)) dX3_greatestMargin_11 rfl ?_
  refine x_iald (pc := 12) (k := 3) rfl (by decide) rfl dX3_greatestMargin_12 ?_
  refine r_iload_n (pc := 13) (j := 0) dX3_greatestMargin_13 rfl rfl ?_
  refine r_icmp_gt (pc := 14) (tgt := 25) dX3_greatestMargin_14 rfl (fun hc => ?_) (fun hc => ?_)
  · replace hr := ite_t hc hr
    refine r_aload_n (pc := 25) (j := 1) dX3_greatestMargin_25 rfl rfl ?_
    refine gf3_0 (pc := 26) tw_2_22 hw dX3_greatestMargin_26 ?_
    refine r_iconst (pc := 29) (v := (3 : Int32)) dX3_greatestMargin_29 rfl ?_
    refine x_iald (pc := 30) (k := 3) rfl (by decide) rfl dX3_greatestMargin_30 ?_
    refine r_iconst (pc := 31) (v := (2 : Int32)) dX3_greatestMargin_31 rfl ?_
    refine r_iload_n (pc := 32) (j := 0) dX3_greatestMargin_32 rfl rfl ?_
    refine r_imul (pc := 33) dX3_greatestMargin_33 ?_
    refine r_icmp_gt (pc := 34) (tgt := 49) dX3_greatestMargin_34 rfl (fun hc => ?_) (fun hc => ?_)
    · replace hr := ite_t hc hr
      refine r_sipush (pc := 49) (v := (200 : Int32)) dX3_greatestMargin_49 rfl ?_
      exact l_opi hr (r_iret (pc := 52) (v := (200 : Int32)) rfl rfl ⟨Nat.le_refl _, Nat.le_refl _⟩ dX3_greatestMargin_52)
    replace hr := ite_f hc hr
    refine r_iconst (pc := 37) (v := (2 : Int32)) dX3_greatestMargin_37 rfl ?_
    refine r_iload_n (pc := 38) (j := 0) dX3_greatestMargin_38 rfl rfl ?_
    refine r_imul (pc := 39) dX3_greatestMargin_39 ?_
    refine r_sipush (pc := 40) (v := (200 : Int32)) dX3_greatestMargin_40 rfl ?_
    refine kJ9_min_7cf53 (pc := 43) (hf := rfl) tw_4_129 ⟨nle rfl, nle rfl⟩ (nle rfl) dX3_greatestMargin_43 ?_
    refine r_goto (pc := 46) (tgt := 52) dX3_greatestMargin_46 rfl ?_
    exact l_opi hr (r_iret (pc := 52) (v := (fJ9_min_7cf53 σ0 ((2 : Int32) * v2) (200 : Int32))) rfl rfl ⟨Nat.le_refl _, Nat.le_refl _⟩ dX3_greatestMargin_52)
  replace hr := ite_f hc hr
  refine r_iload_n (pc := 17) (j := 0) dX3_greatestMargin_17 rfl rfl ?_
  refine r_sipush (pc := 18) (v := (200 : Int32)) dX3_greatestMargin_18 rfl ?_
  refine kJ9_min_7cf53 (pc := 21) (hf := rfl) tw_4_129 ⟨nle rfl, nle rfl⟩ (nle rfl) dX3_greatestMargin_21 ?_
  exact l_opi hr (r_iret (pc := 24) (v := (fJ9_min_7cf53 σ0 v2 (200 : Int32))) rfl rfl ⟨Nat.le_refl _, Nat.le_refl _⟩ dX3_greatestMargin_24)

theorem kX3_greatestMargin {g : GG} {σ0 : SS} {a1 : Int32} {v : Int32} {M : MM} {F : State → Array Value → List Frame → State → Prop} {pc index : Nat} {ls : List (Nat × Value)} {rest : List Value} (hf : fX3_greatestMargin σ0 a1 = some v)  (hl : Cond.methodLink M.1.cls index yX3_greatestMargin ∈ lw_gt) (hR : mX3_greatestMargin.2.2.2.2.frames + 1 ≤ M.2.2.2.2.frames ∧ 8 + (mX3_greatestMargin.2.2.1 + 11) + mX3_greatestMargin.2.2.2.2.locals ≤ M.2.2.2.2.locals) (hrest : (rest.map fun v => v.category).sum ≤ 8) (hd : decode M.2.1 pc = .ok (.invokevirtual index, 3)) (k : RR g M F zF (pc + 3) ls (.int v :: rest) σ0) : RR g M F zF pc ls (.int a1 :: .ref (ad g 31) :: rest) σ0 :=
  r_callV (z := zF) (N := mX3_greatestMargin) (nn := 1) (o1 := some (.int v)) (sX3_greatestMargin hf ) (rfl : shp 31 = (3, 0)) (by decide) (shp_le (rfl : shp 31 = (3, 0)) (nle rfl)) (ci := 3) rfl rfl tw_4_210 tw_1_5 hl tw_4_208 tw_4_209 ⟨by decide, by decide, rfl⟩ hR rfl hrest hd ⟨Nat.zero_le _, Nat.zero_le _⟩ rfl (fun h => k)

theorem dX7_steady_0 : decode cX7_steady 0 = .ok (.aload_n 0, 1) := by decide +kernel
theorem dX7_steady_1 : decode cX7_steady 1 = .ok (.getfield 32, 3) := by decide +kernel
theorem dX7_steady_4 : decode cX7_steady 4 = .ok (.iload_n 1, 1) := by decide +kernel
theorem dX7_steady_5 : decode cX7_steady 5 = .ok (.invokevirtual 121, 3) := by decide +kernel
theorem dX7_steady_8 : decode cX7_steady 8 = .ok (.ifCond .eq 12, 3) := by decide +kernel
theorem dX7_steady_11 : decode cX7_steady 11 = .ok (.iload_n 2, 1) := by decide +kernel
theorem dX7_steady_12 : decode cX7_steady 12 = .ok (.ifCond .lt 8, 3) := by decide +kernel
theorem dX7_steady_15 : decode cX7_steady 15 = .ok (.iload_n 2, 1) := by decide +kernel
theorem dX7_steady_16 : decode cX7_steady 16 = .ok (.iconst 1, 1) := by decide +kernel
theorem dX7_steady_17 : decode cX7_steady 17 = .ok (.if_icmp .le 5, 3) := by decide +kernel
theorem dX7_steady_20 : decode cX7_steady 20 = .ok (.iconst (-1), 1) := by decide +kernel
theorem dX7_steady_21 : decode cX7_steady 21 = .ok (.ireturn, 1) := by decide +kernel
theorem dX7_steady_22 : decode cX7_steady 22 = .ok (.aload_n 0, 1) := by decide +kernel
theorem dX7_steady_23 : decode cX7_steady 23 = .ok (.getfield 62, 3) := by decide +kernel
theorem dX7_steady_26 : decode cX7_steady 26 = .ok (.aload_n 0, 1) := by decide +kernel
theorem dX7_steady_27 : decode cX7_steady 27 = .ok (.getfield 18, 3) := by decide +kernel
theorem dX7_steady_30 : decode cX7_steady 30 = .ok (.aload_n 0, 1) := by decide +kernel
theorem dX7_steady_31 : decode cX7_steady 31 = .ok (.getfield 32, 3) := by decide +kernel
theorem dX7_steady_34 : decode cX7_steady 34 = .ok (.invokevirtual 303, 3) := by decide +kernel
theorem dX7_steady_37 : decode cX7_steady 37 = .ok (.ifCond .ne 6, 3) := by decide +kernel
theorem dX7_steady_40 : decode cX7_steady 40 = .ok (.bipush (-2), 2) := by decide +kernel
theorem dX7_steady_42 : decode cX7_steady 42 = .ok (.ireturn, 1) := by decide +kernel
theorem dX7_steady_43 : decode cX7_steady 43 = .ok (.iload_n 2, 1) := by decide +kernel
theorem dX7_steady_44 : decode cX7_steady 44 = .ok (.ifCond .ne 14, 3) := by decide +kernel
theorem dX7_steady_47 : decode cX7_steady 47 = .ok (.aload_n 0, 1) := by decide +kernel
theorem dX7_steady_48 : decode cX7_steady 48 = .ok (.getfield 62, 3) := by decide +kernel
theorem dX7_steady_51 : decode cX7_steady 51 = .ok (.iload_n 1, 1) := by decide +kernel
theorem dX7_steady_52 : decode cX7_steady 52 = .ok (.invokevirtual 341, 3) := by decide +kernel
theorem dX7_steady_55 : decode cX7_steady 55 = .ok (.goto 11, 3) := by decide +kernel
theorem dX7_steady_58 : decode cX7_steady 58 = .ok (.aload_n 0, 1) := by decide +kernel
theorem dX7_steady_59 : decode cX7_steady 59 = .ok (.getfield 62, 3) := by decide +kernel
theorem dX7_steady_62 : decode cX7_steady 62 = .ok (.iload_n 1, 1) := by decide +kernel
theorem dX7_steady_63 : decode cX7_steady 63 = .ok (.invokevirtual 344, 3) := by decide +kernel
theorem dX7_steady_66 : decode cX7_steady 66 = .ok (.ireturn, 1) := by decide +kernel
def mX7_steady : MM := (yX7_steady, cX7_steady, 3, Option.some Jvm.ClassFile.FieldType.int, { frames := 6, cells := 0, slots := 0, locals := 148 })
def fX7_steady (σ : SS) (a1 : Int32) (a2 : Int32) : Option (Int32 × SS) :=
  if (fX1_hasQuestion σ (gR σ 1 5) a1) = true then (
    if a2 < 0 then (
      some ((-1 : Int32), σ)
      ) else (
      if a2 ≤ (1 : Int32) then (
        bnd (fX3_read σ (gR σ 1 2) (gR σ 1 5)) fun b2 σ4 =>
        if b2 = true then (
          if a2 = 0 then (
            bnd1 (fX3_leastMargin σ4 a1) fun v8 =>
            some (v8, σ4)
            ) else (
            bnd1 (fX3_greatestMargin σ4 a1) fun v5 =>
            some (v5, σ4)
            )
          ) else (
          some ((-2 : Int32), σ4)
          )
        ) else (
        some ((-1 : Int32), σ)
        )
      )
    ) else (
    some ((-1 : Int32), σ)
    )

set_option maxRecDepth 20000 in
theorem sX7_steady {g : GG} {σ : SS} {a1 : Int32} {a2 : Int32} {r : Int32 × SS} (hr : fX7_steady σ a1 a2 = some r)  : Ct g mX7_steady [.ref (ad g 1), .int a1, .int a2] NF σ (some (.int r.1)) NF r.2 := by
  refine Ct.of (by decide +kernel) (nle rfl) fun hw0 => ?_
  have hw := hw0 rfl
  unfold fX7_steady at hr
  change RR g mX7_steady (FinR g mX7_steady (some (.int r.1)) NF r.2) zF 0 [(0, .ref (ad g 1)), (1, .int a1), (2, .int a2)] [] σ
  refine r_aload_n (pc := 0) (j := 0) dX7_steady_0 rfl rfl ?_
  refine gf7_5 (pc := 1) tw_2_114 hw dX7_steady_1 ?_
  refine r_iload_n (pc := 4) (j := 1) dX7_steady_4 rfl rfl ?_
  refine kX1_hasQuestion (pc := 5) (hf := rfl) (wt_fo hw).1 tw_3_87 ⟨nle rfl, nle rfl⟩ (nle rfl) dX7_steady_5 ?_
  refine r_ifB_eq (pc := 8) (tgt := 20) dX7_steady_8 rfl (fun hc => ?_) (fun hc => ?_)
  · replace hr := ite_f hc hr
    refine r_iconst (pc := 20) (v := (-1 : Int32)) dX7_steady_20 rfl ?_
    exact l_osi hr (r_iret (pc := 21) (v := (-1 : Int32)) rfl rfl ⟨Nat.le_refl _, Nat.le_refl _⟩ dX7_steady_21)
  replace hr := ite_t hc hr
  refine r_iload_n (pc := 11) (j := 2) dX7_steady_11 rfl rfl ?_
  refine r_if_lt (pc := 12) (tgt := 20) dX7_steady_12 rfl (fun hc => ?_) (fun hc => ?_)
  · replace hr := ite_t hc hr
    refine r_iconst (pc := 20) (v := (-1 : Int32)) dX7_steady_20 rfl ?_
    exact l_osi hr (r_iret (pc := 21) (v := (-1 : Int32)) rfl rfl ⟨Nat.le_refl _, Nat.le_refl _⟩ dX7_steady_21)
  replace hr := ite_f hc hr
  refine r_iload_n (pc := 15) (j := 2) dX7_steady_15 rfl rfl ?_
  refine r_iconst (pc := 16) (v := (1 : Int32)) dX7_steady_16 rfl ?_
  refine r_icmp_le (pc := 17) (tgt := 22) dX7_steady_17 rfl (fun hc => ?_) (fun hc => ?_)
  · replace hr := ite_t hc hr
    refine r_aload_n (pc := 22) (j := 0) dX7_steady_22 rfl rfl ?_
    refine gf7_12 (pc := 23) tw_2_121 hw dX7_steady_23 ?_
    refine r_aload_n (pc := 26) (j := 0) dX7_steady_26 rfl rfl ?_
    refine gf7_2 (pc := 27) tw_2_111 hw dX7_steady_27 ?_
    refine r_aload_n (pc := 30) (j := 0) dX7_steady_30 rfl rfl ?_
    refine gf7_5 (pc := 31) tw_2_114 hw dX7_steady_31 ?_
    obtain ⟨b2, σ4, eσ4, hr⟩ := bnd_inv hr
    refine kX3_read (pc := 34) eσ4 (wt_sc hw).1 (wt_fo hw).1 tw_4_135 ⟨nle rfl, nle rfl⟩ (nle rfl) dX7_steady_34 fun hσ4 => ?_
    refine r_ifB_ne (pc := 37) (tgt := 43) dX7_steady_37 rfl (fun hc => ?_) (fun hc => ?_)
    · replace hr := ite_t hc hr
      refine r_iload_n (pc := 43) (j := 2) dX7_steady_43 rfl rfl ?_
      refine r_if_ne (pc := 44) (tgt := 58) dX7_steady_44 rfl (fun hc => ?_) (fun hc => ?_)
      · replace hr := ite_f hc hr
        refine r_aload_n (pc := 58) (j := 0) dX7_steady_58 rfl rfl ?_
        refine gf7_12 (pc := 59) tw_2_121 hσ4 dX7_steady_59 ?_
        refine r_iload_n (pc := 62) (j := 1) dX7_steady_62 rfl rfl ?_
        obtain ⟨v5, hv5, hr⟩ := bnd1_inv hr
        refine kX3_greatestMargin (pc := 63) hv5 tw_4_207 ⟨nle rfl, nle rfl⟩ (nle rfl) dX7_steady_63 ?_
        exact l_osi hr (r_iret (pc := 66) (v := v5) rfl rfl ⟨Nat.le_refl _, Nat.le_refl _⟩ dX7_steady_66)
      replace hr := ite_t hc hr
      refine r_aload_n (pc := 47) (j := 0) dX7_steady_47 rfl rfl ?_
      refine gf7_12 (pc := 48) tw_2_121 hσ4 dX7_steady_48 ?_
      refine r_iload_n (pc := 51) (j := 1) dX7_steady_51 rfl rfl ?_
      obtain ⟨v8, hv8, hr⟩ := bnd1_inv hr
      refine kX3_leastMargin (pc := 52) hv8 tw_4_203 ⟨nle rfl, nle rfl⟩ (nle rfl) dX7_steady_52 ?_
      refine r_goto (pc := 55) (tgt := 66) dX7_steady_55 rfl ?_
      exact l_osi hr (r_iret (pc := 66) (v := v8) rfl rfl ⟨Nat.le_refl _, Nat.le_refl _⟩ dX7_steady_66)
    replace hr := ite_f hc hr
    refine r_bipush (pc := 40) (v := (-2 : Int32)) dX7_steady_40 rfl ?_
    exact l_osi hr (r_iret (pc := 42) (v := (-2 : Int32)) rfl rfl ⟨Nat.le_refl _, Nat.le_refl _⟩ dX7_steady_42)
  replace hr := ite_f hc hr
  refine r_iconst (pc := 20) (v := (-1 : Int32)) dX7_steady_20 rfl ?_
  exact l_osi hr (r_iret (pc := 21) (v := (-1 : Int32)) rfl rfl ⟨Nat.le_refl _, Nat.le_refl _⟩ dX7_steady_21)

theorem kX7_steady {g : GG} {σ : SS} {a1 : Int32} {a2 : Int32} {v : Int32} {σ2 : SS} {M : MM} {F : State → Array Value → List Frame → State → Prop} {pc index : Nat} {ls : List (Nat × Value)} {rest : List Value} (hf : fX7_steady σ a1 a2 = some (v, σ2))  (hl : Cond.methodLink M.1.cls index yX7_steady ∈ lw_gt) (hR : mX7_steady.2.2.2.2.frames + 1 ≤ M.2.2.2.2.frames ∧ 8 + (mX7_steady.2.2.1 + 11) + mX7_steady.2.2.2.2.locals ≤ M.2.2.2.2.locals) (hrest : (rest.map fun v => v.category).sum ≤ 8) (hd : decode M.2.1 pc = .ok (.invokevirtual index, 3)) (k : WT σ2 → RR g M F zF (pc + 3) ls (.int v :: rest) σ2) : RR g M F zF pc ls (.int a2 :: .int a1 :: .ref (ad g 1) :: rest) σ :=
  r_callV (z := zF) (N := mX7_steady) (nn := 2) (o1 := some (.int v)) (sX7_steady hf ) (rfl : shp 1 = (7, 0)) (by decide) (shp_le (rfl : shp 1 = (7, 0)) (nle rfl)) (ci := 7) rfl rfl tw_4_202 tw_1_1 hl tw_4_200 tw_4_201 ⟨by decide, by decide, rfl⟩ hR rfl hrest hd ⟨Nat.zero_le _, Nat.zero_le _⟩ rfl (fun h => k (h rfl))

theorem dX8_steady_0 : decode cX8_steady 0 = .ok (.aload_n 0, 1) := by decide +kernel
theorem dX8_steady_1 : decode cX8_steady 1 = .ok (.iload_n 1, 1) := by decide +kernel
theorem dX8_steady_2 : decode cX8_steady 2 = .ok (.invokevirtual 269, 3) := by decide +kernel
theorem dX8_steady_5 : decode cX8_steady 5 = .ok (.ifCond .eq 12, 3) := by decide +kernel
theorem dX8_steady_8 : decode cX8_steady 8 = .ok (.iload_n 2, 1) := by decide +kernel
theorem dX8_steady_9 : decode cX8_steady 9 = .ok (.iconst 0, 1) := by decide +kernel
theorem dX8_steady_10 : decode cX8_steady 10 = .ok (.iconst 1, 1) := by decide +kernel
theorem dX8_steady_11 : decode cX8_steady 11 = .ok (.invokestatic 165, 3) := by decide +kernel
theorem dX8_steady_14 : decode cX8_steady 14 = .ok (.ifCond .ne 5, 3) := by decide +kernel
theorem dX8_steady_17 : decode cX8_steady 17 = .ok (.iconst (-1), 1) := by decide +kernel
theorem dX8_steady_18 : decode cX8_steady 18 = .ok (.ireturn, 1) := by decide +kernel
theorem dX8_steady_19 : decode cX8_steady 19 = .ok (.aload_n 0, 1) := by decide +kernel
theorem dX8_steady_20 : decode cX8_steady 20 = .ok (.invokevirtual 373, 3) := by decide +kernel
theorem dX8_steady_23 : decode cX8_steady 23 = .ok (.ifCond .ne 6, 3) := by decide +kernel
theorem dX8_steady_26 : decode cX8_steady 26 = .ok (.bipush (-2), 2) := by decide +kernel
theorem dX8_steady_28 : decode cX8_steady 28 = .ok (.ireturn, 1) := by decide +kernel
theorem dX8_steady_29 : decode cX8_steady 29 = .ok (.aload_n 0, 1) := by decide +kernel
theorem dX8_steady_30 : decode cX8_steady 30 = .ok (.iload_n 1, 1) := by decide +kernel
theorem dX8_steady_31 : decode cX8_steady 31 = .ok (.aload_n 0, 1) := by decide +kernel
theorem dX8_steady_32 : decode cX8_steady 32 = .ok (.getfield 53, 3) := by decide +kernel
theorem dX8_steady_35 : decode cX8_steady 35 = .ok (.iconst 3, 1) := by decide +kernel
theorem dX8_steady_36 : decode cX8_steady 36 = .ok (.iaload, 1) := by decide +kernel
theorem dX8_steady_37 : decode cX8_steady 37 = .ok (.invokevirtual 401, 3) := by decide +kernel
theorem dX8_steady_40 : decode cX8_steady 40 = .ok (.aload_n 0, 1) := by decide +kernel
theorem dX8_steady_41 : decode cX8_steady 41 = .ok (.getfield 385, 3) := by decide +kernel
theorem dX8_steady_44 : decode cX8_steady 44 = .ok (.istore_n 3, 1) := by decide +kernel
theorem dX8_steady_45 : decode cX8_steady 45 = .ok (.aload_n 0, 1) := by decide +kernel
theorem dX8_steady_46 : decode cX8_steady 46 = .ok (.getfield 391, 3) := by decide +kernel
theorem dX8_steady_49 : decode cX8_steady 49 = .ok (.istore 4, 2) := by decide +kernel
theorem dX8_steady_51 : decode cX8_steady 51 = .ok (.iload_n 2, 1) := by decide +kernel
theorem dX8_steady_52 : decode cX8_steady 52 = .ok (.ifCond .ne 7, 3) := by decide +kernel
theorem dX8_steady_55 : decode cX8_steady 55 = .ok (.iconst (-1), 1) := by decide +kernel
theorem dX8_steady_56 : decode cX8_steady 56 = .ok (.goto 4, 3) := by decide +kernel
theorem dX8_steady_59 : decode cX8_steady 59 = .ok (.iconst 1, 1) := by decide +kernel
theorem dX8_steady_60 : decode cX8_steady 60 = .ok (.istore 5, 2) := by decide +kernel
theorem dX8_steady_62 : decode cX8_steady 62 = .ok (.aload_n 0, 1) := by decide +kernel
theorem dX8_steady_63 : decode cX8_steady 63 = .ok (.getfield 53, 3) := by decide +kernel
theorem dX8_steady_66 : decode cX8_steady 66 = .ok (.iconst 3, 1) := by decide +kernel
theorem dX8_steady_67 : decode cX8_steady 67 = .ok (.iaload, 1) := by decide +kernel
theorem dX8_steady_68 : decode cX8_steady 68 = .ok (.istore 6, 2) := by decide +kernel
theorem dX8_steady_70 : decode cX8_steady 70 = .ok (.iconst 1, 1) := by decide +kernel
theorem dX8_steady_71 : decode cX8_steady 71 = .ok (.istore 7, 2) := by decide +kernel
theorem dX8_steady_73 : decode cX8_steady 73 = .ok (.iload 7, 2) := by decide +kernel
theorem dX8_steady_75 : decode cX8_steady 75 = .ok (.ifCond .eq 71, 3) := by decide +kernel
theorem dX8_steady_78 : decode cX8_steady 78 = .ok (.aload_n 0, 1) := by decide +kernel
theorem dX8_steady_79 : decode cX8_steady 79 = .ok (.iload_n 1, 1) := by decide +kernel
theorem dX8_steady_80 : decode cX8_steady 80 = .ok (.iload 6, 2) := by decide +kernel
theorem dX8_steady_82 : decode cX8_steady 82 = .ok (.iload 5, 2) := by decide +kernel
theorem dX8_steady_84 : decode cX8_steady 84 = .ok (.iadd, 1) := by decide +kernel
theorem dX8_steady_85 : decode cX8_steady 85 = .ok (.invokevirtual 401, 3) := by decide +kernel
theorem dX8_steady_88 : decode cX8_steady 88 = .ok (.iload 6, 2) := by decide +kernel
theorem dX8_steady_90 : decode cX8_steady 90 = .ok (.iload 5, 2) := by decide +kernel
theorem dX8_steady_92 : decode cX8_steady 92 = .ok (.iadd, 1) := by decide +kernel
theorem dX8_steady_93 : decode cX8_steady 93 = .ok (.iconst 1, 1) := by decide +kernel
theorem dX8_steady_94 : decode cX8_steady 94 = .ok (.sipush 200, 3) := by decide +kernel
theorem dX8_steady_97 : decode cX8_steady 97 = .ok (.invokestatic 165, 3) := by decide +kernel
theorem dX8_steady_100 : decode cX8_steady 100 = .ok (.ifCond .eq 24, 3) := by decide +kernel
theorem dX8_steady_103 : decode cX8_steady 103 = .ok (.aload_n 0, 1) := by decide +kernel
theorem dX8_steady_104 : decode cX8_steady 104 = .ok (.getfield 385, 3) := by decide +kernel
theorem dX8_steady_107 : decode cX8_steady 107 = .ok (.iload_n 3, 1) := by decide +kernel
theorem dX8_steady_108 : decode cX8_steady 108 = .ok (.if_icmp .ne 16, 3) := by decide +kernel
theorem dX8_steady_111 : decode cX8_steady 111 = .ok (.aload_n 0, 1) := by decide +kernel
theorem dX8_steady_112 : decode cX8_steady 112 = .ok (.getfield 391, 3) := by decide +kernel
theorem dX8_steady_115 : decode cX8_steady 115 = .ok (.iload 4, 2) := by decide +kernel
theorem dX8_steady_117 : decode cX8_steady 117 = .ok (.if_icmp .ne 7, 3) := by decide +kernel
theorem dX8_steady_120 : decode cX8_steady 120 = .ok (.iconst 1, 1) := by decide +kernel
theorem dX8_steady_121 : decode cX8_steady 121 = .ok (.goto 4, 3) := by decide +kernel
theorem dX8_steady_124 : decode cX8_steady 124 = .ok (.iconst 0, 1) := by decide +kernel
theorem dX8_steady_125 : decode cX8_steady 125 = .ok (.istore 7, 2) := by decide +kernel
theorem dX8_steady_127 : decode cX8_steady 127 = .ok (.iload 6, 2) := by decide +kernel
theorem dX8_steady_129 : decode cX8_steady 129 = .ok (.iload 7, 2) := by decide +kernel
theorem dX8_steady_131 : decode cX8_steady 131 = .ok (.ifCond .eq 8, 3) := by decide +kernel
theorem dX8_steady_134 : decode cX8_steady 134 = .ok (.iload 5, 2) := by decide +kernel
theorem dX8_steady_136 : decode cX8_steady 136 = .ok (.goto 4, 3) := by decide +kernel
theorem dX8_steady_139 : decode cX8_steady 139 = .ok (.iconst 0, 1) := by decide +kernel
theorem dX8_steady_140 : decode cX8_steady 140 = .ok (.iadd, 1) := by decide +kernel
theorem dX8_steady_141 : decode cX8_steady 141 = .ok (.istore 6, 2) := by decide +kernel
theorem dX8_steady_143 : decode cX8_steady 143 = .ok (.goto (-70), 3) := by decide +kernel
theorem dX8_steady_146 : decode cX8_steady 146 = .ok (.iload 6, 2) := by decide +kernel
theorem dX8_steady_148 : decode cX8_steady 148 = .ok (.ireturn, 1) := by decide +kernel
def mX8_steady : MM := (yX8_steady, cX8_steady, 8, Option.some Jvm.ClassFile.FieldType.int, { frames := 7, cells := 0, slots := 0, locals := 158 })
def X8_steady_L73 (u1_ : Int32) (u3_ : Int32) (u4_ : Int32) (u5_ : Int32)  : Nat → Int32 → Int32 → SS → Option (Int32 × SS) :=
  lp (fun _ _ _ => none) fun rec v6_ v7_ σ_ =>
    if v7_ = 0 then (
      some (v6_, σ_)
      ) else (
      bnd1 (fX8_judges σ_ u1_ (v6_ + u5_)) fun σ13 =>
      vthen (fun (s14 : Int32) =>
        if s14 = 0 then (
          vthen (v6_ + (0 : Int32)) fun v15 =>
          rec v15 s14 σ13
          ) else (
          vthen (v6_ + u5_) fun v16 =>
          rec v16 s14 σ13
          )
        ) fun j125 =>
      vthen (fun (_u : Unit) =>
        j125 (0 : Int32)
        ) fun j124 =>
      if (fX8_in σ13 (v6_ + u5_) (1 : Int32) (200 : Int32)) = true then (
        if (gI σ13 73 55) = u3_ then (
          if (gI σ13 73 56) = u4_ then (
            j125 (1 : Int32)
            ) else (
            j124 ()
            )
          ) else (
          j124 ()
          )
        ) else (
        j124 ()
        )
      )

def fX8_steady (σ : SS) (a1 : Int32) (a2 : Int32) : Option (Int32 × SS) :=
  bnd1 (fX8_isQuestion σ a1) fun b2 =>
  if b2 = true then (
    if (fX8_in σ a2 (0 : Int32) (1 : Int32)) = true then (
      bnd (fX8_finds σ) fun b5 σ7 =>
      if b5 = true then (
        bnd1 (fX8_judges σ7 a1 (gI σ7 88 3)) fun σ8 =>
        vthen (gI σ8 73 55) fun v9 =>
        vthen (gI σ8 73 56) fun v10 =>
        vthen (fun (s11 : Int32) =>
          vthen (gI σ8 88 3) fun v12 =>
          X8_steady_L73 a1 v9 v10 s11
          fuel v12 (1 : Int32) σ8
          ) fun j60 =>
        if a2 = 0 then (
          j60 (-1 : Int32)
          ) else (
          j60 (1 : Int32)
          )
        ) else (
        some ((-2 : Int32), σ7)
        )
      ) else (
      some ((-1 : Int32), σ)
      )
    ) else (
    some ((-1 : Int32), σ)
    )

set_option maxRecDepth 20000 in
theorem sX8_steady_L73 {g : GG} {r : Int32 × SS} {u1_ : Int32} {u3_ : Int32} {u4_ : Int32} {u5_ : Int32}  
    (n : Nat) : ∀ (v6_ : Int32) (v7_ : Int32) (σ_ : SS), X8_steady_L73 u1_ u3_ u4_ u5_ n v6_ v7_ σ_ = some r → WT σ_ → RR g mX8_steady (FinR g mX8_steady (some (.int r.1)) NF r.2) zF 73 [(0, .ref (ad g 73)), (1, .int u1_), (3, .int u3_), (4, .int u4_), (5, .int u5_), (6, .int v6_), (7, .int v7_)] [] σ_ := by
  unfold X8_steady_L73
  refine lp_ind (P := fun (rec : Int32 → Int32 → SS → Option (Int32 × SS)) => ∀ (v6_ : Int32) (v7_ : Int32) (σ_ : SS), rec v6_ v7_ σ_ = some r → WT σ_ → RR g mX8_steady (FinR g mX8_steady (some (.int r.1)) NF r.2) zF 73 [(0, .ref (ad g 73)), (1, .int u1_), (3, .int u3_), (4, .int u4_), (5, .int u5_), (6, .int v6_), (7, .int v7_)] [] σ_) ?_ ?_ n
  · intro v6_ v7_ σ_ hr; cases hr
  intro rec ih v6_ v7_ σ_ hr hw_
  refine r_iload (pc := 73) (j := 6) dX8_steady_73 rfl ?_
  refine r_if_eq (pc := 75) (tgt := 146) dX8_steady_75 rfl (fun hc => ?_) (fun hc => ?_)
  · replace hr := ite_t hc hr
    refine r_iload (pc := 146) (j := 5) dX8_steady_146 rfl ?_
    exact l_osi hr (r_iret (pc := 148) (v := v6_) rfl rfl ⟨Nat.le_refl _, Nat.le_refl _⟩ dX8_steady_148)
  replace hr := ite_f hc hr
  refine r_aload_n (pc := 78) (j := 0) dX8_steady_78 rfl rfl ?_
  refine r_iload_n (pc := 79) (j := 1) dX8_steady_79 rfl rfl ?_
  refine r_iload (pc := 80) (j := 5) dX8_steady_80 rfl ?_
  refine r_iload (pc := 82) (j := 4) dX8_steady_82 rfl ?_
  refine r_iadd (pc := 84) dX8_steady_84 ?_
  obtain ⟨σ13, eσ13, hr⟩ := bnd1_inv hr
  refine kX8_judges (pc := 85) eσ13 tw_7_107 ⟨nle rfl, nle rfl⟩ (nle rfl) dX8_steady_85 fun hσ13 => ?_
  refine r_iload (pc := 88) (j := 5) dX8_steady_88 rfl ?_
  refine r_iload (pc := 90) (j := 4) dX8_steady_90 rfl ?_
  refine r_iadd (pc := 92) dX8_steady_92 ?_
  refine r_iconst (pc := 93) (v := (1 : Int32)) dX8_steady_93 rfl ?_
  refine r_sipush (pc := 94) (v := (200 : Int32)) dX8_steady_94 rfl ?_
  refine kX8_in (pc := 97) (hf := rfl) tw_6_65 ⟨nle rfl, nle rfl⟩ (nle rfl) dX8_steady_97 ?_
  obtain ⟨j125, ej125, hr⟩ := vth_ex hr
  have hj125 : ∀ (s14 : Int32), j125 s14 = some r → RR g mX8_steady (FinR g mX8_steady (some (.int r.1)) NF r.2) zF 125 [(0, .ref (ad g 73)), (1, .int u1_), (3, .int u3_), (4, .int u4_), (5, .int u5_), (6, .int v6_)] [.int s14] σ13 := by
    intro s14 hr
    replace hr := (congrFun ej125 s14).symm.trans hr
    refine r_istore (pc := 125) (ls1 := [(7, .int s14), (0, .ref (ad g 73)), (1, .int u1_), (3, .int u3_), (4, .int u4_), (5, .int u5_), (6, .int v6_)]) dX8_steady_125 (nle rfl) rfl ?_
    refine r_iload (pc := 127) (j := 6) dX8_steady_127 rfl ?_
    refine r_iload (pc := 129) (j := 0) dX8_steady_129 rfl ?_
    refine r_if_eq (pc := 131) (tgt := 139) dX8_steady_131 rfl (fun hc => ?_) (fun hc => ?_)
    · replace hr := ite_t hc hr
      refine r_iconst (pc := 139) (v := (0 : Int32)) dX8_steady_139 rfl ?_
      refine r_iadd (pc := 140) dX8_steady_140 ?_
      refine r_topi fun v15 ev15 => ?_
      replace hr := vthen_inv hr v15 ev15
      refine r_istore (pc := 141) (ls1 := [(6, .int v15), (7, .int s14), (0, .ref (ad g 73)), (1, .int u1_), (3, .int u3_), (4, .int u4_), (5, .int u5_)]) dX8_steady_141 (nle rfl) rfl ?_
      refine r_goto (pc := 143) (tgt := 73) dX8_steady_143 rfl ?_
      exact r_pick (ls1 := [(0, .ref (ad g 73)), (1, .int u1_), (3, .int u3_), (4, .int u4_), (5, .int u5_), (6, .int v15), (7, .int s14)]) [2, 3, 4, 5, 6, 0, 1] rfl (ih v15 s14 σ13 hr hσ13)
    replace hr := ite_f hc hr
    refine r_iload (pc := 134) (j := 5) dX8_steady_134 rfl ?_
    refine r_goto (pc := 136) (tgt := 140) dX8_steady_136 rfl ?_
    refine r_iadd (pc := 140) dX8_steady_140 ?_
    refine r_topi fun v16 ev16 => ?_
    replace hr := vthen_inv hr v16 ev16
    refine r_istore (pc := 141) (ls1 := [(6, .int v16), (7, .int s14), (0, .ref (ad g 73)), (1, .int u1_), (3, .int u3_), (4, .int u4_), (5, .int u5_)]) dX8_steady_141 (nle rfl) rfl ?_
    refine r_goto (pc := 143) (tgt := 73) dX8_steady_143 rfl ?_
    exact r_pick (ls1 := [(0, .ref (ad g 73)), (1, .int u1_), (3, .int u3_), (4, .int u4_), (5, .int u5_), (6, .int v16), (7, .int s14)]) [2, 3, 4, 5, 6, 0, 1] rfl (ih v16 s14 σ13 hr hσ13)
  obtain ⟨j124, ej124, hr⟩ := vth_ex hr
  have hj124 : j124 () = some r → RR g mX8_steady (FinR g mX8_steady (some (.int r.1)) NF r.2) zF 124 [(0, .ref (ad g 73)), (1, .int u1_), (3, .int u3_), (4, .int u4_), (5, .int u5_), (6, .int v6_)] [] σ13 := by
    intro  hr
    replace hr := (congrFun ej124 ()).symm.trans hr
    refine r_iconst (pc := 124) (v := (0 : Int32)) dX8_steady_124 rfl ?_
    exact r_pick (ls1 := [(0, .ref (ad g 73)), (1, .int u1_), (3, .int u3_), (4, .int u4_), (5, .int u5_), (6, .int v6_)]) [0, 1, 2, 3, 4, 5] rfl (hj125 (0 : Int32) hr)
  refine r_ifB_eq (pc := 100) (tgt := 124) dX8_steady_100 rfl (fun hc => ?_) (fun hc => ?_)
  · replace hr := ite_f hc hr
    exact r_pick (ls1 := [(0, .ref (ad g 73)), (1, .int u1_), (3, .int u3_), (4, .int u4_), (5, .int u5_), (6, .int v6_)]) [0, 1, 2, 3, 4, 5] rfl (hj124  hr)
  replace hr := ite_t hc hr
  refine r_aload_n (pc := 103) (j := 0) dX8_steady_103 rfl rfl ?_
  refine gf8_55 (pc := 104) tw_5_149 rfl dX8_steady_104 ?_
  refine r_iload_n (pc := 107) (j := 2) dX8_steady_107 rfl rfl ?_
  refine r_icmp_ne (pc := 108) (tgt := 124) dX8_steady_108 rfl (fun hc => ?_) (fun hc => ?_)
  · replace hr := ite_f hc hr
    exact r_pick (ls1 := [(0, .ref (ad g 73)), (1, .int u1_), (3, .int u3_), (4, .int u4_), (5, .int u5_), (6, .int v6_)]) [0, 1, 2, 3, 4, 5] rfl (hj124  hr)
  replace hr := ite_t hc hr
  refine r_aload_n (pc := 111) (j := 0) dX8_steady_111 rfl rfl ?_
  refine gf8_56 (pc := 112) tw_5_150 rfl dX8_steady_112 ?_
  refine r_iload (pc := 115) (j := 3) dX8_steady_115 rfl ?_
  refine r_icmp_ne (pc := 117) (tgt := 124) dX8_steady_117 rfl (fun hc => ?_) (fun hc => ?_)
  · replace hr := ite_f hc hr
    exact r_pick (ls1 := [(0, .ref (ad g 73)), (1, .int u1_), (3, .int u3_), (4, .int u4_), (5, .int u5_), (6, .int v6_)]) [0, 1, 2, 3, 4, 5] rfl (hj124  hr)
  replace hr := ite_t hc hr
  refine r_iconst (pc := 120) (v := (1 : Int32)) dX8_steady_120 rfl ?_
  refine r_goto (pc := 121) (tgt := 125) dX8_steady_121 rfl ?_
  exact r_pick (ls1 := [(0, .ref (ad g 73)), (1, .int u1_), (3, .int u3_), (4, .int u4_), (5, .int u5_), (6, .int v6_)]) [0, 1, 2, 3, 4, 5] rfl (hj125 (1 : Int32) hr)

set_option maxRecDepth 20000 in
theorem sX8_steady {g : GG} {σ : SS} {a1 : Int32} {a2 : Int32} {r : Int32 × SS} (hr : fX8_steady σ a1 a2 = some r)  : Ct g mX8_steady [.ref (ad g 73), .int a1, .int a2] NF σ (some (.int r.1)) NF r.2 := by
  refine Ct.of (by decide +kernel) (nle rfl) fun hw0 => ?_
  have hw := hw0 rfl
  unfold fX8_steady at hr
  change RR g mX8_steady (FinR g mX8_steady (some (.int r.1)) NF r.2) zF 0 [(0, .ref (ad g 73)), (1, .int a1), (2, .int a2)] [] σ
  refine r_aload_n (pc := 0) (j := 0) dX8_steady_0 rfl rfl ?_
  refine r_iload_n (pc := 1) (j := 1) dX8_steady_1 rfl rfl ?_
  obtain ⟨b2, hb2, hr⟩ := bnd1_inv hr
  refine kX8_isQuestion (pc := 2) hb2 tw_6_141 ⟨nle rfl, nle rfl⟩ (nle rfl) dX8_steady_2 ?_
  refine r_ifB_eq (pc := 5) (tgt := 17) dX8_steady_5 rfl (fun hc => ?_) (fun hc => ?_)
  · replace hr := ite_f hc hr
    refine r_iconst (pc := 17) (v := (-1 : Int32)) dX8_steady_17 rfl ?_
    exact l_osi hr (r_iret (pc := 18) (v := (-1 : Int32)) rfl rfl ⟨Nat.le_refl _, Nat.le_refl _⟩ dX8_steady_18)
  replace hr := ite_t hc hr
  refine r_iload_n (pc := 8) (j := 2) dX8_steady_8 rfl rfl ?_
  refine r_iconst (pc := 9) (v := (0 : Int32)) dX8_steady_9 rfl ?_
  refine r_iconst (pc := 10) (v := (1 : Int32)) dX8_steady_10 rfl ?_
  refine kX8_in (pc := 11) (hf := rfl) tw_6_65 ⟨nle rfl, nle rfl⟩ (nle rfl) dX8_steady_11 ?_
  refine r_ifB_ne (pc := 14) (tgt := 19) dX8_steady_14 rfl (fun hc => ?_) (fun hc => ?_)
  · replace hr := ite_t hc hr
    refine r_aload_n (pc := 19) (j := 0) dX8_steady_19 rfl rfl ?_
    obtain ⟨b5, σ7, eσ7, hr⟩ := bnd_inv hr
    refine kX8_finds (pc := 20) eσ7 tw_7_94 ⟨nle rfl, nle rfl⟩ (nle rfl) dX8_steady_20 fun hσ7 => ?_
    refine r_ifB_ne (pc := 23) (tgt := 29) dX8_steady_23 rfl (fun hc => ?_) (fun hc => ?_)
    · replace hr := ite_t hc hr
      refine r_aload_n (pc := 29) (j := 0) dX8_steady_29 rfl rfl ?_
      refine r_iload_n (pc := 30) (j := 1) dX8_steady_30 rfl rfl ?_
      refine r_aload_n (pc := 31) (j := 0) dX8_steady_31 rfl rfl ?_
      refine gf8_26 (pc := 32) tw_5_120 hσ7 dX8_steady_32 ?_
      refine r_iconst (pc := 35) (v := (3 : Int32)) dX8_steady_35 rfl ?_
      refine x_iald (pc := 36) (k := 3) rfl (by decide) rfl dX8_steady_36 ?_
      obtain ⟨σ8, eσ8, hr⟩ := bnd1_inv hr
      refine kX8_judges (pc := 37) eσ8 tw_7_107 ⟨nle rfl, nle rfl⟩ (nle rfl) dX8_steady_37 fun hσ8 => ?_
      refine r_aload_n (pc := 40) (j := 0) dX8_steady_40 rfl rfl ?_
      refine gf8_55 (pc := 41) tw_5_149 rfl dX8_steady_41 ?_
      refine r_topi fun v9 ev9 => ?_
      replace hr := vthen_inv hr v9 ev9
      refine r_istore_n (pc := 44) (ls1 := [(3, .int v9), (0, .ref (ad g 73)), (1, .int a1), (2, .int a2)]) dX8_steady_44 rfl (nle rfl) rfl ?_
      refine r_aload_n (pc := 45) (j := 1) dX8_steady_45 rfl rfl ?_
      refine gf8_56 (pc := 46) tw_5_150 rfl dX8_steady_46 ?_
      refine r_topi fun v10 ev10 => ?_
      replace hr := vthen_inv hr v10 ev10
      refine r_istore (pc := 49) (ls1 := [(4, .int v10), (3, .int v9), (0, .ref (ad g 73)), (1, .int a1), (2, .int a2)]) dX8_steady_49 (nle rfl) rfl ?_
      refine r_iload_n (pc := 51) (j := 4) dX8_steady_51 rfl rfl ?_
      obtain ⟨j60, ej60, hr⟩ := vth_ex hr
      have hj60 : ∀ (s11 : Int32), j60 s11 = some r → RR g mX8_steady (FinR g mX8_steady (some (.int r.1)) NF r.2) zF 60 [(0, .ref (ad g 73)), (1, .int a1), (3, .int v9), (4, .int v10)] [.int s11] σ8 := by
        intro s11 hr
        replace hr := (congrFun ej60 s11).symm.trans hr
        refine r_istore (pc := 60) (ls1 := [(5, .int s11), (0, .ref (ad g 73)), (1, .int a1), (3, .int v9), (4, .int v10)]) dX8_steady_60 (nle rfl) rfl ?_
        refine r_aload_n (pc := 62) (j := 1) dX8_steady_62 rfl rfl ?_
        refine gf8_26 (pc := 63) tw_5_120 hσ8 dX8_steady_63 ?_
        refine r_iconst (pc := 66) (v := (3 : Int32)) dX8_steady_66 rfl ?_
        refine x_iald (pc := 67) (k := 3) rfl (by decide) rfl dX8_steady_67 ?_
        refine r_topi fun v12 ev12 => ?_
        replace hr := vthen_inv hr v12 ev12
        refine r_istore (pc := 68) (ls1 := [(6, .int v12), (5, .int s11), (0, .ref (ad g 73)), (1, .int a1), (3, .int v9), (4, .int v10)]) dX8_steady_68 (nle rfl) rfl ?_
        refine r_iconst (pc := 70) (v := (1 : Int32)) dX8_steady_70 rfl ?_
        refine r_istore (pc := 71) (ls1 := [(7, .int (1 : Int32)), (6, .int v12), (5, .int s11), (0, .ref (ad g 73)), (1, .int a1), (3, .int v9), (4, .int v10)]) dX8_steady_71 (nle rfl) rfl ?_
        refine r_pick (ls1 := [(0, .ref (ad g 73)), (1, .int a1), (3, .int v9), (4, .int v10), (5, .int s11), (6, .int v12), (7, .int (1 : Int32))]) [3, 4, 5, 6, 2, 1, 0] rfl ?_
        refine sX8_steady_L73     fuel v12 (1 : Int32) σ8 hr hσ8
      refine r_if_ne (pc := 52) (tgt := 59) dX8_steady_52 rfl (fun hc => ?_) (fun hc => ?_)
      · replace hr := ite_f hc hr
        refine r_iconst (pc := 59) (v := (1 : Int32)) dX8_steady_59 rfl ?_
        exact r_pick (ls1 := [(0, .ref (ad g 73)), (1, .int a1), (3, .int v9), (4, .int v10)]) [2, 3, 1, 0] rfl (hj60 (1 : Int32) hr)
      replace hr := ite_t hc hr
      refine r_iconst (pc := 55) (v := (-1 : Int32)) dX8_steady_55 rfl ?_
      refine r_goto (pc := 56) (tgt := 60) dX8_steady_56 rfl ?_
      exact r_pick (ls1 := [(0, .ref (ad g 73)), (1, .int a1), (3, .int v9), (4, .int v10)]) [2, 3, 1, 0] rfl (hj60 (-1 : Int32) hr)
    replace hr := ite_f hc hr
    refine r_bipush (pc := 26) (v := (-2 : Int32)) dX8_steady_26 rfl ?_
    exact l_osi hr (r_iret (pc := 28) (v := (-2 : Int32)) rfl rfl ⟨Nat.le_refl _, Nat.le_refl _⟩ dX8_steady_28)
  replace hr := ite_f hc hr
  refine r_iconst (pc := 17) (v := (-1 : Int32)) dX8_steady_17 rfl ?_
  exact l_osi hr (r_iret (pc := 18) (v := (-1 : Int32)) rfl rfl ⟨Nat.le_refl _, Nat.le_refl _⟩ dX8_steady_18)

theorem kX8_steady {g : GG} {σ : SS} {a1 : Int32} {a2 : Int32} {v : Int32} {σ2 : SS} {M : MM} {F : State → Array Value → List Frame → State → Prop} {pc index : Nat} {ls : List (Nat × Value)} {rest : List Value} (hf : fX8_steady σ a1 a2 = some (v, σ2))  (hl : Cond.methodLink M.1.cls index yX8_steady ∈ lw_gt) (hR : mX8_steady.2.2.2.2.frames + 1 ≤ M.2.2.2.2.frames ∧ 8 + (mX8_steady.2.2.1 + 11) + mX8_steady.2.2.2.2.locals ≤ M.2.2.2.2.locals) (hrest : (rest.map fun v => v.category).sum ≤ 8) (hd : decode M.2.1 pc = .ok (.invokevirtual index, 3)) (k : WT σ2 → RR g M F zF (pc + 3) ls (.int v :: rest) σ2) : RR g M F zF pc ls (.int a2 :: .int a1 :: .ref (ad g 73) :: rest) σ :=
  r_callV (z := zF) (N := mX8_steady) (nn := 2) (o1 := some (.int v)) (sX8_steady hf ) (rfl : shp 73 = (8, 0)) (by decide) (shp_le (rfl : shp 73 = (8, 0)) (nle rfl)) (ci := 8) rfl rfl tw_7_154 tw_1_10 hl tw_7_152 tw_7_153 ⟨by decide, by decide, rfl⟩ hR rfl hrest hd ⟨Nat.zero_le _, Nat.zero_le _⟩ rfl (fun h => k (h rfl))

theorem dX7_corner_0 : decode cX7_corner 0 = .ok (.iload_n 1, 1) := by decide +kernel
theorem dX7_corner_1 : decode cX7_corner 1 = .ok (.ifCond .lt 28, 3) := by decide +kernel
theorem dX7_corner_4 : decode cX7_corner 4 = .ok (.iload_n 1, 1) := by decide +kernel
theorem dX7_corner_5 : decode cX7_corner 5 = .ok (.iconst 4, 1) := by decide +kernel
theorem dX7_corner_6 : decode cX7_corner 6 = .ok (.if_icmp .ge 23, 3) := by decide +kernel
theorem dX7_corner_9 : decode cX7_corner 9 = .ok (.iload_n 2, 1) := by decide +kernel
theorem dX7_corner_10 : decode cX7_corner 10 = .ok (.ifCond .lt 19, 3) := by decide +kernel
theorem dX7_corner_13 : decode cX7_corner 13 = .ok (.iload_n 2, 1) := by decide +kernel
theorem dX7_corner_14 : decode cX7_corner 14 = .ok (.bipush 40, 2) := by decide +kernel
theorem dX7_corner_16 : decode cX7_corner 16 = .ok (.if_icmp .ge 13, 3) := by decide +kernel
theorem dX7_corner_19 : decode cX7_corner 19 = .ok (.iload_n 3, 1) := by decide +kernel
theorem dX7_corner_20 : decode cX7_corner 20 = .ok (.ifCond .lt 9, 3) := by decide +kernel
theorem dX7_corner_23 : decode cX7_corner 23 = .ok (.iload_n 3, 1) := by decide +kernel
theorem dX7_corner_24 : decode cX7_corner 24 = .ok (.bipush 40, 2) := by decide +kernel
theorem dX7_corner_26 : decode cX7_corner 26 = .ok (.if_icmp .lt 5, 3) := by decide +kernel
theorem dX7_corner_29 : decode cX7_corner 29 = .ok (.iconst 0, 1) := by decide +kernel
theorem dX7_corner_30 : decode cX7_corner 30 = .ok (.ireturn, 1) := by decide +kernel
theorem dX7_corner_31 : decode cX7_corner 31 = .ok (.aload_n 0, 1) := by decide +kernel
theorem dX7_corner_32 : decode cX7_corner 32 = .ok (.getfield 50, 3) := by decide +kernel
theorem dX7_corner_35 : decode cX7_corner 35 = .ok (.iload_n 1, 1) := by decide +kernel
theorem dX7_corner_36 : decode cX7_corner 36 = .ok (.iload_n 2, 1) := by decide +kernel
theorem dX7_corner_37 : decode cX7_corner 37 = .ok (.iastore, 1) := by decide +kernel
theorem dX7_corner_38 : decode cX7_corner 38 = .ok (.aload_n 0, 1) := by decide +kernel
theorem dX7_corner_39 : decode cX7_corner 39 = .ok (.getfield 53, 3) := by decide +kernel
theorem dX7_corner_42 : decode cX7_corner 42 = .ok (.iload_n 1, 1) := by decide +kernel
theorem dX7_corner_43 : decode cX7_corner 43 = .ok (.iload_n 3, 1) := by decide +kernel
theorem dX7_corner_44 : decode cX7_corner 44 = .ok (.iastore, 1) := by decide +kernel
theorem dX7_corner_45 : decode cX7_corner 45 = .ok (.iconst 1, 1) := by decide +kernel
theorem dX7_corner_46 : decode cX7_corner 46 = .ok (.ireturn, 1) := by decide +kernel
def mX7_corner : MM := (yX7_corner, cX7_corner, 4, Option.some Jvm.ClassFile.FieldType.boolean, { frames := 0, cells := 0, slots := 0, locals := 0 })
def fX7_corner (σ : SS) (a1 : Int32) (a2 : Int32) (a3 : Int32) : Option (Bool × SS) :=
  if a1 < 0 then (
    some (false, σ)
    ) else (
    if (4 : Int32) ≤ a1 then (
      some (false, σ)
      ) else (
      if a2 < 0 then (
        some (false, σ)
        ) else (
        if (40 : Int32) ≤ a2 then (
          some (false, σ)
          ) else (
          if a3 < 0 then (
            some (false, σ)
            ) else (
            if a3 < (40 : Int32) then (
              grd (inb a1 4) <|
              vthen (sI σ 28 (Int32.toNatClampNeg a1) a2) fun σ2 =>
              vthen (sI σ2 29 (Int32.toNatClampNeg a1) a3) fun σ3 =>
              some (true, σ3)
              ) else (
              some (false, σ)
              )
            )
          )
        )
      )
    )

set_option maxRecDepth 20000 in
theorem sX7_corner {g : GG} {σ : SS} {a1 : Int32} {a2 : Int32} {a3 : Int32} {r : Bool × SS} (hr : fX7_corner σ a1 a2 a3 = some r)  : Ct g mX7_corner [.ref (ad g 1), .int a1, .int a2, .int a3] NF σ (some (.int (b2i r.1))) NF r.2 := by
  refine Ct.of (by decide +kernel) (nle rfl) fun hw0 => ?_
  have hw := hw0 rfl
  unfold fX7_corner at hr
  change RR g mX7_corner (FinR g mX7_corner (some (.int (b2i r.1))) NF r.2) zF 0 [(0, .ref (ad g 1)), (1, .int a1), (2, .int a2), (3, .int a3)] [] σ
  refine r_iload_n (pc := 0) (j := 1) dX7_corner_0 rfl rfl ?_
  refine r_if_lt (pc := 1) (tgt := 29) dX7_corner_1 rfl (fun hc => ?_) (fun hc => ?_)
  · replace hr := ite_t hc hr
    refine r_iconst (pc := 29) (v := (0 : Int32)) dX7_corner_29 rfl ?_
    exact l_osz hr (r_zret (pc := 30) (v := b2i false) (ty := .boolean) rfl (b2i_nar _) rfl ⟨Nat.le_refl _, Nat.le_refl _⟩ dX7_corner_30)
  replace hr := ite_f hc hr
  refine r_iload_n (pc := 4) (j := 1) dX7_corner_4 rfl rfl ?_
  refine r_iconst (pc := 5) (v := (4 : Int32)) dX7_corner_5 rfl ?_
  refine r_icmp_ge (pc := 6) (tgt := 29) dX7_corner_6 rfl (fun hc => ?_) (fun hc => ?_)
  · replace hr := ite_t hc hr
    refine r_iconst (pc := 29) (v := (0 : Int32)) dX7_corner_29 rfl ?_
    exact l_osz hr (r_zret (pc := 30) (v := b2i false) (ty := .boolean) rfl (b2i_nar _) rfl ⟨Nat.le_refl _, Nat.le_refl _⟩ dX7_corner_30)
  replace hr := ite_f hc hr
  refine r_iload_n (pc := 9) (j := 2) dX7_corner_9 rfl rfl ?_
  refine r_if_lt (pc := 10) (tgt := 29) dX7_corner_10 rfl (fun hc => ?_) (fun hc => ?_)
  · replace hr := ite_t hc hr
    refine r_iconst (pc := 29) (v := (0 : Int32)) dX7_corner_29 rfl ?_
    exact l_osz hr (r_zret (pc := 30) (v := b2i false) (ty := .boolean) rfl (b2i_nar _) rfl ⟨Nat.le_refl _, Nat.le_refl _⟩ dX7_corner_30)
  replace hr := ite_f hc hr
  refine r_iload_n (pc := 13) (j := 2) dX7_corner_13 rfl rfl ?_
  refine r_bipush (pc := 14) (v := (40 : Int32)) dX7_corner_14 rfl ?_
  refine r_icmp_ge (pc := 16) (tgt := 29) dX7_corner_16 rfl (fun hc => ?_) (fun hc => ?_)
  · replace hr := ite_t hc hr
    refine r_iconst (pc := 29) (v := (0 : Int32)) dX7_corner_29 rfl ?_
    exact l_osz hr (r_zret (pc := 30) (v := b2i false) (ty := .boolean) rfl (b2i_nar _) rfl ⟨Nat.le_refl _, Nat.le_refl _⟩ dX7_corner_30)
  replace hr := ite_f hc hr
  refine r_iload_n (pc := 19) (j := 3) dX7_corner_19 rfl rfl ?_
  refine r_if_lt (pc := 20) (tgt := 29) dX7_corner_20 rfl (fun hc => ?_) (fun hc => ?_)
  · replace hr := ite_t hc hr
    refine r_iconst (pc := 29) (v := (0 : Int32)) dX7_corner_29 rfl ?_
    exact l_osz hr (r_zret (pc := 30) (v := b2i false) (ty := .boolean) rfl (b2i_nar _) rfl ⟨Nat.le_refl _, Nat.le_refl _⟩ dX7_corner_30)
  replace hr := ite_f hc hr
  refine r_iload_n (pc := 23) (j := 3) dX7_corner_23 rfl rfl ?_
  refine r_bipush (pc := 24) (v := (40 : Int32)) dX7_corner_24 rfl ?_
  refine r_icmp_lt (pc := 26) (tgt := 31) dX7_corner_26 rfl (fun hc => ?_) (fun hc => ?_)
  · replace hr := ite_t hc hr
    refine r_aload_n (pc := 31) (j := 0) dX7_corner_31 rfl rfl ?_
    refine gf7_9 (pc := 32) tw_2_118 hw dX7_corner_32 ?_
    refine r_iload_n (pc := 35) (j := 1) dX7_corner_35 rfl rfl ?_
    refine r_iload_n (pc := 36) (j := 2) dX7_corner_36 rfl rfl ?_
    obtain ⟨h1, hr⟩ := grd_inv hr
    refine x_iast (pc := 37) (j := (Int32.toNatClampNeg a1)) rfl h1 rfl dX7_corner_37 fun σ2 eσ2 => ?_
    replace hr := vthen_inv hr σ2 eσ2
    have hσ2 := wtI eσ2 hw
    refine r_aload_n (pc := 38) (j := 0) dX7_corner_38 rfl rfl ?_
    refine gf7_10 (pc := 39) tw_2_119 hσ2 dX7_corner_39 ?_
    refine r_iload_n (pc := 42) (j := 1) dX7_corner_42 rfl rfl ?_
    refine r_iload_n (pc := 43) (j := 3) dX7_corner_43 rfl rfl ?_
    refine x_iast (pc := 44) (j := (Int32.toNatClampNeg a1)) rfl h1 rfl dX7_corner_44 fun σ3 eσ3 => ?_
    replace hr := vthen_inv hr σ3 eσ3
    have hσ3 := wtI eσ3 hσ2
    refine r_iconst (pc := 45) (v := (1 : Int32)) dX7_corner_45 rfl ?_
    exact l_osz hr (r_zret (pc := 46) (v := b2i true) (ty := .boolean) rfl (b2i_nar _) rfl ⟨Nat.le_refl _, Nat.le_refl _⟩ dX7_corner_46)
  replace hr := ite_f hc hr
  refine r_iconst (pc := 29) (v := (0 : Int32)) dX7_corner_29 rfl ?_
  exact l_osz hr (r_zret (pc := 30) (v := b2i false) (ty := .boolean) rfl (b2i_nar _) rfl ⟨Nat.le_refl _, Nat.le_refl _⟩ dX7_corner_30)

theorem kX7_corner {g : GG} {σ : SS} {a1 : Int32} {a2 : Int32} {a3 : Int32} {v : Bool} {σ2 : SS} {M : MM} {F : State → Array Value → List Frame → State → Prop} {pc index : Nat} {ls : List (Nat × Value)} {rest : List Value} (hf : fX7_corner σ a1 a2 a3 = some (v, σ2))  (hl : Cond.methodLink M.1.cls index yX7_corner ∈ lw_gt) (hR : mX7_corner.2.2.2.2.frames + 1 ≤ M.2.2.2.2.frames ∧ 8 + (mX7_corner.2.2.1 + 11) + mX7_corner.2.2.2.2.locals ≤ M.2.2.2.2.locals) (hrest : (rest.map fun v => v.category).sum ≤ 8) (hd : decode M.2.1 pc = .ok (.invokevirtual index, 3)) (k : WT σ2 → RR g M F zF (pc + 3) ls (.int (b2i v) :: rest) σ2) : RR g M F zF pc ls (.int a3 :: .int a2 :: .int a1 :: .ref (ad g 1) :: rest) σ :=
  r_callV (z := zF) (N := mX7_corner) (nn := 3) (o1 := some (.int (b2i v))) (sX7_corner hf ) (rfl : shp 1 = (7, 0)) (by decide) (shp_le (rfl : shp 1 = (7, 0)) (nle rfl)) (ci := 7) rfl rfl tw_4_214 tw_1_1 hl tw_4_212 tw_4_213 ⟨by decide, by decide, rfl⟩ hR rfl hrest hd ⟨Nat.zero_le _, Nat.zero_le _⟩ rfl (fun h => k (h rfl))

theorem dX8_corner_0 : decode cX8_corner 0 = .ok (.iload_n 1, 1) := by decide +kernel
theorem dX8_corner_1 : decode cX8_corner 1 = .ok (.iconst 0, 1) := by decide +kernel
theorem dX8_corner_2 : decode cX8_corner 2 = .ok (.iconst 3, 1) := by decide +kernel
theorem dX8_corner_3 : decode cX8_corner 3 = .ok (.invokestatic 165, 3) := by decide +kernel
theorem dX8_corner_6 : decode cX8_corner 6 = .ok (.ifCond .eq 23, 3) := by decide +kernel
theorem dX8_corner_9 : decode cX8_corner 9 = .ok (.iload_n 2, 1) := by decide +kernel
theorem dX8_corner_10 : decode cX8_corner 10 = .ok (.iconst 0, 1) := by decide +kernel
theorem dX8_corner_11 : decode cX8_corner 11 = .ok (.bipush 39, 2) := by decide +kernel
theorem dX8_corner_13 : decode cX8_corner 13 = .ok (.invokestatic 165, 3) := by decide +kernel
theorem dX8_corner_16 : decode cX8_corner 16 = .ok (.ifCond .eq 13, 3) := by decide +kernel
theorem dX8_corner_19 : decode cX8_corner 19 = .ok (.iload_n 3, 1) := by decide +kernel
theorem dX8_corner_20 : decode cX8_corner 20 = .ok (.iconst 0, 1) := by decide +kernel
theorem dX8_corner_21 : decode cX8_corner 21 = .ok (.bipush 39, 2) := by decide +kernel
theorem dX8_corner_23 : decode cX8_corner 23 = .ok (.invokestatic 165, 3) := by decide +kernel
theorem dX8_corner_26 : decode cX8_corner 26 = .ok (.ifCond .ne 5, 3) := by decide +kernel
theorem dX8_corner_29 : decode cX8_corner 29 = .ok (.iconst 0, 1) := by decide +kernel
theorem dX8_corner_30 : decode cX8_corner 30 = .ok (.ireturn, 1) := by decide +kernel
theorem dX8_corner_31 : decode cX8_corner 31 = .ok (.aload_n 0, 1) := by decide +kernel
theorem dX8_corner_32 : decode cX8_corner 32 = .ok (.getfield 56, 3) := by decide +kernel
theorem dX8_corner_35 : decode cX8_corner 35 = .ok (.iload_n 1, 1) := by decide +kernel
theorem dX8_corner_36 : decode cX8_corner 36 = .ok (.iload_n 2, 1) := by decide +kernel
theorem dX8_corner_37 : decode cX8_corner 37 = .ok (.iastore, 1) := by decide +kernel
theorem dX8_corner_38 : decode cX8_corner 38 = .ok (.aload_n 0, 1) := by decide +kernel
theorem dX8_corner_39 : decode cX8_corner 39 = .ok (.getfield 59, 3) := by decide +kernel
theorem dX8_corner_42 : decode cX8_corner 42 = .ok (.iload_n 1, 1) := by decide +kernel
theorem dX8_corner_43 : decode cX8_corner 43 = .ok (.iload_n 3, 1) := by decide +kernel
theorem dX8_corner_44 : decode cX8_corner 44 = .ok (.iastore, 1) := by decide +kernel
theorem dX8_corner_45 : decode cX8_corner 45 = .ok (.iconst 1, 1) := by decide +kernel
theorem dX8_corner_46 : decode cX8_corner 46 = .ok (.ireturn, 1) := by decide +kernel
def mX8_corner : MM := (yX8_corner, cX8_corner, 4, Option.some Jvm.ClassFile.FieldType.boolean, { frames := 1, cells := 0, slots := 0, locals := 22 })
def fX8_corner (σ : SS) (a1 : Int32) (a2 : Int32) (a3 : Int32) : Option (Bool × SS) :=
  if (fX8_in σ a1 (0 : Int32) (3 : Int32)) = true then (
    if (fX8_in σ a2 (0 : Int32) (39 : Int32)) = true then (
      if (fX8_in σ a3 (0 : Int32) (39 : Int32)) = true then (
        grd (inb a1 4) <|
        vthen (sI σ 89 (Int32.toNatClampNeg a1) a2) fun σ2 =>
        vthen (sI σ2 90 (Int32.toNatClampNeg a1) a3) fun σ3 =>
        some (true, σ3)
        ) else (
        some (false, σ)
        )
      ) else (
      some (false, σ)
      )
    ) else (
    some (false, σ)
    )

set_option maxRecDepth 20000 in
theorem sX8_corner {g : GG} {σ : SS} {a1 : Int32} {a2 : Int32} {a3 : Int32} {r : Bool × SS} (hr : fX8_corner σ a1 a2 a3 = some r)  : Ct g mX8_corner [.ref (ad g 73), .int a1, .int a2, .int a3] NF σ (some (.int (b2i r.1))) NF r.2 := by
  refine Ct.of (by decide +kernel) (nle rfl) fun hw0 => ?_
  have hw := hw0 rfl
  unfold fX8_corner at hr
  change RR g mX8_corner (FinR g mX8_corner (some (.int (b2i r.1))) NF r.2) zF 0 [(0, .ref (ad g 73)), (1, .int a1), (2, .int a2), (3, .int a3)] [] σ
  refine r_iload_n (pc := 0) (j := 1) dX8_corner_0 rfl rfl ?_
  refine r_iconst (pc := 1) (v := (0 : Int32)) dX8_corner_1 rfl ?_
  refine r_iconst (pc := 2) (v := (3 : Int32)) dX8_corner_2 rfl ?_
  refine kX8_in (pc := 3) (hf := rfl) tw_6_65 ⟨nle rfl, nle rfl⟩ (nle rfl) dX8_corner_3 ?_
  refine r_ifB_eq (pc := 6) (tgt := 29) dX8_corner_6 rfl (fun hc => ?_) (fun hc => ?_)
  · replace hr := ite_f hc hr
    refine r_iconst (pc := 29) (v := (0 : Int32)) dX8_corner_29 rfl ?_
    exact l_osz hr (r_zret (pc := 30) (v := b2i false) (ty := .boolean) rfl (b2i_nar _) rfl ⟨Nat.le_refl _, Nat.le_refl _⟩ dX8_corner_30)
  replace hr := ite_t hc hr
  refine r_iload_n (pc := 9) (j := 2) dX8_corner_9 rfl rfl ?_
  refine r_iconst (pc := 10) (v := (0 : Int32)) dX8_corner_10 rfl ?_
  refine r_bipush (pc := 11) (v := (39 : Int32)) dX8_corner_11 rfl ?_
  refine kX8_in (pc := 13) (hf := rfl) tw_6_65 ⟨nle rfl, nle rfl⟩ (nle rfl) dX8_corner_13 ?_
  refine r_ifB_eq (pc := 16) (tgt := 29) dX8_corner_16 rfl (fun hc => ?_) (fun hc => ?_)
  · replace hr := ite_f hc hr
    refine r_iconst (pc := 29) (v := (0 : Int32)) dX8_corner_29 rfl ?_
    exact l_osz hr (r_zret (pc := 30) (v := b2i false) (ty := .boolean) rfl (b2i_nar _) rfl ⟨Nat.le_refl _, Nat.le_refl _⟩ dX8_corner_30)
  replace hr := ite_t hc hr
  refine r_iload_n (pc := 19) (j := 3) dX8_corner_19 rfl rfl ?_
  refine r_iconst (pc := 20) (v := (0 : Int32)) dX8_corner_20 rfl ?_
  refine r_bipush (pc := 21) (v := (39 : Int32)) dX8_corner_21 rfl ?_
  refine kX8_in (pc := 23) (hf := rfl) tw_6_65 ⟨nle rfl, nle rfl⟩ (nle rfl) dX8_corner_23 ?_
  refine r_ifB_ne (pc := 26) (tgt := 31) dX8_corner_26 rfl (fun hc => ?_) (fun hc => ?_)
  · replace hr := ite_t hc hr
    refine r_aload_n (pc := 31) (j := 0) dX8_corner_31 rfl rfl ?_
    refine gf8_27 (pc := 32) tw_5_121 hw dX8_corner_32 ?_
    refine r_iload_n (pc := 35) (j := 1) dX8_corner_35 rfl rfl ?_
    refine r_iload_n (pc := 36) (j := 2) dX8_corner_36 rfl rfl ?_
    obtain ⟨h1, hr⟩ := grd_inv hr
    refine x_iast (pc := 37) (j := (Int32.toNatClampNeg a1)) rfl h1 rfl dX8_corner_37 fun σ2 eσ2 => ?_
    replace hr := vthen_inv hr σ2 eσ2
    have hσ2 := wtI eσ2 hw
    refine r_aload_n (pc := 38) (j := 0) dX8_corner_38 rfl rfl ?_
    refine gf8_28 (pc := 39) tw_5_122 hσ2 dX8_corner_39 ?_
    refine r_iload_n (pc := 42) (j := 1) dX8_corner_42 rfl rfl ?_
    refine r_iload_n (pc := 43) (j := 3) dX8_corner_43 rfl rfl ?_
    refine x_iast (pc := 44) (j := (Int32.toNatClampNeg a1)) rfl h1 rfl dX8_corner_44 fun σ3 eσ3 => ?_
    replace hr := vthen_inv hr σ3 eσ3
    have hσ3 := wtI eσ3 hσ2
    refine r_iconst (pc := 45) (v := (1 : Int32)) dX8_corner_45 rfl ?_
    exact l_osz hr (r_zret (pc := 46) (v := b2i true) (ty := .boolean) rfl (b2i_nar _) rfl ⟨Nat.le_refl _, Nat.le_refl _⟩ dX8_corner_46)
  replace hr := ite_f hc hr
  refine r_iconst (pc := 29) (v := (0 : Int32)) dX8_corner_29 rfl ?_
  exact l_osz hr (r_zret (pc := 30) (v := b2i false) (ty := .boolean) rfl (b2i_nar _) rfl ⟨Nat.le_refl _, Nat.le_refl _⟩ dX8_corner_30)

theorem kX8_corner {g : GG} {σ : SS} {a1 : Int32} {a2 : Int32} {a3 : Int32} {v : Bool} {σ2 : SS} {M : MM} {F : State → Array Value → List Frame → State → Prop} {pc index : Nat} {ls : List (Nat × Value)} {rest : List Value} (hf : fX8_corner σ a1 a2 a3 = some (v, σ2))  (hl : Cond.methodLink M.1.cls index yX8_corner ∈ lw_gt) (hR : mX8_corner.2.2.2.2.frames + 1 ≤ M.2.2.2.2.frames ∧ 8 + (mX8_corner.2.2.1 + 11) + mX8_corner.2.2.2.2.locals ≤ M.2.2.2.2.locals) (hrest : (rest.map fun v => v.category).sum ≤ 8) (hd : decode M.2.1 pc = .ok (.invokevirtual index, 3)) (k : WT σ2 → RR g M F zF (pc + 3) ls (.int (b2i v) :: rest) σ2) : RR g M F zF pc ls (.int a3 :: .int a2 :: .int a1 :: .ref (ad g 73) :: rest) σ :=
  r_callV (z := zF) (N := mX8_corner) (nn := 3) (o1 := some (.int (b2i v))) (sX8_corner hf ) (rfl : shp 73 = (8, 0)) (by decide) (shp_le (rfl : shp 73 = (8, 0)) (nle rfl)) (ci := 8) rfl rfl tw_7_158 tw_1_10 hl tw_7_156 tw_7_157 ⟨by decide, by decide, rfl⟩ hR rfl hrest hd ⟨Nat.zero_le _, Nat.zero_le _⟩ rfl (fun h => k (h rfl))

theorem dX7_tick_0 : decode cX7_tick 0 = .ok (.aload_n 0, 1) := by decide +kernel
theorem dX7_tick_1 : decode cX7_tick 1 = .ok (.getfield 32, 3) := by decide +kernel
theorem dX7_tick_4 : decode cX7_tick 4 = .ok (.iload_n 1, 1) := by decide +kernel
theorem dX7_tick_5 : decode cX7_tick 5 = .ok (.invokevirtual 121, 3) := by decide +kernel
theorem dX7_tick_8 : decode cX7_tick 8 = .ok (.ifCond .eq 22, 3) := by decide +kernel
theorem dX7_tick_11 : decode cX7_tick 11 = .ok (.iload_n 2, 1) := by decide +kernel
theorem dX7_tick_12 : decode cX7_tick 12 = .ok (.ifCond .lt 18, 3) := by decide +kernel
theorem dX7_tick_15 : decode cX7_tick 15 = .ok (.iload_n 2, 1) := by decide +kernel
theorem dX7_tick_16 : decode cX7_tick 16 = .ok (.iconst 1, 1) := by decide +kernel
theorem dX7_tick_17 : decode cX7_tick 17 = .ok (.aload_n 0, 1) := by decide +kernel
theorem dX7_tick_18 : decode cX7_tick 18 = .ok (.getfield 32, 3) := by decide +kernel
theorem dX7_tick_21 : decode cX7_tick 21 = .ok (.getfield 129, 3) := by decide +kernel
theorem dX7_tick_24 : decode cX7_tick 24 = .ok (.iload_n 1, 1) := by decide +kernel
theorem dX7_tick_25 : decode cX7_tick 25 = .ok (.iaload, 1) := by decide +kernel
theorem dX7_tick_26 : decode cX7_tick 26 = .ok (.ishl, 1) := by decide +kernel
theorem dX7_tick_27 : decode cX7_tick 27 = .ok (.if_icmp .lt 5, 3) := by decide +kernel
theorem dX7_tick_30 : decode cX7_tick 30 = .ok (.iconst (-1), 1) := by decide +kernel
theorem dX7_tick_31 : decode cX7_tick 31 = .ok (.ireturn, 1) := by decide +kernel
theorem dX7_tick_32 : decode cX7_tick 32 = .ok (.aload_n 0, 1) := by decide +kernel
theorem dX7_tick_33 : decode cX7_tick 33 = .ok (.getfield 56, 3) := by decide +kernel
theorem dX7_tick_36 : decode cX7_tick 36 = .ok (.iload_n 1, 1) := by decide +kernel
theorem dX7_tick_37 : decode cX7_tick 37 = .ok (.iaload, 1) := by decide +kernel
theorem dX7_tick_38 : decode cX7_tick 38 = .ok (.istore_n 3, 1) := by decide +kernel
theorem dX7_tick_39 : decode cX7_tick 39 = .ok (.aload_n 0, 1) := by decide +kernel
theorem dX7_tick_40 : decode cX7_tick 40 = .ok (.getfield 56, 3) := by decide +kernel
theorem dX7_tick_43 : decode cX7_tick 43 = .ok (.iload_n 1, 1) := by decide +kernel
theorem dX7_tick_44 : decode cX7_tick 44 = .ok (.iload_n 2, 1) := by decide +kernel
theorem dX7_tick_45 : decode cX7_tick 45 = .ok (.iastore, 1) := by decide +kernel
theorem dX7_tick_46 : decode cX7_tick 46 = .ok (.iload_n 3, 1) := by decide +kernel
theorem dX7_tick_47 : decode cX7_tick 47 = .ok (.ireturn, 1) := by decide +kernel
def mX7_tick : MM := (yX7_tick, cX7_tick, 4, Option.some Jvm.ClassFile.FieldType.int, { frames := 1, cells := 0, slots := 0, locals := 21 })
def fX7_tick (σ : SS) (a1 : Int32) (a2 : Int32) : Option (Int32 × SS) :=
  if (fX1_hasQuestion σ (gR σ 1 5) a1) = true then (
    if a2 < 0 then (
      some ((-1 : Int32), σ)
      ) else (
      grd (inb a1 12) <|
      if a2 < ((1 : Int32) <<< ((gI σ ((gR σ 1 5) + 3) (Int32.toNatClampNeg a1)) &&& 31)) then (
        vthen (gI σ 30 (Int32.toNatClampNeg a1)) fun v2 =>
        vthen (sI σ 30 (Int32.toNatClampNeg a1) a2) fun σ3 =>
        some (v2, σ3)
        ) else (
        some ((-1 : Int32), σ)
        )
      )
    ) else (
    some ((-1 : Int32), σ)
    )

set_option maxRecDepth 20000 in
theorem sX7_tick {g : GG} {σ : SS} {a1 : Int32} {a2 : Int32} {r : Int32 × SS} (hr : fX7_tick σ a1 a2 = some r)  : Ct g mX7_tick [.ref (ad g 1), .int a1, .int a2] NF σ (some (.int r.1)) NF r.2 := by
  refine Ct.of (by decide +kernel) (nle rfl) fun hw0 => ?_
  have hw := hw0 rfl
  unfold fX7_tick at hr
  change RR g mX7_tick (FinR g mX7_tick (some (.int r.1)) NF r.2) zF 0 [(0, .ref (ad g 1)), (1, .int a1), (2, .int a2)] [] σ
  refine r_aload_n (pc := 0) (j := 0) dX7_tick_0 rfl rfl ?_
  refine gf7_5 (pc := 1) tw_2_114 hw dX7_tick_1 ?_
  refine r_iload_n (pc := 4) (j := 1) dX7_tick_4 rfl rfl ?_
  refine kX1_hasQuestion (pc := 5) (hf := rfl) (wt_fo hw).1 tw_3_87 ⟨nle rfl, nle rfl⟩ (nle rfl) dX7_tick_5 ?_
  refine r_ifB_eq (pc := 8) (tgt := 30) dX7_tick_8 rfl (fun hc => ?_) (fun hc => ?_)
  · replace hr := ite_f hc hr
    refine r_iconst (pc := 30) (v := (-1 : Int32)) dX7_tick_30 rfl ?_
    exact l_osi hr (r_iret (pc := 31) (v := (-1 : Int32)) rfl rfl ⟨Nat.le_refl _, Nat.le_refl _⟩ dX7_tick_31)
  replace hr := ite_t hc hr
  refine r_iload_n (pc := 11) (j := 2) dX7_tick_11 rfl rfl ?_
  refine r_if_lt (pc := 12) (tgt := 30) dX7_tick_12 rfl (fun hc => ?_) (fun hc => ?_)
  · replace hr := ite_t hc hr
    refine r_iconst (pc := 30) (v := (-1 : Int32)) dX7_tick_30 rfl ?_
    exact l_osi hr (r_iret (pc := 31) (v := (-1 : Int32)) rfl rfl ⟨Nat.le_refl _, Nat.le_refl _⟩ dX7_tick_31)
  replace hr := ite_f hc hr
  refine r_iload_n (pc := 15) (j := 2) dX7_tick_15 rfl rfl ?_
  refine r_iconst (pc := 16) (v := (1 : Int32)) dX7_tick_16 rfl ?_
  refine r_aload_n (pc := 17) (j := 0) dX7_tick_17 rfl rfl ?_
  refine gf7_5 (pc := 18) tw_2_114 hw dX7_tick_18 ?_
  refine gf1_9 (pc := 21) tw_1_92 hw (wt_fo hw).1 dX7_tick_21 ?_
  refine r_iload_n (pc := 24) (j := 1) dX7_tick_24 rfl rfl ?_
  obtain ⟨h1, hr⟩ := grd_inv hr
  refine x_iald (pc := 25) (k := (Int32.toNatClampNeg a1)) (sh1_9 (wt_fo hw).1) h1 rfl dX7_tick_25 ?_
  refine r_ishl (pc := 26) dX7_tick_26 ?_
  refine r_icmp_lt (pc := 27) (tgt := 32) dX7_tick_27 rfl (fun hc => ?_) (fun hc => ?_)
  · replace hr := ite_t hc hr
    refine r_aload_n (pc := 32) (j := 0) dX7_tick_32 rfl rfl ?_
    refine gf7_11 (pc := 33) tw_2_120 hw dX7_tick_33 ?_
    refine r_iload_n (pc := 36) (j := 1) dX7_tick_36 rfl rfl ?_
    refine x_iald (pc := 37) (k := (Int32.toNatClampNeg a1)) rfl h1 rfl dX7_tick_37 ?_
    refine r_topi fun v2 ev2 => ?_
    replace hr := vthen_inv hr v2 ev2
    refine r_istore_n (pc := 38) (ls1 := [(3, .int v2), (0, .ref (ad g 1)), (1, .int a1), (2, .int a2)]) dX7_tick_38 rfl (nle rfl) rfl ?_
    refine r_aload_n (pc := 39) (j := 1) dX7_tick_39 rfl rfl ?_
    refine gf7_11 (pc := 40) tw_2_120 hw dX7_tick_40 ?_
    refine r_iload_n (pc := 43) (j := 2) dX7_tick_43 rfl rfl ?_
    refine r_iload_n (pc := 44) (j := 3) dX7_tick_44 rfl rfl ?_
    refine x_iast (pc := 45) (j := (Int32.toNatClampNeg a1)) rfl h1 rfl dX7_tick_45 fun σ3 eσ3 => ?_
    replace hr := vthen_inv hr σ3 eσ3
    have hσ3 := wtI eσ3 hw
    refine r_iload_n (pc := 46) (j := 0) dX7_tick_46 rfl rfl ?_
    exact l_osi hr (r_iret (pc := 47) (v := v2) rfl rfl ⟨Nat.le_refl _, Nat.le_refl _⟩ dX7_tick_47)
  replace hr := ite_f hc hr
  refine r_iconst (pc := 30) (v := (-1 : Int32)) dX7_tick_30 rfl ?_
  exact l_osi hr (r_iret (pc := 31) (v := (-1 : Int32)) rfl rfl ⟨Nat.le_refl _, Nat.le_refl _⟩ dX7_tick_31)

theorem kX7_tick {g : GG} {σ : SS} {a1 : Int32} {a2 : Int32} {v : Int32} {σ2 : SS} {M : MM} {F : State → Array Value → List Frame → State → Prop} {pc index : Nat} {ls : List (Nat × Value)} {rest : List Value} (hf : fX7_tick σ a1 a2 = some (v, σ2))  (hl : Cond.methodLink M.1.cls index yX7_tick ∈ lw_gt) (hR : mX7_tick.2.2.2.2.frames + 1 ≤ M.2.2.2.2.frames ∧ 8 + (mX7_tick.2.2.1 + 11) + mX7_tick.2.2.2.2.locals ≤ M.2.2.2.2.locals) (hrest : (rest.map fun v => v.category).sum ≤ 8) (hd : decode M.2.1 pc = .ok (.invokevirtual index, 3)) (k : WT σ2 → RR g M F zF (pc + 3) ls (.int v :: rest) σ2) : RR g M F zF pc ls (.int a2 :: .int a1 :: .ref (ad g 1) :: rest) σ :=
  r_callV (z := zF) (N := mX7_tick) (nn := 2) (o1 := some (.int v)) (sX7_tick hf ) (rfl : shp 1 = (7, 0)) (by decide) (shp_le (rfl : shp 1 = (7, 0)) (nle rfl)) (ci := 7) rfl rfl tw_4_218 tw_1_1 hl tw_4_216 tw_4_217 ⟨by decide, by decide, rfl⟩ hR rfl hrest hd ⟨Nat.zero_le _, Nat.zero_le _⟩ rfl (fun h => k (h rfl))

theorem dX8_tick_0 : decode cX8_tick 0 = .ok (.aload_n 0, 1) := by decide +kernel
theorem dX8_tick_1 : decode cX8_tick 1 = .ok (.iload_n 1, 1) := by decide +kernel
theorem dX8_tick_2 : decode cX8_tick 2 = .ok (.invokevirtual 269, 3) := by decide +kernel
theorem dX8_tick_5 : decode cX8_tick 5 = .ok (.ifCond .eq 20, 3) := by decide +kernel
theorem dX8_tick_8 : decode cX8_tick 8 = .ok (.iload_n 2, 1) := by decide +kernel
theorem dX8_tick_9 : decode cX8_tick 9 = .ok (.iconst 0, 1) := by decide +kernel
theorem dX8_tick_10 : decode cX8_tick 10 = .ok (.iconst 1, 1) := by decide +kernel
theorem dX8_tick_11 : decode cX8_tick 11 = .ok (.aload_n 0, 1) := by decide +kernel
theorem dX8_tick_12 : decode cX8_tick 12 = .ok (.iload_n 1, 1) := by decide +kernel
theorem dX8_tick_13 : decode cX8_tick 13 = .ok (.invokevirtual 272, 3) := by decide +kernel
theorem dX8_tick_16 : decode cX8_tick 16 = .ok (.ishl, 1) := by decide +kernel
theorem dX8_tick_17 : decode cX8_tick 17 = .ok (.iconst 1, 1) := by decide +kernel
theorem dX8_tick_18 : decode cX8_tick 18 = .ok (.isub, 1) := by decide +kernel
theorem dX8_tick_19 : decode cX8_tick 19 = .ok (.invokestatic 165, 3) := by decide +kernel
theorem dX8_tick_22 : decode cX8_tick 22 = .ok (.ifCond .ne 5, 3) := by decide +kernel
theorem dX8_tick_25 : decode cX8_tick 25 = .ok (.iconst (-1), 1) := by decide +kernel
theorem dX8_tick_26 : decode cX8_tick 26 = .ok (.ireturn, 1) := by decide +kernel
theorem dX8_tick_27 : decode cX8_tick 27 = .ok (.aload_n 0, 1) := by decide +kernel
theorem dX8_tick_28 : decode cX8_tick 28 = .ok (.getfield 35, 3) := by decide +kernel
theorem dX8_tick_31 : decode cX8_tick 31 = .ok (.iload_n 1, 1) := by decide +kernel
theorem dX8_tick_32 : decode cX8_tick 32 = .ok (.iaload, 1) := by decide +kernel
theorem dX8_tick_33 : decode cX8_tick 33 = .ok (.istore_n 3, 1) := by decide +kernel
theorem dX8_tick_34 : decode cX8_tick 34 = .ok (.aload_n 0, 1) := by decide +kernel
theorem dX8_tick_35 : decode cX8_tick 35 = .ok (.getfield 35, 3) := by decide +kernel
theorem dX8_tick_38 : decode cX8_tick 38 = .ok (.iload_n 1, 1) := by decide +kernel
theorem dX8_tick_39 : decode cX8_tick 39 = .ok (.iload_n 2, 1) := by decide +kernel
theorem dX8_tick_40 : decode cX8_tick 40 = .ok (.iastore, 1) := by decide +kernel
theorem dX8_tick_41 : decode cX8_tick 41 = .ok (.iload_n 3, 1) := by decide +kernel
theorem dX8_tick_42 : decode cX8_tick 42 = .ok (.ireturn, 1) := by decide +kernel
def mX8_tick : MM := (yX8_tick, cX8_tick, 4, Option.some Jvm.ClassFile.FieldType.int, { frames := 3, cells := 0, slots := 0, locals := 62 })
def fX8_tick (σ : SS) (a1 : Int32) (a2 : Int32) : Option (Int32 × SS) :=
  bnd1 (fX8_isQuestion σ a1) fun b2 =>
  if b2 = true then (
    bnd1 (fX8_boxesOf σ a1) fun v4 =>
    if (fX8_in σ a2 (0 : Int32) (((1 : Int32) <<< (v4 &&& 31)) - (1 : Int32))) = true then (
      grd (inb a1 12) <|
      vthen (gI σ 82 (Int32.toNatClampNeg a1)) fun v8 =>
      vthen (sI σ 82 (Int32.toNatClampNeg a1) a2) fun σ9 =>
      some (v8, σ9)
      ) else (
      some ((-1 : Int32), σ)
      )
    ) else (
    some ((-1 : Int32), σ)
    )

set_option maxRecDepth 20000 in
theorem sX8_tick {g : GG} {σ : SS} {a1 : Int32} {a2 : Int32} {r : Int32 × SS} (hr : fX8_tick σ a1 a2 = some r)  : Ct g mX8_tick [.ref (ad g 73), .int a1, .int a2] NF σ (some (.int r.1)) NF r.2 := by
  refine Ct.of (by decide +kernel) (nle rfl) fun hw0 => ?_
  have hw := hw0 rfl
  unfold fX8_tick at hr
  change RR g mX8_tick (FinR g mX8_tick (some (.int r.1)) NF r.2) zF 0 [(0, .ref (ad g 73)), (1, .int a1), (2, .int a2)] [] σ
  refine r_aload_n (pc := 0) (j := 0) dX8_tick_0 rfl rfl ?_
  refine r_iload_n (pc := 1) (j := 1) dX8_tick_1 rfl rfl ?_
  obtain ⟨b2, hb2, hr⟩ := bnd1_inv hr
  refine kX8_isQuestion (pc := 2) hb2 tw_6_141 ⟨nle rfl, nle rfl⟩ (nle rfl) dX8_tick_2 ?_
  refine r_ifB_eq (pc := 5) (tgt := 25) dX8_tick_5 rfl (fun hc => ?_) (fun hc => ?_)
  · replace hr := ite_f hc hr
    refine r_iconst (pc := 25) (v := (-1 : Int32)) dX8_tick_25 rfl ?_
    exact l_osi hr (r_iret (pc := 26) (v := (-1 : Int32)) rfl rfl ⟨Nat.le_refl _, Nat.le_refl _⟩ dX8_tick_26)
  replace hr := ite_t hc hr
  refine r_iload_n (pc := 8) (j := 2) dX8_tick_8 rfl rfl ?_
  refine r_iconst (pc := 9) (v := (0 : Int32)) dX8_tick_9 rfl ?_
  refine r_iconst (pc := 10) (v := (1 : Int32)) dX8_tick_10 rfl ?_
  refine r_aload_n (pc := 11) (j := 0) dX8_tick_11 rfl rfl ?_
  refine r_iload_n (pc := 12) (j := 1) dX8_tick_12 rfl rfl ?_
  obtain ⟨v4, hv4, hr⟩ := bnd1_inv hr
  refine kX8_boxesOf (pc := 13) hv4 tw_7_27 ⟨nle rfl, nle rfl⟩ (nle rfl) dX8_tick_13 ?_
  refine r_ishl (pc := 16) dX8_tick_16 ?_
  refine r_iconst (pc := 17) (v := (1 : Int32)) dX8_tick_17 rfl ?_
  refine r_isub (pc := 18) dX8_tick_18 ?_
  refine kX8_in (pc := 19) (hf := rfl) tw_6_65 ⟨nle rfl, nle rfl⟩ (nle rfl) dX8_tick_19 ?_
  refine r_ifB_ne (pc := 22) (tgt := 27) dX8_tick_22 rfl (fun hc => ?_) (fun hc => ?_)
  · replace hr := ite_t hc hr
    refine r_aload_n (pc := 27) (j := 0) dX8_tick_27 rfl rfl ?_
    refine gf8_20 (pc := 28) tw_5_114 hw dX8_tick_28 ?_
    refine r_iload_n (pc := 31) (j := 1) dX8_tick_31 rfl rfl ?_
    obtain ⟨h7, hr⟩ := grd_inv hr
    refine x_iald (pc := 32) (k := (Int32.toNatClampNeg a1)) rfl h7 rfl dX8_tick_32 ?_
    refine r_topi fun v8 ev8 => ?_
    replace hr := vthen_inv hr v8 ev8
    refine r_istore_n (pc := 33) (ls1 := [(3, .int v8), (0, .ref (ad g 73)), (1, .int a1), (2, .int a2)]) dX8_tick_33 rfl (nle rfl) rfl ?_
    refine r_aload_n (pc := 34) (j := 1) dX8_tick_34 rfl rfl ?_
    refine gf8_20 (pc := 35) tw_5_114 hw dX8_tick_35 ?_
    refine r_iload_n (pc := 38) (j := 2) dX8_tick_38 rfl rfl ?_
    refine r_iload_n (pc := 39) (j := 3) dX8_tick_39 rfl rfl ?_
    refine x_iast (pc := 40) (j := (Int32.toNatClampNeg a1)) rfl h7 rfl dX8_tick_40 fun σ9 eσ9 => ?_
    replace hr := vthen_inv hr σ9 eσ9
    have hσ9 := wtI eσ9 hw
    refine r_iload_n (pc := 41) (j := 0) dX8_tick_41 rfl rfl ?_
    exact l_osi hr (r_iret (pc := 42) (v := v8) rfl rfl ⟨Nat.le_refl _, Nat.le_refl _⟩ dX8_tick_42)
  replace hr := ite_f hc hr
  refine r_iconst (pc := 25) (v := (-1 : Int32)) dX8_tick_25 rfl ?_
  exact l_osi hr (r_iret (pc := 26) (v := (-1 : Int32)) rfl rfl ⟨Nat.le_refl _, Nat.le_refl _⟩ dX8_tick_26)

theorem kX8_tick {g : GG} {σ : SS} {a1 : Int32} {a2 : Int32} {v : Int32} {σ2 : SS} {M : MM} {F : State → Array Value → List Frame → State → Prop} {pc index : Nat} {ls : List (Nat × Value)} {rest : List Value} (hf : fX8_tick σ a1 a2 = some (v, σ2))  (hl : Cond.methodLink M.1.cls index yX8_tick ∈ lw_gt) (hR : mX8_tick.2.2.2.2.frames + 1 ≤ M.2.2.2.2.frames ∧ 8 + (mX8_tick.2.2.1 + 11) + mX8_tick.2.2.2.2.locals ≤ M.2.2.2.2.locals) (hrest : (rest.map fun v => v.category).sum ≤ 8) (hd : decode M.2.1 pc = .ok (.invokevirtual index, 3)) (k : WT σ2 → RR g M F zF (pc + 3) ls (.int v :: rest) σ2) : RR g M F zF pc ls (.int a2 :: .int a1 :: .ref (ad g 73) :: rest) σ :=
  r_callV (z := zF) (N := mX8_tick) (nn := 2) (o1 := some (.int v)) (sX8_tick hf ) (rfl : shp 73 = (8, 0)) (by decide) (shp_le (rfl : shp 73 = (8, 0)) (nle rfl)) (ci := 8) rfl rfl tw_7_162 tw_1_10 hl tw_7_160 tw_7_161 ⟨by decide, by decide, rfl⟩ hR rfl hrest hd ⟨Nat.zero_le _, Nat.zero_le _⟩ rfl (fun h => k (h rfl))

theorem dX6_holdsRound_0 : decode cX6_holdsRound 0 = .ok (.aload_n 0, 1) := by decide +kernel
theorem dX6_holdsRound_1 : decode cX6_holdsRound 1 = .ok (.iload_n 1, 1) := by decide +kernel
theorem dX6_holdsRound_2 : decode cX6_holdsRound 2 = .ok (.iconst 1, 1) := by decide +kernel
theorem dX6_holdsRound_3 : decode cX6_holdsRound 3 = .ok (.isub, 1) := by decide +kernel
theorem dX6_holdsRound_4 : decode cX6_holdsRound 4 = .ok (.iload_n 2, 1) := by decide +kernel
theorem dX6_holdsRound_5 : decode cX6_holdsRound 5 = .ok (.iconst 1, 1) := by decide +kernel
theorem dX6_holdsRound_6 : decode cX6_holdsRound 6 = .ok (.isub, 1) := by decide +kernel
theorem dX6_holdsRound_7 : decode cX6_holdsRound 7 = .ok (.invokevirtual 31, 3) := by decide +kernel
theorem dX6_holdsRound_10 : decode cX6_holdsRound 10 = .ok (.ifCond .eq 20, 3) := by decide +kernel
theorem dX6_holdsRound_13 : decode cX6_holdsRound 13 = .ok (.aload_n 0, 1) := by decide +kernel
theorem dX6_holdsRound_14 : decode cX6_holdsRound 14 = .ok (.iload_n 1, 1) := by decide +kernel
theorem dX6_holdsRound_15 : decode cX6_holdsRound 15 = .ok (.iconst 1, 1) := by decide +kernel
theorem dX6_holdsRound_16 : decode cX6_holdsRound 16 = .ok (.iadd, 1) := by decide +kernel
theorem dX6_holdsRound_17 : decode cX6_holdsRound 17 = .ok (.iload_n 2, 1) := by decide +kernel
theorem dX6_holdsRound_18 : decode cX6_holdsRound 18 = .ok (.iconst 1, 1) := by decide +kernel
theorem dX6_holdsRound_19 : decode cX6_holdsRound 19 = .ok (.iadd, 1) := by decide +kernel
theorem dX6_holdsRound_20 : decode cX6_holdsRound 20 = .ok (.invokevirtual 31, 3) := by decide +kernel
theorem dX6_holdsRound_23 : decode cX6_holdsRound 23 = .ok (.ifCond .eq 7, 3) := by decide +kernel
theorem dX6_holdsRound_26 : decode cX6_holdsRound 26 = .ok (.iconst 1, 1) := by decide +kernel
theorem dX6_holdsRound_27 : decode cX6_holdsRound 27 = .ok (.goto 4, 3) := by decide +kernel
theorem dX6_holdsRound_30 : decode cX6_holdsRound 30 = .ok (.iconst 0, 1) := by decide +kernel
theorem dX6_holdsRound_31 : decode cX6_holdsRound 31 = .ok (.ireturn, 1) := by decide +kernel
def mX6_holdsRound : MM := (yX6_holdsRound, cX6_holdsRound, 3, Option.some Jvm.ClassFile.FieldType.boolean, { frames := 1, cells := 0, slots := 0, locals := 22 })
def fX6_holdsRound (σ0 : SS) (a0 : Nat) (a1 : Int32) (a2 : Int32) : Bool :=
  vthen (fun (_u : Unit) =>
    false
    ) fun j30 =>
  if (fX6_has σ0 a0 (a1 - (1 : Int32)) (a2 - (1 : Int32))) = true then (
    if (fX6_has σ0 a0 (a1 + (1 : Int32)) (a2 + (1 : Int32))) = true then (
      true
      ) else (
      j30 ()
      )
    ) else (
    j30 ()
    )

set_option maxRecDepth 20000 in
theorem sX6_holdsRound {g : GG} {σ0 : SS} {a0 : Nat} {a1 : Int32} {a2 : Int32} {r : Bool} (hr : fX6_holdsRound σ0 a0 a1 a2 = r) (hs0 : shp a0 = (6, 0)) : Ct g mX6_holdsRound [.ref (ad g a0), .int a1, .int a2] NF σ0 (some (.int (b2i r))) NF σ0 := by
  refine Ct.of (by decide +kernel) (nle rfl) fun hw0 => ?_
  have hw := hw0 rfl
  unfold fX6_holdsRound at hr
  change RR g mX6_holdsRound (FinR g mX6_holdsRound (some (.int (b2i r))) NF σ0) zF 0 [(0, .ref (ad g a0)), (1, .int a1), (2, .int a2)] [] σ0
  refine r_aload_n (pc := 0) (j := 0) dX6_holdsRound_0 rfl rfl ?_
  refine r_iload_n (pc := 1) (j := 1) dX6_holdsRound_1 rfl rfl ?_
  refine r_iconst (pc := 2) (v := (1 : Int32)) dX6_holdsRound_2 rfl ?_
  refine r_isub (pc := 3) dX6_holdsRound_3 ?_
  refine r_iload_n (pc := 4) (j := 2) dX6_holdsRound_4 rfl rfl ?_
  refine r_iconst (pc := 5) (v := (1 : Int32)) dX6_holdsRound_5 rfl ?_
  refine r_isub (pc := 6) dX6_holdsRound_6 ?_
  refine kX6_has (pc := 7) (hf := rfl) hs0 tw_3_116 ⟨nle rfl, nle rfl⟩ (nle rfl) dX6_holdsRound_7 ?_
  obtain ⟨j30, ej30, hr⟩ := vth_ex hr
  have hj30 : j30 () = r → RR g mX6_holdsRound (FinR g mX6_holdsRound (some (.int (b2i r))) NF σ0) zF 30 [] [] σ0 := by
    intro  hr
    replace hr := (congrFun ej30 ()).symm.trans hr
    refine r_iconst (pc := 30) (v := (0 : Int32)) dX6_holdsRound_30 rfl ?_
    exact l_pz hr (r_zret (pc := 31) (v := b2i false) (ty := .boolean) rfl (b2i_nar _) rfl ⟨Nat.le_refl _, Nat.le_refl _⟩ dX6_holdsRound_31)
  refine r_ifB_eq (pc := 10) (tgt := 30) dX6_holdsRound_10 rfl (fun hc => ?_) (fun hc => ?_)
  · replace hr := ite_f hc hr
    exact r_pick (ls1 := []) [] rfl (hj30  hr)
  replace hr := ite_t hc hr
  refine r_aload_n (pc := 13) (j := 0) dX6_holdsRound_13 rfl rfl ?_
  refine r_iload_n (pc := 14) (j := 1) dX6_holdsRound_14 rfl rfl ?_
  refine r_iconst (pc := 15) (v := (1 : Int32)) dX6_holdsRound_15 rfl ?_
  refine r_iadd (pc := 16) dX6_holdsRound_16 ?_
  refine r_iload_n (pc := 17) (j := 2) dX6_holdsRound_17 rfl rfl ?_
  refine r_iconst (pc := 18) (v := (1 : Int32)) dX6_holdsRound_18 rfl ?_
  refine r_iadd (pc := 19) dX6_holdsRound_19 ?_
  refine kX6_has (pc := 20) (hf := rfl) hs0 tw_3_116 ⟨nle rfl, nle rfl⟩ (nle rfl) dX6_holdsRound_20 ?_
  refine r_ifB_eq (pc := 23) (tgt := 30) dX6_holdsRound_23 rfl (fun hc => ?_) (fun hc => ?_)
  · replace hr := ite_f hc hr
    exact r_pick (ls1 := []) [] rfl (hj30  hr)
  replace hr := ite_t hc hr
  refine r_iconst (pc := 26) (v := (1 : Int32)) dX6_holdsRound_26 rfl ?_
  refine r_goto (pc := 27) (tgt := 31) dX6_holdsRound_27 rfl ?_
  exact l_pz hr (r_zret (pc := 31) (v := b2i true) (ty := .boolean) rfl (b2i_nar _) rfl ⟨Nat.le_refl _, Nat.le_refl _⟩ dX6_holdsRound_31)

theorem kX6_holdsRound {g : GG} {σ0 : SS} {a0 : Nat} {a1 : Int32} {a2 : Int32} {v : Bool} {M : MM} {F : State → Array Value → List Frame → State → Prop} {pc index : Nat} {ls : List (Nat × Value)} {rest : List Value} (hf : fX6_holdsRound σ0 a0 a1 a2 = v) (hs0 : shp a0 = (6, 0)) (hl : Cond.methodLink M.1.cls index yX6_holdsRound ∈ lw_gt) (hR : mX6_holdsRound.2.2.2.2.frames + 1 ≤ M.2.2.2.2.frames ∧ 8 + (mX6_holdsRound.2.2.1 + 11) + mX6_holdsRound.2.2.2.2.locals ≤ M.2.2.2.2.locals) (hrest : (rest.map fun v => v.category).sum ≤ 8) (hd : decode M.2.1 pc = .ok (.invokevirtual index, 3)) (k : RR g M F zF (pc + 3) ls (.int (b2i v) :: rest) σ0) : RR g M F zF pc ls (.int a2 :: .int a1 :: .ref (ad g a0) :: rest) σ0 :=
  r_callV (z := zF) (N := mX6_holdsRound) (nn := 2) (o1 := some (.int (b2i v))) (sX6_holdsRound hf hs0) hs0 (by decide) (shp_le hs0 (nle rfl)) (ci := 6) rfl rfl tw_4_226 tw_1_2 hl tw_4_224 tw_4_225 ⟨by decide, by decide, rfl⟩ hR rfl hrest hd ⟨Nat.zero_le _, Nat.zero_le _⟩ rfl (fun h => k)

theorem dX6_putRound_0 : decode cX6_putRound 0 = .ok (.iload_n 2, 1) := by decide +kernel
theorem dX6_putRound_1 : decode cX6_putRound 1 = .ok (.iconst 1, 1) := by decide +kernel
theorem dX6_putRound_2 : decode cX6_putRound 2 = .ok (.isub, 1) := by decide +kernel
theorem dX6_putRound_3 : decode cX6_putRound 3 = .ok (.istore 4, 2) := by decide +kernel
theorem dX6_putRound_5 : decode cX6_putRound 5 = .ok (.iload 4, 2) := by decide +kernel
theorem dX6_putRound_7 : decode cX6_putRound 7 = .ok (.iload_n 2, 1) := by decide +kernel
theorem dX6_putRound_8 : decode cX6_putRound 8 = .ok (.iconst 1, 1) := by decide +kernel
theorem dX6_putRound_9 : decode cX6_putRound 9 = .ok (.iadd, 1) := by decide +kernel
theorem dX6_putRound_10 : decode cX6_putRound 10 = .ok (.if_icmp .gt 38, 3) := by decide +kernel
theorem dX6_putRound_13 : decode cX6_putRound 13 = .ok (.iload_n 1, 1) := by decide +kernel
theorem dX6_putRound_14 : decode cX6_putRound 14 = .ok (.iconst 1, 1) := by decide +kernel
theorem dX6_putRound_15 : decode cX6_putRound 15 = .ok (.isub, 1) := by decide +kernel
theorem dX6_putRound_16 : decode cX6_putRound 16 = .ok (.istore 5, 2) := by decide +kernel
theorem dX6_putRound_18 : decode cX6_putRound 18 = .ok (.iload 5, 2) := by decide +kernel
theorem dX6_putRound_20 : decode cX6_putRound 20 = .ok (.iload_n 1, 1) := by decide +kernel
theorem dX6_putRound_21 : decode cX6_putRound 21 = .ok (.iconst 1, 1) := by decide +kernel
theorem dX6_putRound_22 : decode cX6_putRound 22 = .ok (.iadd, 1) := by decide +kernel
theorem dX6_putRound_23 : decode cX6_putRound 23 = .ok (.if_icmp .gt 19, 3) := by decide +kernel
theorem dX6_putRound_26 : decode cX6_putRound 26 = .ok (.aload_n 0, 1) := by decide +kernel
theorem dX6_putRound_27 : decode cX6_putRound 27 = .ok (.iload 5, 2) := by decide +kernel
theorem dX6_putRound_29 : decode cX6_putRound 29 = .ok (.iload 4, 2) := by decide +kernel
theorem dX6_putRound_31 : decode cX6_putRound 31 = .ok (.iload_n 3, 1) := by decide +kernel
theorem dX6_putRound_32 : decode cX6_putRound 32 = .ok (.invokevirtual 35, 3) := by decide +kernel
theorem dX6_putRound_35 : decode cX6_putRound 35 = .ok (.pop, 1) := by decide +kernel
theorem dX6_putRound_36 : decode cX6_putRound 36 = .ok (.iinc 5 1, 3) := by decide +kernel
theorem dX6_putRound_39 : decode cX6_putRound 39 = .ok (.goto (-21), 3) := by decide +kernel
theorem dX6_putRound_42 : decode cX6_putRound 42 = .ok (.iinc 4 1, 3) := by decide +kernel
theorem dX6_putRound_45 : decode cX6_putRound 45 = .ok (.goto (-40), 3) := by decide +kernel
theorem dX6_putRound_48 : decode cX6_putRound 48 = .ok (.return_, 1) := by decide +kernel
def mX6_putRound : MM := (yX6_putRound, cX6_putRound, 6, none, { frames := 2, cells := 0, slots := 0, locals := 47 })
def X6_putRound_L18 (o0_ : Nat) (u1_ : Int32) (u3_ : Int32) (u4_ : Int32) (k42 : SS → Option SS) : Nat → Int32 → SS → Option SS :=
  lp (fun _ _ => none) fun rec v5_ σ_ =>
    if (u1_ + (1 : Int32)) < v5_ then (
      k42 σ_
      ) else (
      bnd (fX6_put σ_ o0_ v5_ u4_ u3_) fun b4 σ6 =>
      rec (v5_ + (1 : Int32)) σ6
      )

def X6_putRound_L5 (o0_ : Nat) (u1_ : Int32) (u2_ : Int32) (u3_ : Int32)  : Nat → Int32 → SS → Option SS :=
  lp (fun _ _ => none) fun rec v4_ σ_ =>
    if (u2_ + (1 : Int32)) < v4_ then (
      some σ_
      ) else (
      vthen (u1_ - (1 : Int32)) fun v2 =>
      X6_putRound_L18 o0_ u1_ u3_ v4_
      (fun σ7 =>
        rec (v4_ + (1 : Int32)) σ7
        )
      fuel v2 σ_
      )

def fX6_putRound (σ : SS) (a0 : Nat) (a1 : Int32) (a2 : Int32) (a3 : Int32) : Option SS :=
  vthen (a2 - (1 : Int32)) fun v1 =>
  X6_putRound_L5 a0 a1 a2 a3
  fuel v1 σ

set_option maxRecDepth 20000 in
theorem sX6_putRound_L18 {g : GG} {r : SS} {o0_ : Nat} {u1_ : Int32} {x2_ : Int32} {u3_ : Int32} {u4_ : Int32} {k42 : SS → Option SS} (hs0_ : shp o0_ = (6, 0))
    (hk42 : ∀ (σ_ : SS), k42 σ_ = some r → WT σ_ → RR g mX6_putRound (FinR g mX6_putRound none NF r) zF 42 [(0, .ref (ad g o0_)), (1, .int u1_), (2, .int x2_), (3, .int u3_), (4, .int u4_)] [] σ_)
    (n : Nat) : ∀ (v5_ : Int32) (σ_ : SS), X6_putRound_L18 o0_ u1_ u3_ u4_ k42 n v5_ σ_ = some r → WT σ_ → RR g mX6_putRound (FinR g mX6_putRound none NF r) zF 18 [(0, .ref (ad g o0_)), (1, .int u1_), (2, .int x2_), (3, .int u3_), (4, .int u4_), (5, .int v5_)] [] σ_ := by
  unfold X6_putRound_L18
  refine lp_ind (P := fun (rec : Int32 → SS → Option SS) => ∀ (v5_ : Int32) (σ_ : SS), rec v5_ σ_ = some r → WT σ_ → RR g mX6_putRound (FinR g mX6_putRound none NF r) zF 18 [(0, .ref (ad g o0_)), (1, .int u1_), (2, .int x2_), (3, .int u3_), (4, .int u4_), (5, .int v5_)] [] σ_) ?_ ?_ n
  · intro v5_ σ_ hr; cases hr
  intro rec ih v5_ σ_ hr hw_
  refine r_iload (pc := 18) (j := 5) dX6_putRound_18 rfl ?_
  refine r_iload_n (pc := 20) (j := 1) dX6_putRound_20 rfl rfl ?_
  refine r_iconst (pc := 21) (v := (1 : Int32)) dX6_putRound_21 rfl ?_
  refine r_iadd (pc := 22) dX6_putRound_22 ?_
  refine r_icmp_gt (pc := 23) (tgt := 42) dX6_putRound_23 rfl (fun hc => ?_) (fun hc => ?_)
  · replace hr := ite_t hc hr
    exact r_pick (ls1 := [(0, .ref (ad g o0_)), (1, .int u1_), (2, .int x2_), (3, .int u3_), (4, .int u4_)]) [0, 1, 2, 3, 4] rfl (hk42 σ_ hr hw_)
  replace hr := ite_f hc hr
  refine r_aload_n (pc := 26) (j := 0) dX6_putRound_26 rfl rfl ?_
  refine r_iload (pc := 27) (j := 5) dX6_putRound_27 rfl ?_
  refine r_iload (pc := 29) (j := 4) dX6_putRound_29 rfl ?_
  refine r_iload_n (pc := 31) (j := 3) dX6_putRound_31 rfl rfl ?_
  obtain ⟨b4, σ6, eσ6, hr⟩ := bnd_inv hr
  refine kX6_put (pc := 32) eσ6 hs0_ tw_3_162 ⟨nle rfl, nle rfl⟩ (nle rfl) dX6_putRound_32 fun hσ6 => ?_
  refine r_pop (pc := 35) dX6_putRound_35 rfl ?_
  refine r_iinc (pc := 36) (j := 5) (v := (v5_ + (1 : Int32))) (ls1 := [(5, .int (v5_ + (1 : Int32))), (0, .ref (ad g o0_)), (1, .int u1_), (2, .int x2_), (3, .int u3_), (4, .int u4_)]) dX6_putRound_36 rfl rfl (nle rfl) rfl ?_
  refine r_goto (pc := 39) (tgt := 18) dX6_putRound_39 rfl ?_
  exact r_pick (ls1 := [(0, .ref (ad g o0_)), (1, .int u1_), (2, .int x2_), (3, .int u3_), (4, .int u4_), (5, .int (v5_ + (1 : Int32)))]) [1, 2, 3, 4, 5, 0] rfl (ih (v5_ + (1 : Int32)) σ6 hr hσ6)

set_option maxRecDepth 20000 in
theorem sX6_putRound_L5 {g : GG} {r : SS} {o0_ : Nat} {u1_ : Int32} {u2_ : Int32} {u3_ : Int32}  (hs0_ : shp o0_ = (6, 0))
    (n : Nat) : ∀ (v4_ : Int32) (σ_ : SS), X6_putRound_L5 o0_ u1_ u2_ u3_ n v4_ σ_ = some r → WT σ_ → RR g mX6_putRound (FinR g mX6_putRound none NF r) zF 5 [(0, .ref (ad g o0_)), (1, .int u1_), (2, .int u2_), (3, .int u3_), (4, .int v4_)] [] σ_ := by
  unfold X6_putRound_L5
  refine lp_ind (P := fun (rec : Int32 → SS → Option SS) => ∀ (v4_ : Int32) (σ_ : SS), rec v4_ σ_ = some r → WT σ_ → RR g mX6_putRound (FinR g mX6_putRound none NF r) zF 5 [(0, .ref (ad g o0_)), (1, .int u1_), (2, .int u2_), (3, .int u3_), (4, .int v4_)] [] σ_) ?_ ?_ n
  · intro v4_ σ_ hr; cases hr
  intro rec ih v4_ σ_ hr hw_
  refine r_iload (pc := 5) (j := 4) dX6_putRound_5 rfl ?_
  refine r_iload_n (pc := 7) (j := 2) dX6_putRound_7 rfl rfl ?_
  refine r_iconst (pc := 8) (v := (1 : Int32)) dX6_putRound_8 rfl ?_
  refine r_iadd (pc := 9) dX6_putRound_9 ?_
  refine r_icmp_gt (pc := 10) (tgt := 48) dX6_putRound_10 rfl (fun hc => ?_) (fun hc => ?_)
  · replace hr := ite_t hc hr
    exact l_ov hr (r_vret (pc := 48) rfl rfl ⟨Nat.le_refl _, Nat.le_refl _⟩ dX6_putRound_48)
  replace hr := ite_f hc hr
  refine r_iload_n (pc := 13) (j := 1) dX6_putRound_13 rfl rfl ?_
  refine r_iconst (pc := 14) (v := (1 : Int32)) dX6_putRound_14 rfl ?_
  refine r_isub (pc := 15) dX6_putRound_15 ?_
  refine r_topi fun v2 ev2 => ?_
  replace hr := vthen_inv hr v2 ev2
  refine r_istore (pc := 16) (ls1 := [(5, .int v2), (0, .ref (ad g o0_)), (1, .int u1_), (2, .int u2_), (3, .int u3_), (4, .int v4_)]) dX6_putRound_16 (nle rfl) rfl ?_
  refine r_pick (ls1 := [(0, .ref (ad g o0_)), (1, .int u1_), (2, .int u2_), (3, .int u3_), (4, .int v4_), (5, .int v2)]) [1, 2, 3, 4, 5, 0] rfl ?_
  refine sX6_putRound_L18 hs0_   (fun σ7 hr hσ7 => ?_) fuel v2 σ_ hr hw_
  refine r_iinc (pc := 42) (j := 4) (v := (v4_ + (1 : Int32))) (ls1 := [(4, .int (v4_ + (1 : Int32))), (0, .ref (ad g o0_)), (1, .int u1_), (2, .int u2_), (3, .int u3_)]) dX6_putRound_42 rfl rfl (nle rfl) rfl ?_
  refine r_goto (pc := 45) (tgt := 5) dX6_putRound_45 rfl ?_
  exact r_pick (ls1 := [(0, .ref (ad g o0_)), (1, .int u1_), (2, .int u2_), (3, .int u3_), (4, .int (v4_ + (1 : Int32)))]) [1, 2, 3, 4, 0] rfl (ih (v4_ + (1 : Int32)) σ7 hr hσ7)

set_option maxRecDepth 20000 in
theorem sX6_putRound {g : GG} {σ : SS} {a0 : Nat} {a1 : Int32} {a2 : Int32} {a3 : Int32} {r : SS} (hr : fX6_putRound σ a0 a1 a2 a3 = some r) (hs0 : shp a0 = (6, 0)) : Ct g mX6_putRound [.ref (ad g a0), .int a1, .int a2, .int a3] NF σ none NF r := by
  refine Ct.of (by decide +kernel) (nle rfl) fun hw0 => ?_
  have hw := hw0 rfl
  unfold fX6_putRound at hr
  change RR g mX6_putRound (FinR g mX6_putRound none NF r) zF 0 [(0, .ref (ad g a0)), (1, .int a1), (2, .int a2), (3, .int a3)] [] σ
  refine r_iload_n (pc := 0) (j := 2) dX6_putRound_0 rfl rfl ?_
  refine r_iconst (pc := 1) (v := (1 : Int32)) dX6_putRound_1 rfl ?_
  refine r_isub (pc := 2) dX6_putRound_2 ?_
  refine r_topi fun v1 ev1 => ?_
  replace hr := vthen_inv hr v1 ev1
  refine r_istore (pc := 3) (ls1 := [(4, .int v1), (0, .ref (ad g a0)), (1, .int a1), (2, .int a2), (3, .int a3)]) dX6_putRound_3 (nle rfl) rfl ?_
  refine r_pick (ls1 := [(0, .ref (ad g a0)), (1, .int a1), (2, .int a2), (3, .int a3), (4, .int v1)]) [1, 2, 3, 4, 0] rfl ?_
  refine sX6_putRound_L5 hs0    fuel v1 σ hr hw

theorem kX6_putRound {g : GG} {σ : SS} {a0 : Nat} {a1 : Int32} {a2 : Int32} {a3 : Int32} {σ2 : SS} {M : MM} {F : State → Array Value → List Frame → State → Prop} {pc index : Nat} {ls : List (Nat × Value)} {rest : List Value} (hf : fX6_putRound σ a0 a1 a2 a3 = some σ2) (hs0 : shp a0 = (6, 0)) (hl : Cond.methodLink M.1.cls index yX6_putRound ∈ lw_gt) (hR : mX6_putRound.2.2.2.2.frames + 1 ≤ M.2.2.2.2.frames ∧ 8 + (mX6_putRound.2.2.1 + 11) + mX6_putRound.2.2.2.2.locals ≤ M.2.2.2.2.locals) (hrest : (rest.map fun v => v.category).sum ≤ 8) (hd : decode M.2.1 pc = .ok (.invokevirtual index, 3)) (k : WT σ2 → RR g M F zF (pc + 3) ls rest σ2) : RR g M F zF pc ls (.int a3 :: .int a2 :: .int a1 :: .ref (ad g a0) :: rest) σ :=
  r_callV (z := zF) (N := mX6_putRound) (nn := 3) (o1 := none) (sX6_putRound hf hs0) hs0 (by decide) (shp_le hs0 (nle rfl)) (ci := 6) rfl rfl tw_4_230 tw_1_2 hl tw_4_228 tw_4_229 ⟨by decide, by decide, rfl⟩ hR rfl hrest hd ⟨Nat.zero_le _, Nat.zero_le _⟩ rfl (fun h => k (h rfl))

theorem dX7_inkBox_0 : decode cX7_inkBox 0 = .ok (.aload_n 0, 1) := by decide +kernel
theorem dX7_inkBox_1 : decode cX7_inkBox 1 = .ok (.getfield 62, 3) := by decide +kernel
theorem dX7_inkBox_4 : decode cX7_inkBox 4 = .ok (.getfield 259, 3) := by decide +kernel
theorem dX7_inkBox_7 : decode cX7_inkBox 7 = .ok (.astore_n 3, 1) := by decide +kernel
theorem dX7_inkBox_8 : decode cX7_inkBox 8 = .ok (.aload_n 0, 1) := by decide +kernel
theorem dX7_inkBox_9 : decode cX7_inkBox 9 = .ok (.getfield 32, 3) := by decide +kernel
theorem dX7_inkBox_12 : decode cX7_inkBox 12 = .ok (.getfield 142, 3) := by decide +kernel
theorem dX7_inkBox_15 : decode cX7_inkBox 15 = .ok (.iload_n 1, 1) := by decide +kernel
theorem dX7_inkBox_16 : decode cX7_inkBox 16 = .ok (.iaload, 1) := by decide +kernel
theorem dX7_inkBox_17 : decode cX7_inkBox 17 = .ok (.istore 4, 2) := by decide +kernel
theorem dX7_inkBox_19 : decode cX7_inkBox 19 = .ok (.aload_n 0, 1) := by decide +kernel
theorem dX7_inkBox_20 : decode cX7_inkBox 20 = .ok (.getfield 32, 3) := by decide +kernel
theorem dX7_inkBox_23 : decode cX7_inkBox 23 = .ok (.getfield 148, 3) := by decide +kernel
theorem dX7_inkBox_26 : decode cX7_inkBox 26 = .ok (.iload_n 1, 1) := by decide +kernel
theorem dX7_inkBox_27 : decode cX7_inkBox 27 = .ok (.iaload, 1) := by decide +kernel
theorem dX7_inkBox_28 : decode cX7_inkBox 28 = .ok (.istore 5, 2) := by decide +kernel
theorem dX7_inkBox_30 : decode cX7_inkBox 30 = .ok (.iload 5, 2) := by decide +kernel
theorem dX7_inkBox_32 : decode cX7_inkBox 32 = .ok (.istore 6, 2) := by decide +kernel
theorem dX7_inkBox_34 : decode cX7_inkBox 34 = .ok (.iload 6, 2) := by decide +kernel
theorem dX7_inkBox_36 : decode cX7_inkBox 36 = .ok (.iload 5, 2) := by decide +kernel
theorem dX7_inkBox_38 : decode cX7_inkBox 38 = .ok (.aload_n 0, 1) := by decide +kernel
theorem dX7_inkBox_39 : decode cX7_inkBox 39 = .ok (.getfield 32, 3) := by decide +kernel
theorem dX7_inkBox_42 : decode cX7_inkBox 42 = .ok (.getfield 410, 3) := by decide +kernel
theorem dX7_inkBox_45 : decode cX7_inkBox 45 = .ok (.iadd, 1) := by decide +kernel
theorem dX7_inkBox_46 : decode cX7_inkBox 46 = .ok (.if_icmp .ge 75, 3) := by decide +kernel
theorem dX7_inkBox_49 : decode cX7_inkBox 49 = .ok (.iload 4, 2) := by decide +kernel
theorem dX7_inkBox_51 : decode cX7_inkBox 51 = .ok (.istore 7, 2) := by decide +kernel
theorem dX7_inkBox_53 : decode cX7_inkBox 53 = .ok (.iload 7, 2) := by decide +kernel
theorem dX7_inkBox_55 : decode cX7_inkBox 55 = .ok (.iload 4, 2) := by decide +kernel
theorem dX7_inkBox_57 : decode cX7_inkBox 57 = .ok (.aload_n 0, 1) := by decide +kernel
theorem dX7_inkBox_58 : decode cX7_inkBox 58 = .ok (.getfield 32, 3) := by decide +kernel
theorem dX7_inkBox_61 : decode cX7_inkBox 61 = .ok (.getfield 413, 3) := by decide +kernel
theorem dX7_inkBox_64 : decode cX7_inkBox 64 = .ok (.iadd, 1) := by decide +kernel
theorem dX7_inkBox_65 : decode cX7_inkBox 65 = .ok (.if_icmp .ge 50, 3) := by decide +kernel
theorem dX7_inkBox_68 : decode cX7_inkBox 68 = .ok (.aload_n 0, 1) := by decide +kernel
theorem dX7_inkBox_69 : decode cX7_inkBox 69 = .ok (.getfield 18, 3) := by decide +kernel
theorem dX7_inkBox_72 : decode cX7_inkBox 72 = .ok (.aload_n 3, 1) := by decide +kernel
theorem dX7_inkBox_73 : decode cX7_inkBox 73 = .ok (.iconst 2, 1) := by decide +kernel
theorem dX7_inkBox_74 : decode cX7_inkBox 74 = .ok (.iload 7, 2) := by decide +kernel
theorem dX7_inkBox_76 : decode cX7_inkBox 76 = .ok (.imul, 1) := by decide +kernel
theorem dX7_inkBox_77 : decode cX7_inkBox 77 = .ok (.iconst 1, 1) := by decide +kernel
theorem dX7_inkBox_78 : decode cX7_inkBox 78 = .ok (.iadd, 1) := by decide +kernel
theorem dX7_inkBox_79 : decode cX7_inkBox 79 = .ok (.iconst 2, 1) := by decide +kernel
theorem dX7_inkBox_80 : decode cX7_inkBox 80 = .ok (.iload 6, 2) := by decide +kernel
theorem dX7_inkBox_82 : decode cX7_inkBox 82 = .ok (.imul, 1) := by decide +kernel
theorem dX7_inkBox_83 : decode cX7_inkBox 83 = .ok (.iconst 1, 1) := by decide +kernel
theorem dX7_inkBox_84 : decode cX7_inkBox 84 = .ok (.iadd, 1) := by decide +kernel
theorem dX7_inkBox_85 : decode cX7_inkBox 85 = .ok (.invokevirtual 280, 3) := by decide +kernel
theorem dX7_inkBox_88 : decode cX7_inkBox 88 = .ok (.aload_n 3, 1) := by decide +kernel
theorem dX7_inkBox_89 : decode cX7_inkBox 89 = .ok (.iconst 2, 1) := by decide +kernel
theorem dX7_inkBox_90 : decode cX7_inkBox 90 = .ok (.iload 7, 2) := by decide +kernel
theorem dX7_inkBox_92 : decode cX7_inkBox 92 = .ok (.imul, 1) := by decide +kernel
theorem dX7_inkBox_93 : decode cX7_inkBox 93 = .ok (.iconst 1, 1) := by decide +kernel
theorem dX7_inkBox_94 : decode cX7_inkBox 94 = .ok (.iadd, 1) := by decide +kernel
theorem dX7_inkBox_95 : decode cX7_inkBox 95 = .ok (.iconst 2, 1) := by decide +kernel
theorem dX7_inkBox_96 : decode cX7_inkBox 96 = .ok (.iload 6, 2) := by decide +kernel
theorem dX7_inkBox_98 : decode cX7_inkBox 98 = .ok (.imul, 1) := by decide +kernel
theorem dX7_inkBox_99 : decode cX7_inkBox 99 = .ok (.iconst 1, 1) := by decide +kernel
theorem dX7_inkBox_100 : decode cX7_inkBox 100 = .ok (.iadd, 1) := by decide +kernel
theorem dX7_inkBox_101 : decode cX7_inkBox 101 = .ok (.invokevirtual 283, 3) := by decide +kernel
theorem dX7_inkBox_104 : decode cX7_inkBox 104 = .ok (.iload_n 2, 1) := by decide +kernel
theorem dX7_inkBox_105 : decode cX7_inkBox 105 = .ok (.invokevirtual 157, 3) := by decide +kernel
theorem dX7_inkBox_108 : decode cX7_inkBox 108 = .ok (.pop, 1) := by decide +kernel
theorem dX7_inkBox_109 : decode cX7_inkBox 109 = .ok (.iinc 7 1, 3) := by decide +kernel
theorem dX7_inkBox_112 : decode cX7_inkBox 112 = .ok (.goto (-59), 3) := by decide +kernel
theorem dX7_inkBox_115 : decode cX7_inkBox 115 = .ok (.iinc 6 1, 3) := by decide +kernel
theorem dX7_inkBox_118 : decode cX7_inkBox 118 = .ok (.goto (-84), 3) := by decide +kernel
theorem dX7_inkBox_121 : decode cX7_inkBox 121 = .ok (.return_, 1) := by decide +kernel
def mX7_inkBox : MM := (yX7_inkBox, cX7_inkBox, 8, none, { frames := 2, cells := 0, slots := 0, locals := 47 })
def X7_inkBox_L53 (u2_ : Int32) (u4_ : Int32) (u6_ : Int32) (k115 : SS → Option SS) : Nat → Int32 → SS → Option SS :=
  lp (fun _ _ => none) fun rec v7_ σ_ =>
    if (u4_ + (gI σ_ (gR σ_ 1 5) 3)) ≤ v7_ then (
      k115 σ_
      ) else (
      bnd1 (fX5_dotX σ_ (((2 : Int32) * v7_) + (1 : Int32)) (((2 : Int32) * u6_) + (1 : Int32))) fun v4 =>
      bnd1 (fX5_dotY σ_ (((2 : Int32) * v7_) + (1 : Int32)) (((2 : Int32) * u6_) + (1 : Int32))) fun v7 =>
      bnd (fX6_put σ_ (gR σ_ 1 2) v4 v7 u2_) fun b11 σ13 =>
      rec (v7_ + (1 : Int32)) σ13
      )

def X7_inkBox_L34 (u2_ : Int32) (u4_ : Int32) (u5_ : Int32)  : Nat → Int32 → SS → Option SS :=
  lp (fun _ _ => none) fun rec v6_ σ_ =>
    if (u5_ + (gI σ_ (gR σ_ 1 5) 4)) ≤ v6_ then (
      some σ_
      ) else (
      X7_inkBox_L53 u2_ u4_ v6_
      (fun σ14 =>
        rec (v6_ + (1 : Int32)) σ14
        )
      fuel u4_ σ_
      )

def fX7_inkBox (σ : SS) (a1 : Int32) (a2 : Int32) : Option SS :=
  grd (inb a1 72) <|
  vthen (gI σ ((gR σ 1 5) + 6) (Int32.toNatClampNeg a1)) fun v2 =>
  vthen (gI σ ((gR σ 1 5) + 7) (Int32.toNatClampNeg a1)) fun v3 =>
  X7_inkBox_L34 a2 v2 v3
  fuel v3 σ

set_option maxRecDepth 20000 in
theorem sX7_inkBox_L53 {g : GG} {r : SS} {u2_ : Int32} {u4_ : Int32} {x5_ : Int32} {u6_ : Int32} {k115 : SS → Option SS} 
    (hk115 : ∀ (σ_ : SS), k115 σ_ = some r → WT σ_ → RR g mX7_inkBox (FinR g mX7_inkBox none NF r) zF 115 [(0, .ref (ad g 1)), (2, .int u2_), (3, .ref (ad g 45)), (4, .int u4_), (5, .int x5_), (6, .int u6_)] [] σ_)
    (n : Nat) : ∀ (v7_ : Int32) (σ_ : SS), X7_inkBox_L53 u2_ u4_ u6_ k115 n v7_ σ_ = some r → WT σ_ → RR g mX7_inkBox (FinR g mX7_inkBox none NF r) zF 53 [(0, .ref (ad g 1)), (2, .int u2_), (3, .ref (ad g 45)), (4, .int u4_), (5, .int x5_), (6, .int u6_), (7, .int v7_)] [] σ_ := by
  unfold X7_inkBox_L53
  refine lp_ind (P := fun (rec : Int32 → SS → Option SS) => ∀ (v7_ : Int32) (σ_ : SS), rec v7_ σ_ = some r → WT σ_ → RR g mX7_inkBox (FinR g mX7_inkBox none NF r) zF 53 [(0, .ref (ad g 1)), (2, .int u2_), (3, .ref (ad g 45)), (4, .int u4_), (5, .int x5_), (6, .int u6_), (7, .int v7_)] [] σ_) ?_ ?_ n
  · intro v7_ σ_ hr; cases hr
  intro rec ih v7_ σ_ hr hw_
  refine r_iload (pc := 53) (j := 6) dX7_inkBox_53 rfl ?_
  refine r_iload (pc := 55) (j := 3) dX7_inkBox_55 rfl ?_
  refine r_aload_n (pc := 57) (j := 0) dX7_inkBox_57 rfl rfl ?_
  refine gf7_5 (pc := 58) tw_2_114 hw_ dX7_inkBox_58 ?_
  refine gf1_3 (pc := 61) tw_1_73 (wt_fo hw_).1 dX7_inkBox_61 ?_
  refine r_iadd (pc := 64) dX7_inkBox_64 ?_
  refine r_icmp_ge (pc := 65) (tgt := 115) dX7_inkBox_65 rfl (fun hc => ?_) (fun hc => ?_)
  · replace hr := ite_t hc hr
    exact r_pick (ls1 := [(0, .ref (ad g 1)), (2, .int u2_), (3, .ref (ad g 45)), (4, .int u4_), (5, .int x5_), (6, .int u6_)]) [0, 1, 2, 3, 4, 5] rfl (hk115 σ_ hr hw_)
  replace hr := ite_f hc hr
  refine r_aload_n (pc := 68) (j := 0) dX7_inkBox_68 rfl rfl ?_
  refine gf7_2 (pc := 69) tw_2_111 hw_ dX7_inkBox_69 ?_
  refine r_aload_n (pc := 72) (j := 2) dX7_inkBox_72 rfl rfl ?_
  refine r_iconst (pc := 73) (v := (2 : Int32)) dX7_inkBox_73 rfl ?_
  refine r_iload (pc := 74) (j := 6) dX7_inkBox_74 rfl ?_
  refine r_imul (pc := 76) dX7_inkBox_76 ?_
  refine r_iconst (pc := 77) (v := (1 : Int32)) dX7_inkBox_77 rfl ?_
  refine r_iadd (pc := 78) dX7_inkBox_78 ?_
  refine r_iconst (pc := 79) (v := (2 : Int32)) dX7_inkBox_79 rfl ?_
  refine r_iload (pc := 80) (j := 5) dX7_inkBox_80 rfl ?_
  refine r_imul (pc := 82) dX7_inkBox_82 ?_
  refine r_iconst (pc := 83) (v := (1 : Int32)) dX7_inkBox_83 rfl ?_
  refine r_iadd (pc := 84) dX7_inkBox_84 ?_
  obtain ⟨v4, hv4, hr⟩ := bnd1_inv hr
  refine kX5_dotX (pc := 85) hv4 tw_4_83 ⟨nle rfl, nle rfl⟩ (nle rfl) dX7_inkBox_85 ?_
  refine r_aload_n (pc := 88) (j := 2) dX7_inkBox_88 rfl rfl ?_
  refine r_iconst (pc := 89) (v := (2 : Int32)) dX7_inkBox_89 rfl ?_
  refine r_iload (pc := 90) (j := 6) dX7_inkBox_90 rfl ?_
  refine r_imul (pc := 92) dX7_inkBox_92 ?_
  refine r_iconst (pc := 93) (v := (1 : Int32)) dX7_inkBox_93 rfl ?_
  refine r_iadd (pc := 94) dX7_inkBox_94 ?_
  refine r_iconst (pc := 95) (v := (2 : Int32)) dX7_inkBox_95 rfl ?_
  refine r_iload (pc := 96) (j := 5) dX7_inkBox_96 rfl ?_
  refine r_imul (pc := 98) dX7_inkBox_98 ?_
  refine r_iconst (pc := 99) (v := (1 : Int32)) dX7_inkBox_99 rfl ?_
  refine r_iadd (pc := 100) dX7_inkBox_100 ?_
  obtain ⟨v7, hv7, hr⟩ := bnd1_inv hr
  refine kX5_dotY (pc := 101) hv7 tw_4_95 ⟨nle rfl, nle rfl⟩ (nle rfl) dX7_inkBox_101 ?_
  refine r_iload_n (pc := 104) (j := 1) dX7_inkBox_104 rfl rfl ?_
  obtain ⟨b11, σ13, eσ13, hr⟩ := bnd_inv hr
  refine kX6_put (pc := 105) eσ13 (wt_sc hw_).1 tw_3_112 ⟨nle rfl, nle rfl⟩ (nle rfl) dX7_inkBox_105 fun hσ13 => ?_
  refine r_pop (pc := 108) dX7_inkBox_108 rfl ?_
  refine r_iinc (pc := 109) (j := 6) (v := (v7_ + (1 : Int32))) (ls1 := [(7, .int (v7_ + (1 : Int32))), (0, .ref (ad g 1)), (2, .int u2_), (3, .ref (ad g 45)), (4, .int u4_), (5, .int x5_), (6, .int u6_)]) dX7_inkBox_109 rfl rfl (nle rfl) rfl ?_
  refine r_goto (pc := 112) (tgt := 53) dX7_inkBox_112 rfl ?_
  exact r_pick (ls1 := [(0, .ref (ad g 1)), (2, .int u2_), (3, .ref (ad g 45)), (4, .int u4_), (5, .int x5_), (6, .int u6_), (7, .int (v7_ + (1 : Int32)))]) [1, 2, 3, 4, 5, 6, 0] rfl (ih (v7_ + (1 : Int32)) σ13 hr hσ13)

set_option maxRecDepth 20000 in
theorem sX7_inkBox_L34 {g : GG} {r : SS} {u2_ : Int32} {u4_ : Int32} {u5_ : Int32}  
    (n : Nat) : ∀ (v6_ : Int32) (σ_ : SS), X7_inkBox_L34 u2_ u4_ u5_ n v6_ σ_ = some r → WT σ_ → RR g mX7_inkBox (FinR g mX7_inkBox none NF r) zF 34 [(0, .ref (ad g 1)), (2, .int u2_), (3, .ref (ad g 45)), (4, .int u4_), (5, .int u5_), (6, .int v6_)] [] σ_ := by
  unfold X7_inkBox_L34
  refine lp_ind (P := fun (rec : Int32 → SS → Option SS) => ∀ (v6_ : Int32) (σ_ : SS), rec v6_ σ_ = some r → WT σ_ → RR g mX7_inkBox (FinR g mX7_inkBox none NF r) zF 34 [(0, .ref (ad g 1)), (2, .int u2_), (3, .ref (ad g 45)), (4, .int u4_), (5, .int u5_), (6, .int v6_)] [] σ_) ?_ ?_ n
  · intro v6_ σ_ hr; cases hr
  intro rec ih v6_ σ_ hr hw_
  refine r_iload (pc := 34) (j := 5) dX7_inkBox_34 rfl ?_
  refine r_iload (pc := 36) (j := 4) dX7_inkBox_36 rfl ?_
  refine r_aload_n (pc := 38) (j := 0) dX7_inkBox_38 rfl rfl ?_
  refine gf7_5 (pc := 39) tw_2_114 hw_ dX7_inkBox_39 ?_
  refine gf1_4 (pc := 42) tw_1_77 (wt_fo hw_).1 dX7_inkBox_42 ?_
  refine r_iadd (pc := 45) dX7_inkBox_45 ?_
  refine r_icmp_ge (pc := 46) (tgt := 121) dX7_inkBox_46 rfl (fun hc => ?_) (fun hc => ?_)
  · replace hr := ite_t hc hr
    exact l_ov hr (r_vret (pc := 121) rfl rfl ⟨Nat.le_refl _, Nat.le_refl _⟩ dX7_inkBox_121)
  replace hr := ite_f hc hr
  refine r_iload (pc := 49) (j := 3) dX7_inkBox_49 rfl ?_
  refine r_istore (pc := 51) (ls1 := [(7, .int u4_), (0, .ref (ad g 1)), (2, .int u2_), (3, .ref (ad g 45)), (4, .int u4_), (5, .int u5_), (6, .int v6_)]) dX7_inkBox_51 (nle rfl) rfl ?_
  refine r_pick (ls1 := [(0, .ref (ad g 1)), (2, .int u2_), (3, .ref (ad g 45)), (4, .int u4_), (5, .int u5_), (6, .int v6_), (7, .int u4_)]) [1, 2, 3, 4, 5, 6, 0] rfl ?_
  refine sX7_inkBox_L53    (fun σ14 hr hσ14 => ?_) fuel u4_ σ_ hr hw_
  refine r_iinc (pc := 115) (j := 5) (v := (v6_ + (1 : Int32))) (ls1 := [(6, .int (v6_ + (1 : Int32))), (0, .ref (ad g 1)), (2, .int u2_), (3, .ref (ad g 45)), (4, .int u4_), (5, .int u5_)]) dX7_inkBox_115 rfl rfl (nle rfl) rfl ?_
  refine r_goto (pc := 118) (tgt := 34) dX7_inkBox_118 rfl ?_
  exact r_pick (ls1 := [(0, .ref (ad g 1)), (2, .int u2_), (3, .ref (ad g 45)), (4, .int u4_), (5, .int u5_), (6, .int (v6_ + (1 : Int32)))]) [1, 2, 3, 4, 5, 0] rfl (ih (v6_ + (1 : Int32)) σ14 hr hσ14)

set_option maxRecDepth 20000 in
theorem sX7_inkBox {g : GG} {σ : SS} {a1 : Int32} {a2 : Int32} {r : SS} (hr : fX7_inkBox σ a1 a2 = some r)  : Ct g mX7_inkBox [.ref (ad g 1), .int a1, .int a2] NF σ none NF r := by
  refine Ct.of (by decide +kernel) (nle rfl) fun hw0 => ?_
  have hw := hw0 rfl
  unfold fX7_inkBox at hr
  change RR g mX7_inkBox (FinR g mX7_inkBox none NF r) zF 0 [(0, .ref (ad g 1)), (1, .int a1), (2, .int a2)] [] σ
  refine r_aload_n (pc := 0) (j := 0) dX7_inkBox_0 rfl rfl ?_
  refine gf7_12 (pc := 1) tw_2_121 hw dX7_inkBox_1 ?_
  refine gf3_3 (pc := 4) tw_2_29 hw dX7_inkBox_4 ?_
  refine r_astore_n (pc := 7) (ls1 := [(3, .ref (ad g 45)), (0, .ref (ad g 1)), (1, .int a1), (2, .int a2)]) dX7_inkBox_7 rfl (nle rfl) rfl ?_
  refine r_aload_n (pc := 8) (j := 1) dX7_inkBox_8 rfl rfl ?_
  refine gf7_5 (pc := 9) tw_2_114 hw dX7_inkBox_9 ?_
  refine gf1_12 (pc := 12) tw_1_106 hw (wt_fo hw).1 dX7_inkBox_12 ?_
  refine r_iload_n (pc := 15) (j := 2) dX7_inkBox_15 rfl rfl ?_
  obtain ⟨h1, hr⟩ := grd_inv hr
  refine x_iald (pc := 16) (k := (Int32.toNatClampNeg a1)) (sh1_12 (wt_fo hw).1) h1 rfl dX7_inkBox_16 ?_
  refine r_topi fun v2 ev2 => ?_
  replace hr := vthen_inv hr v2 ev2
  refine r_istore (pc := 17) (ls1 := [(4, .int v2), (3, .ref (ad g 45)), (0, .ref (ad g 1)), (1, .int a1), (2, .int a2)]) dX7_inkBox_17 (nle rfl) rfl ?_
  refine r_aload_n (pc := 19) (j := 2) dX7_inkBox_19 rfl rfl ?_
  refine gf7_5 (pc := 20) tw_2_114 hw dX7_inkBox_20 ?_
  refine gf1_13 (pc := 23) tw_1_109 hw (wt_fo hw).1 dX7_inkBox_23 ?_
  refine r_iload_n (pc := 26) (j := 3) dX7_inkBox_26 rfl rfl ?_
  refine x_iald (pc := 27) (k := (Int32.toNatClampNeg a1)) (sh1_13 (wt_fo hw).1) h1 rfl dX7_inkBox_27 ?_
  refine r_topi fun v3 ev3 => ?_
  replace hr := vthen_inv hr v3 ev3
  refine r_istore (pc := 28) (ls1 := [(5, .int v3), (4, .int v2), (3, .ref (ad g 45)), (0, .ref (ad g 1)), (1, .int a1), (2, .int a2)]) dX7_inkBox_28 (nle rfl) rfl ?_
  refine r_iload (pc := 30) (j := 0) dX7_inkBox_30 rfl ?_
  refine r_istore (pc := 32) (ls1 := [(6, .int v3), (5, .int v3), (4, .int v2), (3, .ref (ad g 45)), (0, .ref (ad g 1)), (1, .int a1), (2, .int a2)]) dX7_inkBox_32 (nle rfl) rfl ?_
  refine r_pick (ls1 := [(0, .ref (ad g 1)), (2, .int a2), (3, .ref (ad g 45)), (4, .int v2), (5, .int v3), (6, .int v3)]) [4, 6, 3, 2, 1, 0] rfl ?_
  refine sX7_inkBox_L34     fuel v3 σ hr hw

theorem kX7_inkBox {g : GG} {σ : SS} {a1 : Int32} {a2 : Int32} {σ2 : SS} {M : MM} {F : State → Array Value → List Frame → State → Prop} {pc index : Nat} {ls : List (Nat × Value)} {rest : List Value} (hf : fX7_inkBox σ a1 a2 = some σ2)  (hl : Cond.methodLink M.1.cls index yX7_inkBox ∈ lw_gt) (hR : mX7_inkBox.2.2.2.2.frames + 1 ≤ M.2.2.2.2.frames ∧ 8 + (mX7_inkBox.2.2.1 + 11) + mX7_inkBox.2.2.2.2.locals ≤ M.2.2.2.2.locals) (hrest : (rest.map fun v => v.category).sum ≤ 8) (hd : decode M.2.1 pc = .ok (.invokevirtual index, 3)) (k : WT σ2 → RR g M F zF (pc + 3) ls rest σ2) : RR g M F zF pc ls (.int a2 :: .int a1 :: .ref (ad g 1) :: rest) σ :=
  r_callV (z := zF) (N := mX7_inkBox) (nn := 2) (o1 := none) (sX7_inkBox hf ) (rfl : shp 1 = (7, 0)) (by decide) (shp_le (rfl : shp 1 = (7, 0)) (nle rfl)) (ci := 7) rfl rfl tw_4_235 tw_1_1 hl tw_4_234 tp_32 ⟨by decide, by decide, rfl⟩ hR rfl hrest hd ⟨Nat.zero_le _, Nat.zero_le _⟩ rfl (fun h => k (h rfl))

theorem dX7_print_0 : decode cX7_print 0 = .ok (.aload_n 0, 1) := by decide +kernel
theorem dX7_print_1 : decode cX7_print 1 = .ok (.getfield 32, 3) := by decide +kernel
theorem dX7_print_4 : decode cX7_print 4 = .ok (.getfield 274, 3) := by decide +kernel
theorem dX7_print_7 : decode cX7_print 7 = .ok (.ifCond .eq 14, 3) := by decide +kernel
theorem dX7_print_10 : decode cX7_print 10 = .ok (.iload_n 1, 1) := by decide +kernel
theorem dX7_print_11 : decode cX7_print 11 = .ok (.iconst 1, 1) := by decide +kernel
theorem dX7_print_12 : decode cX7_print 12 = .ok (.if_icmp .lt 9, 3) := by decide +kernel
theorem dX7_print_15 : decode cX7_print 15 = .ok (.iload_n 1, 1) := by decide +kernel
theorem dX7_print_16 : decode cX7_print 16 = .ok (.bipush 9, 2) := by decide +kernel
theorem dX7_print_18 : decode cX7_print 18 = .ok (.if_icmp .le 5, 3) := by decide +kernel
theorem dX7_print_21 : decode cX7_print 21 = .ok (.iconst (-1), 1) := by decide +kernel
theorem dX7_print_22 : decode cX7_print 22 = .ok (.ireturn, 1) := by decide +kernel
theorem dX7_print_23 : decode cX7_print 23 = .ok (.iconst 0, 1) := by decide +kernel
theorem dX7_print_24 : decode cX7_print 24 = .ok (.istore_n 2, 1) := by decide +kernel
theorem dX7_print_25 : decode cX7_print 25 = .ok (.iload_n 2, 1) := by decide +kernel
theorem dX7_print_26 : decode cX7_print 26 = .ok (.iconst 4, 1) := by decide +kernel
theorem dX7_print_27 : decode cX7_print 27 = .ok (.if_icmp .ge 34, 3) := by decide +kernel
theorem dX7_print_30 : decode cX7_print 30 = .ok (.aload_n 0, 1) := by decide +kernel
theorem dX7_print_31 : decode cX7_print 31 = .ok (.getfield 18, 3) := by decide +kernel
theorem dX7_print_34 : decode cX7_print 34 = .ok (.aload_n 0, 1) := by decide +kernel
theorem dX7_print_35 : decode cX7_print 35 = .ok (.getfield 50, 3) := by decide +kernel
theorem dX7_print_38 : decode cX7_print 38 = .ok (.iload_n 2, 1) := by decide +kernel
theorem dX7_print_39 : decode cX7_print 39 = .ok (.iaload, 1) := by decide +kernel
theorem dX7_print_40 : decode cX7_print 40 = .ok (.aload_n 0, 1) := by decide +kernel
theorem dX7_print_41 : decode cX7_print 41 = .ok (.getfield 53, 3) := by decide +kernel
theorem dX7_print_44 : decode cX7_print 44 = .ok (.iload_n 2, 1) := by decide +kernel
theorem dX7_print_45 : decode cX7_print 45 = .ok (.iaload, 1) := by decide +kernel
theorem dX7_print_46 : decode cX7_print 46 = .ok (.invokevirtual 347, 3) := by decide +kernel
theorem dX7_print_49 : decode cX7_print 49 = .ok (.ifCond .ne 6, 3) := by decide +kernel
theorem dX7_print_52 : decode cX7_print 52 = .ok (.bipush (-2), 2) := by decide +kernel
theorem dX7_print_54 : decode cX7_print 54 = .ok (.ireturn, 1) := by decide +kernel
theorem dX7_print_55 : decode cX7_print 55 = .ok (.iinc 2 1, 3) := by decide +kernel
theorem dX7_print_58 : decode cX7_print 58 = .ok (.goto (-33), 3) := by decide +kernel
theorem dX7_print_61 : decode cX7_print 61 = .ok (.aload_n 0, 1) := by decide +kernel
theorem dX7_print_62 : decode cX7_print 62 = .ok (.getfield 18, 3) := by decide +kernel
theorem dX7_print_65 : decode cX7_print 65 = .ok (.aload_n 0, 1) := by decide +kernel
theorem dX7_print_66 : decode cX7_print 66 = .ok (.getfield 18, 3) := by decide +kernel
theorem dX7_print_69 : decode cX7_print 69 = .ok (.getfield 100, 3) := by decide +kernel
theorem dX7_print_72 : decode cX7_print 72 = .ok (.aload_n 0, 1) := by decide +kernel
theorem dX7_print_73 : decode cX7_print 73 = .ok (.getfield 18, 3) := by decide +kernel
theorem dX7_print_76 : decode cX7_print 76 = .ok (.getfield 103, 3) := by decide +kernel
theorem dX7_print_79 : decode cX7_print 79 = .ok (.invokevirtual 73, 3) := by decide +kernel
theorem dX7_print_82 : decode cX7_print 82 = .ok (.aload_n 0, 1) := by decide +kernel
theorem dX7_print_83 : decode cX7_print 83 = .ok (.getfield 62, 3) := by decide +kernel
theorem dX7_print_86 : decode cX7_print 86 = .ok (.getfield 259, 3) := by decide +kernel
theorem dX7_print_89 : decode cX7_print 89 = .ok (.astore_n 2, 1) := by decide +kernel
theorem dX7_print_90 : decode cX7_print 90 = .ok (.iconst 0, 1) := by decide +kernel
theorem dX7_print_91 : decode cX7_print 91 = .ok (.istore_n 3, 1) := by decide +kernel
theorem dX7_print_92 : decode cX7_print 92 = .ok (.iload_n 3, 1) := by decide +kernel
theorem dX7_print_93 : decode cX7_print 93 = .ok (.iconst 4, 1) := by decide +kernel
theorem dX7_print_94 : decode cX7_print 94 = .ok (.if_icmp .ge 50, 3) := by decide +kernel
theorem dX7_print_97 : decode cX7_print 97 = .ok (.aload_n 0, 1) := by decide +kernel
theorem dX7_print_98 : decode cX7_print 98 = .ok (.getfield 18, 3) := by decide +kernel
theorem dX7_print_101 : decode cX7_print 101 = .ok (.aload_n 0, 1) := by decide +kernel
theorem dX7_print_102 : decode cX7_print 102 = .ok (.getfield 50, 3) := by decide +kernel
theorem dX7_print_105 : decode cX7_print 105 = .ok (.iload_n 3, 1) := by decide +kernel
theorem dX7_print_106 : decode cX7_print 106 = .ok (.iaload, 1) := by decide +kernel
theorem dX7_print_107 : decode cX7_print 107 = .ok (.aload_n 0, 1) := by decide +kernel
theorem dX7_print_108 : decode cX7_print 108 = .ok (.getfield 53, 3) := by decide +kernel
theorem dX7_print_111 : decode cX7_print 111 = .ok (.iload_n 3, 1) := by decide +kernel
theorem dX7_print_112 : decode cX7_print 112 = .ok (.iaload, 1) := by decide +kernel
theorem dX7_print_113 : decode cX7_print 113 = .ok (.bipush 9, 2) := by decide +kernel
theorem dX7_print_115 : decode cX7_print 115 = .ok (.invokevirtual 350, 3) := by decide +kernel
theorem dX7_print_118 : decode cX7_print 118 = .ok (.aload_n 2, 1) := by decide +kernel
theorem dX7_print_119 : decode cX7_print 119 = .ok (.iload_n 3, 1) := by decide +kernel
theorem dX7_print_120 : decode cX7_print 120 = .ok (.aload_n 0, 1) := by decide +kernel
theorem dX7_print_121 : decode cX7_print 121 = .ok (.getfield 50, 3) := by decide +kernel
theorem dX7_print_124 : decode cX7_print 124 = .ok (.iload_n 3, 1) := by decide +kernel
theorem dX7_print_125 : decode cX7_print 125 = .ok (.iaload, 1) := by decide +kernel
theorem dX7_print_126 : decode cX7_print 126 = .ok (.i2l, 1) := by decide +kernel
theorem dX7_print_127 : decode cX7_print 127 = .ok (.aload_n 0, 1) := by decide +kernel
theorem dX7_print_128 : decode cX7_print 128 = .ok (.getfield 53, 3) := by decide +kernel
theorem dX7_print_131 : decode cX7_print 131 = .ok (.iload_n 3, 1) := by decide +kernel
theorem dX7_print_132 : decode cX7_print 132 = .ok (.iaload, 1) := by decide +kernel
theorem dX7_print_133 : decode cX7_print 133 = .ok (.i2l, 1) := by decide +kernel
theorem dX7_print_134 : decode cX7_print 134 = .ok (.lconst 1, 1) := by decide +kernel
theorem dX7_print_135 : decode cX7_print 135 = .ok (.invokevirtual 354, 3) := by decide +kernel
theorem dX7_print_138 : decode cX7_print 138 = .ok (.iinc 3 1, 3) := by decide +kernel
theorem dX7_print_141 : decode cX7_print 141 = .ok (.goto (-49), 3) := by decide +kernel
theorem dX7_print_144 : decode cX7_print 144 = .ok (.aload_n 2, 1) := by decide +kernel
theorem dX7_print_145 : decode cX7_print 145 = .ok (.aload_n 0, 1) := by decide +kernel
theorem dX7_print_146 : decode cX7_print 146 = .ok (.getfield 32, 3) := by decide +kernel
theorem dX7_print_149 : decode cX7_print 149 = .ok (.getfield 109, 3) := by decide +kernel
theorem dX7_print_152 : decode cX7_print 152 = .ok (.aload_n 0, 1) := by decide +kernel
theorem dX7_print_153 : decode cX7_print 153 = .ok (.getfield 32, 3) := by decide +kernel
theorem dX7_print_156 : decode cX7_print 156 = .ok (.getfield 110, 3) := by decide +kernel
theorem dX7_print_159 : decode cX7_print 159 = .ok (.invokevirtual 277, 3) := by decide +kernel
theorem dX7_print_162 : decode cX7_print 162 = .ok (.iconst 0, 1) := by decide +kernel
theorem dX7_print_163 : decode cX7_print 163 = .ok (.istore_n 3, 1) := by decide +kernel
theorem dX7_print_164 : decode cX7_print 164 = .ok (.iload_n 3, 1) := by decide +kernel
theorem dX7_print_165 : decode cX7_print 165 = .ok (.aload_n 0, 1) := by decide +kernel
theorem dX7_print_166 : decode cX7_print 166 = .ok (.getfield 32, 3) := by decide +kernel
theorem dX7_print_169 : decode cX7_print 169 = .ok (.getfield 97, 3) := by decide +kernel
theorem dX7_print_172 : decode cX7_print 172 = .ok (.if_icmp .ge 64, 3) := by decide +kernel
theorem dX7_print_175 : decode cX7_print 175 = .ok (.iconst 0, 1) := by decide +kernel
theorem dX7_print_176 : decode cX7_print 176 = .ok (.istore 4, 2) := by decide +kernel
theorem dX7_print_178 : decode cX7_print 178 = .ok (.iload 4, 2) := by decide +kernel
theorem dX7_print_180 : decode cX7_print 180 = .ok (.aload_n 0, 1) := by decide +kernel
theorem dX7_print_181 : decode cX7_print 181 = .ok (.getfield 32, 3) := by decide +kernel
theorem dX7_print_184 : decode cX7_print 184 = .ok (.getfield 129, 3) := by decide +kernel
theorem dX7_print_187 : decode cX7_print 187 = .ok (.iload_n 3, 1) := by decide +kernel
theorem dX7_print_188 : decode cX7_print 188 = .ok (.iaload, 1) := by decide +kernel
theorem dX7_print_189 : decode cX7_print 189 = .ok (.if_icmp .ge 41, 3) := by decide +kernel
theorem dX7_print_192 : decode cX7_print 192 = .ok (.aload_n 0, 1) := by decide +kernel
theorem dX7_print_193 : decode cX7_print 193 = .ok (.getfield 56, 3) := by decide +kernel
theorem dX7_print_196 : decode cX7_print 196 = .ok (.iload_n 3, 1) := by decide +kernel
theorem dX7_print_197 : decode cX7_print 197 = .ok (.iaload, 1) := by decide +kernel
theorem dX7_print_198 : decode cX7_print 198 = .ok (.iload 4, 2) := by decide +kernel
theorem dX7_print_200 : decode cX7_print 200 = .ok (.ishr, 1) := by decide +kernel
theorem dX7_print_201 : decode cX7_print 201 = .ok (.iconst 1, 1) := by decide +kernel
theorem dX7_print_202 : decode cX7_print 202 = .ok (.iand, 1) := by decide +kernel
theorem dX7_print_203 : decode cX7_print 203 = .ok (.iconst 1, 1) := by decide +kernel
theorem dX7_print_204 : decode cX7_print 204 = .ok (.if_icmp .ne 20, 3) := by decide +kernel
theorem dX7_print_207 : decode cX7_print 207 = .ok (.aload_n 0, 1) := by decide +kernel
theorem dX7_print_208 : decode cX7_print 208 = .ok (.aload_n 0, 1) := by decide +kernel
theorem dX7_print_209 : decode cX7_print 209 = .ok (.getfield 32, 3) := by decide +kernel
theorem dX7_print_212 : decode cX7_print 212 = .ok (.getfield 145, 3) := by decide +kernel
theorem dX7_print_215 : decode cX7_print 215 = .ok (.iload_n 3, 1) := by decide +kernel
theorem dX7_print_216 : decode cX7_print 216 = .ok (.iaload, 1) := by decide +kernel
theorem dX7_print_217 : decode cX7_print 217 = .ok (.iload 4, 2) := by decide +kernel
theorem dX7_print_219 : decode cX7_print 219 = .ok (.iadd, 1) := by decide +kernel
theorem dX7_print_220 : decode cX7_print 220 = .ok (.iload_n 1, 1) := by decide +kernel
theorem dX7_print_221 : decode cX7_print 221 = .ok (.invokevirtual 357, 3) := by decide +kernel
theorem dX7_print_224 : decode cX7_print 224 = .ok (.iinc 4 1, 3) := by decide +kernel
theorem dX7_print_227 : decode cX7_print 227 = .ok (.goto (-49), 3) := by decide +kernel
theorem dX7_print_230 : decode cX7_print 230 = .ok (.iinc 3 1, 3) := by decide +kernel
theorem dX7_print_233 : decode cX7_print 233 = .ok (.goto (-69), 3) := by decide +kernel
theorem dX7_print_236 : decode cX7_print 236 = .ok (.aload_n 0, 1) := by decide +kernel
theorem dX7_print_237 : decode cX7_print 237 = .ok (.getfield 18, 3) := by decide +kernel
theorem dX7_print_240 : decode cX7_print 240 = .ok (.iconst 1, 1) := by decide +kernel
theorem dX7_print_241 : decode cX7_print 241 = .ok (.invokevirtual 114, 3) := by decide +kernel
theorem dX7_print_244 : decode cX7_print 244 = .ok (.ireturn, 1) := by decide +kernel
def mX7_print : MM := (yX7_print, cX7_print, 5, Option.some Jvm.ClassFile.FieldType.int, { frames := 3, cells := 0, slots := 0, locals := 74 })
def X7_print_L25 (σ_ : SS)  (k61 : Unit → Option (Int32 × SS)) : Nat → Int32 → Option (Int32 × SS) :=
  lp (fun _ => none) fun rec v2_ =>
    if (4 : Int32) ≤ v2_ then (
      k61 ()
      ) else (
      grd (inb v2_ 4) <|
      if (fX6_holdsRound σ_ (gR σ_ 1 2) (gI σ_ 28 (Int32.toNatClampNeg v2_)) (gI σ_ 29 (Int32.toNatClampNeg v2_))) = true then (
        rec (v2_ + (1 : Int32))
        ) else (
        some ((-2 : Int32), σ_)
        )
      )

def X7_print_L92  (k144 : SS → Option (Int32 × SS)) : Nat → Int32 → SS → Option (Int32 × SS) :=
  lp (fun _ _ => none) fun rec v3_ σ_ =>
    if (4 : Int32) ≤ v3_ then (
      k144 σ_
      ) else (
      grd (inb v3_ 4) <|
      bnd1 (fX6_putRound σ_ (gR σ_ 1 2) (gI σ_ 28 (Int32.toNatClampNeg v3_)) (gI σ_ 29 (Int32.toNatClampNeg v3_)) (9 : Int32)) fun σ4 =>
      bnd1 (fX5_put σ4 v3_ (Int32.toInt64 (gI σ4 28 (Int32.toNatClampNeg v3_))) (Int32.toInt64 (gI σ4 29 (Int32.toNatClampNeg v3_))) (1 : Int64)) fun σ5 =>
      rec (v3_ + (1 : Int32)) σ5
      )

def X7_print_L178 (u1_ : Int32) (u3_ : Int32) (k230 : SS → Option (Int32 × SS)) : Nat → Int32 → SS → Option (Int32 × SS) :=
  lp (fun _ _ => none) fun rec v4_ σ_ =>
    grd (inb u3_ 12) <|
    if (gI σ_ ((gR σ_ 1 5) + 3) (Int32.toNatClampNeg u3_)) ≤ v4_ then (
      k230 σ_
      ) else (
      if (((gI σ_ 30 (Int32.toNatClampNeg u3_)) >>> (v4_ &&& 31)) &&& (1 : Int32)) = (1 : Int32) then (
        bnd1 (fX7_inkBox σ_ ((gI σ_ ((gR σ_ 1 5) + 2) (Int32.toNatClampNeg u3_)) + v4_) u1_) fun σ12 =>
        rec (v4_ + (1 : Int32)) σ12
        ) else (
        rec (v4_ + (1 : Int32)) σ_
        )
      )

def X7_print_L164 (u1_ : Int32)  : Nat → Int32 → SS → Option (Int32 × SS) :=
  lp (fun _ _ => none) fun rec v3_ σ_ =>
    if (gI σ_ (gR σ_ 1 5) 5) ≤ v3_ then (
      bnd1 (fX6_notBelow σ_ (gR σ_ 1 2) (1 : Int32)) fun v8 =>
      some (v8, σ_)
      ) else (
      X7_print_L178 u1_ v3_
      (fun σ13 =>
        rec (v3_ + (1 : Int32)) σ13
        )
      fuel (0 : Int32) σ_
      )

def fX7_print (σ : SS) (a1 : Int32) : Option (Int32 × SS) :=
  if (gI σ (gR σ 1 5) 0) = 0 then (
    some ((-1 : Int32), σ)
    ) else (
    if a1 < (1 : Int32) then (
      some ((-1 : Int32), σ)
      ) else (
      if a1 ≤ (9 : Int32) then (
        X7_print_L25 σ
        (fun _ =>
          bnd1 (fX6_empty σ (gR σ 1 2) (gI σ (gR σ 1 2) 0) (gI σ (gR σ 1 2) 1)) fun σ2 =>
          X7_print_L92
          (fun σ6 =>
            bnd1 (fX5_spread σ6 (gI σ6 (gR σ6 1 5) 1) (gI σ6 (gR σ6 1 5) 2)) fun σ7 =>
            X7_print_L164 a1
            fuel (0 : Int32) σ7
            )
          fuel (0 : Int32) σ2
          )
        fuel (0 : Int32)
        ) else (
        some ((-1 : Int32), σ)
        )
      )
    )

set_option maxRecDepth 20000 in
theorem sX7_print_L25 {g : GG} {r : Int32 × SS} {σ_ : SS} {x1_ : Int32} {k61 : Unit → Option (Int32 × SS)} 
    (hw_ : WT σ_)
    (hk61 : k61 () = some r → RR g mX7_print (FinR g mX7_print (some (.int r.1)) NF r.2) zF 61 [(0, .ref (ad g 1)), (1, .int x1_)] [] σ_)
    (n : Nat) : ∀ (v2_ : Int32), X7_print_L25 σ_ k61 n v2_ = some r → RR g mX7_print (FinR g mX7_print (some (.int r.1)) NF r.2) zF 25 [(0, .ref (ad g 1)), (1, .int x1_), (2, .int v2_)] [] σ_ := by
  unfold X7_print_L25
  refine lp_ind (P := fun (rec : Int32 → Option (Int32 × SS)) => ∀ (v2_ : Int32), rec v2_ = some r → RR g mX7_print (FinR g mX7_print (some (.int r.1)) NF r.2) zF 25 [(0, .ref (ad g 1)), (1, .int x1_), (2, .int v2_)] [] σ_) ?_ ?_ n
  · intro v2_ hr; cases hr
  intro rec ih v2_ hr
  refine r_iload_n (pc := 25) (j := 2) dX7_print_25 rfl rfl ?_
  refine r_iconst (pc := 26) (v := (4 : Int32)) dX7_print_26 rfl ?_
  refine r_icmp_ge (pc := 27) (tgt := 61) dX7_print_27 rfl (fun hc => ?_) (fun hc => ?_)
  · replace hr := ite_t hc hr
    exact r_pick (ls1 := [(0, .ref (ad g 1)), (1, .int x1_)]) [0, 1] rfl (hk61  hr)
  replace hr := ite_f hc hr
  refine r_aload_n (pc := 30) (j := 0) dX7_print_30 rfl rfl ?_
  refine gf7_2 (pc := 31) tw_2_111 hw_ dX7_print_31 ?_
  refine r_aload_n (pc := 34) (j := 0) dX7_print_34 rfl rfl ?_
  refine gf7_9 (pc := 35) tw_2_118 hw_ dX7_print_35 ?_
  refine r_iload_n (pc := 38) (j := 2) dX7_print_38 rfl rfl ?_
  obtain ⟨h1, hr⟩ := grd_inv hr
  refine x_iald (pc := 39) (k := (Int32.toNatClampNeg v2_)) rfl h1 rfl dX7_print_39 ?_
  refine r_aload_n (pc := 40) (j := 0) dX7_print_40 rfl rfl ?_
  refine gf7_10 (pc := 41) tw_2_119 hw_ dX7_print_41 ?_
  refine r_iload_n (pc := 44) (j := 2) dX7_print_44 rfl rfl ?_
  refine x_iald (pc := 45) (k := (Int32.toNatClampNeg v2_)) rfl h1 rfl dX7_print_45 ?_
  refine kX6_holdsRound (pc := 46) (hf := rfl) (wt_sc hw_).1 tw_4_223 ⟨nle rfl, nle rfl⟩ (nle rfl) dX7_print_46 ?_
  refine r_ifB_ne (pc := 49) (tgt := 55) dX7_print_49 rfl (fun hc => ?_) (fun hc => ?_)
  · replace hr := ite_t hc hr
    refine r_iinc (pc := 55) (j := 2) (v := (v2_ + (1 : Int32))) (ls1 := [(2, .int (v2_ + (1 : Int32))), (0, .ref (ad g 1)), (1, .int x1_)]) dX7_print_55 rfl rfl (nle rfl) rfl ?_
    refine r_goto (pc := 58) (tgt := 25) dX7_print_58 rfl ?_
    exact r_pick (ls1 := [(0, .ref (ad g 1)), (1, .int x1_), (2, .int (v2_ + (1 : Int32)))]) [1, 2, 0] rfl (ih (v2_ + (1 : Int32)) hr)
  replace hr := ite_f hc hr
  refine r_bipush (pc := 52) (v := (-2 : Int32)) dX7_print_52 rfl ?_
  exact l_osi hr (r_iret (pc := 54) (v := (-2 : Int32)) rfl rfl ⟨Nat.le_refl _, Nat.le_refl _⟩ dX7_print_54)

set_option maxRecDepth 20000 in
theorem sX7_print_L92 {g : GG} {r : Int32 × SS} {x1_ : Int32} {k144 : SS → Option (Int32 × SS)} 
    (hk144 : ∀ (σ_ : SS), k144 σ_ = some r → WT σ_ → RR g mX7_print (FinR g mX7_print (some (.int r.1)) NF r.2) zF 144 [(0, .ref (ad g 1)), (1, .int x1_), (2, .ref (ad g 45))] [] σ_)
    (n : Nat) : ∀ (v3_ : Int32) (σ_ : SS), X7_print_L92 k144 n v3_ σ_ = some r → WT σ_ → RR g mX7_print (FinR g mX7_print (some (.int r.1)) NF r.2) zF 92 [(0, .ref (ad g 1)), (1, .int x1_), (2, .ref (ad g 45)), (3, .int v3_)] [] σ_ := by
  unfold X7_print_L92
  refine lp_ind (P := fun (rec : Int32 → SS → Option (Int32 × SS)) => ∀ (v3_ : Int32) (σ_ : SS), rec v3_ σ_ = some r → WT σ_ → RR g mX7_print (FinR g mX7_print (some (.int r.1)) NF r.2) zF 92 [(0, .ref (ad g 1)), (1, .int x1_), (2, .ref (ad g 45)), (3, .int v3_)] [] σ_) ?_ ?_ n
  · intro v3_ σ_ hr; cases hr
  intro rec ih v3_ σ_ hr hw_
  refine r_iload_n (pc := 92) (j := 3) dX7_print_92 rfl rfl ?_
  refine r_iconst (pc := 93) (v := (4 : Int32)) dX7_print_93 rfl ?_
  refine r_icmp_ge (pc := 94) (tgt := 144) dX7_print_94 rfl (fun hc => ?_) (fun hc => ?_)
  · replace hr := ite_t hc hr
    exact r_pick (ls1 := [(0, .ref (ad g 1)), (1, .int x1_), (2, .ref (ad g 45))]) [0, 1, 2] rfl (hk144 σ_ hr hw_)
  replace hr := ite_f hc hr
  refine r_aload_n (pc := 97) (j := 0) dX7_print_97 rfl rfl ?_
  refine gf7_2 (pc := 98) tw_2_111 hw_ dX7_print_98 ?_
  refine r_aload_n (pc := 101) (j := 0) dX7_print_101 rfl rfl ?_
  refine gf7_9 (pc := 102) tw_2_118 hw_ dX7_print_102 ?_
  refine r_iload_n (pc := 105) (j := 3) dX7_print_105 rfl rfl ?_
  obtain ⟨h3, hr⟩ := grd_inv hr
  refine x_iald (pc := 106) (k := (Int32.toNatClampNeg v3_)) rfl h3 rfl dX7_print_106 ?_
  refine r_aload_n (pc := 107) (j := 0) dX7_print_107 rfl rfl ?_
  refine gf7_10 (pc := 108) tw_2_119 hw_ dX7_print_108 ?_
  refine r_iload_n (pc := 111) (j := 3) dX7_print_111 rfl rfl ?_
  refine x_iald (pc := 112) (k := (Int32.toNatClampNeg v3_)) rfl h3 rfl dX7_print_112 ?_
  refine r_bipush (pc := 113) (v := (9 : Int32)) dX7_print_113 rfl ?_
  obtain ⟨σ4, eσ4, hr⟩ := bnd1_inv hr
  refine kX6_putRound (pc := 115) eσ4 (wt_sc hw_).1 tw_4_227 ⟨nle rfl, nle rfl⟩ (nle rfl) dX7_print_115 fun hσ4 => ?_
  refine r_aload_n (pc := 118) (j := 2) dX7_print_118 rfl rfl ?_
  refine r_iload_n (pc := 119) (j := 3) dX7_print_119 rfl rfl ?_
  refine r_aload_n (pc := 120) (j := 0) dX7_print_120 rfl rfl ?_
  refine gf7_9 (pc := 121) tw_2_118 hσ4 dX7_print_121 ?_
  refine r_iload_n (pc := 124) (j := 3) dX7_print_124 rfl rfl ?_
  refine x_iald (pc := 125) (k := (Int32.toNatClampNeg v3_)) rfl h3 rfl dX7_print_125 ?_
  refine r_i2l (pc := 126) dX7_print_126 ?_
  refine r_aload_n (pc := 127) (j := 0) dX7_print_127 rfl rfl ?_
  refine gf7_10 (pc := 128) tw_2_119 hσ4 dX7_print_128 ?_
  refine r_iload_n (pc := 131) (j := 3) dX7_print_131 rfl rfl ?_
  refine x_iald (pc := 132) (k := (Int32.toNatClampNeg v3_)) rfl h3 rfl dX7_print_132 ?_
  refine r_i2l (pc := 133) dX7_print_133 ?_
  refine r_lconst (pc := 134) (v := (1 : Int64)) dX7_print_134 rfl ?_
  obtain ⟨σ5, eσ5, hr⟩ := bnd1_inv hr
  refine kX5_put (pc := 135) eσ5 tw_4_231 ⟨nle rfl, nle rfl⟩ (nle rfl) dX7_print_135 fun hσ5 => ?_
  refine r_iinc (pc := 138) (j := 3) (v := (v3_ + (1 : Int32))) (ls1 := [(3, .int (v3_ + (1 : Int32))), (0, .ref (ad g 1)), (1, .int x1_), (2, .ref (ad g 45))]) dX7_print_138 rfl rfl (nle rfl) rfl ?_
  refine r_goto (pc := 141) (tgt := 92) dX7_print_141 rfl ?_
  exact r_pick (ls1 := [(0, .ref (ad g 1)), (1, .int x1_), (2, .ref (ad g 45)), (3, .int (v3_ + (1 : Int32)))]) [1, 2, 3, 0] rfl (ih (v3_ + (1 : Int32)) σ5 hr hσ5)

set_option maxRecDepth 20000 in
theorem sX7_print_L178 {g : GG} {r : Int32 × SS} {u1_ : Int32} {u3_ : Int32} {k230 : SS → Option (Int32 × SS)} 
    (hk230 : ∀ (σ_ : SS), k230 σ_ = some r → WT σ_ → RR g mX7_print (FinR g mX7_print (some (.int r.1)) NF r.2) zF 230 [(0, .ref (ad g 1)), (1, .int u1_), (3, .int u3_)] [] σ_)
    (n : Nat) : ∀ (v4_ : Int32) (σ_ : SS), X7_print_L178 u1_ u3_ k230 n v4_ σ_ = some r → WT σ_ → RR g mX7_print (FinR g mX7_print (some (.int r.1)) NF r.2) zF 178 [(0, .ref (ad g 1)), (1, .int u1_), (3, .int u3_), (4, .int v4_)] [] σ_ := by
  unfold X7_print_L178
  refine lp_ind (P := fun (rec : Int32 → SS → Option (Int32 × SS)) => ∀ (v4_ : Int32) (σ_ : SS), rec v4_ σ_ = some r → WT σ_ → RR g mX7_print (FinR g mX7_print (some (.int r.1)) NF r.2) zF 178 [(0, .ref (ad g 1)), (1, .int u1_), (3, .int u3_), (4, .int v4_)] [] σ_) ?_ ?_ n
  · intro v4_ σ_ hr; cases hr
  intro rec ih v4_ σ_ hr hw_
  refine r_iload (pc := 178) (j := 3) dX7_print_178 rfl ?_
  refine r_aload_n (pc := 180) (j := 0) dX7_print_180 rfl rfl ?_
  refine gf7_5 (pc := 181) tw_2_114 hw_ dX7_print_181 ?_
  refine gf1_9 (pc := 184) tw_1_92 hw_ (wt_fo hw_).1 dX7_print_184 ?_
  refine r_iload_n (pc := 187) (j := 2) dX7_print_187 rfl rfl ?_
  obtain ⟨h11, hr⟩ := grd_inv hr
  refine x_iald (pc := 188) (k := (Int32.toNatClampNeg u3_)) (sh1_9 (wt_fo hw_).1) h11 rfl dX7_print_188 ?_
  refine r_icmp_ge (pc := 189) (tgt := 230) dX7_print_189 rfl (fun hc => ?_) (fun hc => ?_)
  · replace hr := ite_t hc hr
    exact r_pick (ls1 := [(0, .ref (ad g 1)), (1, .int u1_), (3, .int u3_)]) [0, 1, 2] rfl (hk230 σ_ hr hw_)
  replace hr := ite_f hc hr
  refine r_aload_n (pc := 192) (j := 0) dX7_print_192 rfl rfl ?_
  refine gf7_11 (pc := 193) tw_2_120 hw_ dX7_print_193 ?_
  refine r_iload_n (pc := 196) (j := 2) dX7_print_196 rfl rfl ?_
  refine x_iald (pc := 197) (k := (Int32.toNatClampNeg u3_)) rfl h11 rfl dX7_print_197 ?_
  refine r_iload (pc := 198) (j := 3) dX7_print_198 rfl ?_
  refine r_ishr (pc := 200) dX7_print_200 ?_
  refine r_iconst (pc := 201) (v := (1 : Int32)) dX7_print_201 rfl ?_
  refine r_iand (pc := 202) dX7_print_202 ?_
  refine r_iconst (pc := 203) (v := (1 : Int32)) dX7_print_203 rfl ?_
  refine r_icmp_ne (pc := 204) (tgt := 224) dX7_print_204 rfl (fun hc => ?_) (fun hc => ?_)
  · replace hr := ite_f hc hr
    refine r_iinc (pc := 224) (j := 3) (v := (v4_ + (1 : Int32))) (ls1 := [(4, .int (v4_ + (1 : Int32))), (0, .ref (ad g 1)), (1, .int u1_), (3, .int u3_)]) dX7_print_224 rfl rfl (nle rfl) rfl ?_
    refine r_goto (pc := 227) (tgt := 178) dX7_print_227 rfl ?_
    exact r_pick (ls1 := [(0, .ref (ad g 1)), (1, .int u1_), (3, .int u3_), (4, .int (v4_ + (1 : Int32)))]) [1, 2, 3, 0] rfl (ih (v4_ + (1 : Int32)) σ_ hr hw_)
  replace hr := ite_t hc hr
  refine r_aload_n (pc := 207) (j := 0) dX7_print_207 rfl rfl ?_
  refine r_aload_n (pc := 208) (j := 0) dX7_print_208 rfl rfl ?_
  refine gf7_5 (pc := 209) tw_2_114 hw_ dX7_print_209 ?_
  refine gf1_8 (pc := 212) tw_1_89 hw_ (wt_fo hw_).1 dX7_print_212 ?_
  refine r_iload_n (pc := 215) (j := 2) dX7_print_215 rfl rfl ?_
  refine x_iald (pc := 216) (k := (Int32.toNatClampNeg u3_)) (sh1_8 (wt_fo hw_).1) h11 rfl dX7_print_216 ?_
  refine r_iload (pc := 217) (j := 3) dX7_print_217 rfl ?_
  refine r_iadd (pc := 219) dX7_print_219 ?_
  refine r_iload_n (pc := 220) (j := 1) dX7_print_220 rfl rfl ?_
  obtain ⟨σ12, eσ12, hr⟩ := bnd1_inv hr
  refine kX7_inkBox (pc := 221) eσ12 tw_4_232 ⟨nle rfl, nle rfl⟩ (nle rfl) dX7_print_221 fun hσ12 => ?_
  refine r_iinc (pc := 224) (j := 3) (v := (v4_ + (1 : Int32))) (ls1 := [(4, .int (v4_ + (1 : Int32))), (0, .ref (ad g 1)), (1, .int u1_), (3, .int u3_)]) dX7_print_224 rfl rfl (nle rfl) rfl ?_
  refine r_goto (pc := 227) (tgt := 178) dX7_print_227 rfl ?_
  exact r_pick (ls1 := [(0, .ref (ad g 1)), (1, .int u1_), (3, .int u3_), (4, .int (v4_ + (1 : Int32)))]) [1, 2, 3, 0] rfl (ih (v4_ + (1 : Int32)) σ12 hr hσ12)

set_option maxRecDepth 20000 in
theorem sX7_print_L164 {g : GG} {r : Int32 × SS} {u1_ : Int32}  
    (n : Nat) : ∀ (v3_ : Int32) (σ_ : SS), X7_print_L164 u1_ n v3_ σ_ = some r → WT σ_ → RR g mX7_print (FinR g mX7_print (some (.int r.1)) NF r.2) zF 164 [(0, .ref (ad g 1)), (1, .int u1_), (3, .int v3_)] [] σ_ := by
  unfold X7_print_L164
  refine lp_ind (P := fun (rec : Int32 → SS → Option (Int32 × SS)) => ∀ (v3_ : Int32) (σ_ : SS), rec v3_ σ_ = some r → WT σ_ → RR g mX7_print (FinR g mX7_print (some (.int r.1)) NF r.2) zF 164 [(0, .ref (ad g 1)), (1, .int u1_), (3, .int v3_)] [] σ_) ?_ ?_ n
  · intro v3_ σ_ hr; cases hr
  intro rec ih v3_ σ_ hr hw_
  refine r_iload_n (pc := 164) (j := 2) dX7_print_164 rfl rfl ?_
  refine r_aload_n (pc := 165) (j := 0) dX7_print_165 rfl rfl ?_
  refine gf7_5 (pc := 166) tw_2_114 hw_ dX7_print_166 ?_
  refine gf1_5 (pc := 169) tw_1_79 (wt_fo hw_).1 dX7_print_169 ?_
  refine r_icmp_ge (pc := 172) (tgt := 236) dX7_print_172 rfl (fun hc => ?_) (fun hc => ?_)
  · replace hr := ite_t hc hr
    refine r_aload_n (pc := 236) (j := 0) dX7_print_236 rfl rfl ?_
    refine gf7_2 (pc := 237) tw_2_111 hw_ dX7_print_237 ?_
    refine r_iconst (pc := 240) (v := (1 : Int32)) dX7_print_240 rfl ?_
    obtain ⟨v8, hv8, hr⟩ := bnd1_inv hr
    refine kX6_notBelow (pc := 241) hv8 (wt_sc hw_).1 tw_3_75 ⟨nle rfl, nle rfl⟩ (nle rfl) dX7_print_241 ?_
    exact l_osi hr (r_iret (pc := 244) (v := v8) rfl rfl ⟨Nat.le_refl _, Nat.le_refl _⟩ dX7_print_244)
  replace hr := ite_f hc hr
  refine r_iconst (pc := 175) (v := (0 : Int32)) dX7_print_175 rfl ?_
  refine r_istore (pc := 176) (ls1 := [(4, .int (0 : Int32)), (0, .ref (ad g 1)), (1, .int u1_), (3, .int v3_)]) dX7_print_176 (nle rfl) rfl ?_
  refine r_pick (ls1 := [(0, .ref (ad g 1)), (1, .int u1_), (3, .int v3_), (4, .int (0 : Int32))]) [1, 2, 3, 0] rfl ?_
  refine sX7_print_L178    (fun σ13 hr hσ13 => ?_) fuel (0 : Int32) σ_ hr hw_
  refine r_iinc (pc := 230) (j := 2) (v := (v3_ + (1 : Int32))) (ls1 := [(3, .int (v3_ + (1 : Int32))), (0, .ref (ad g 1)), (1, .int u1_)]) dX7_print_230 rfl rfl (nle rfl) rfl ?_
  refine r_goto (pc := 233) (tgt := 164) dX7_print_233 rfl ?_
  exact r_pick (ls1 := [(0, .ref (ad g 1)), (1, .int u1_), (3, .int (v3_ + (1 : Int32)))]) [1, 2, 0] rfl (ih (v3_ + (1 : Int32)) σ13 hr hσ13)

set_option maxRecDepth 20000 in
theorem sX7_print {g : GG} {σ : SS} {a1 : Int32} {r : Int32 × SS} (hr : fX7_print σ a1 = some r)  : Ct g mX7_print [.ref (ad g 1), .int a1] NF σ (some (.int r.1)) NF r.2 := by
  refine Ct.of (by decide +kernel) (nle rfl) fun hw0 => ?_
  have hw := hw0 rfl
  unfold fX7_print at hr
  change RR g mX7_print (FinR g mX7_print (some (.int r.1)) NF r.2) zF 0 [(0, .ref (ad g 1)), (1, .int a1)] [] σ
  refine r_aload_n (pc := 0) (j := 0) dX7_print_0 rfl rfl ?_
  refine gf7_5 (pc := 1) tw_2_114 hw dX7_print_1 ?_
  refine gf1_0 (pc := 4) tw_1_61 (wt_fo hw).1 dX7_print_4 ?_
  refine r_if_eq (pc := 7) (tgt := 21) dX7_print_7 rfl (fun hc => ?_) (fun hc => ?_)
  · replace hr := ite_t hc hr
    refine r_iconst (pc := 21) (v := (-1 : Int32)) dX7_print_21 rfl ?_
    exact l_osi hr (r_iret (pc := 22) (v := (-1 : Int32)) rfl rfl ⟨Nat.le_refl _, Nat.le_refl _⟩ dX7_print_22)
  replace hr := ite_f hc hr
  refine r_iload_n (pc := 10) (j := 1) dX7_print_10 rfl rfl ?_
  refine r_iconst (pc := 11) (v := (1 : Int32)) dX7_print_11 rfl ?_
  refine r_icmp_lt (pc := 12) (tgt := 21) dX7_print_12 rfl (fun hc => ?_) (fun hc => ?_)
  · replace hr := ite_t hc hr
    refine r_iconst (pc := 21) (v := (-1 : Int32)) dX7_print_21 rfl ?_
    exact l_osi hr (r_iret (pc := 22) (v := (-1 : Int32)) rfl rfl ⟨Nat.le_refl _, Nat.le_refl _⟩ dX7_print_22)
  replace hr := ite_f hc hr
  refine r_iload_n (pc := 15) (j := 1) dX7_print_15 rfl rfl ?_
  refine r_bipush (pc := 16) (v := (9 : Int32)) dX7_print_16 rfl ?_
  refine r_icmp_le (pc := 18) (tgt := 23) dX7_print_18 rfl (fun hc => ?_) (fun hc => ?_)
  · replace hr := ite_t hc hr
    refine r_iconst (pc := 23) (v := (0 : Int32)) dX7_print_23 rfl ?_
    refine r_istore_n (pc := 24) (ls1 := [(2, .int (0 : Int32)), (0, .ref (ad g 1)), (1, .int a1)]) dX7_print_24 rfl (nle rfl) rfl ?_
    refine r_pick (ls1 := [(0, .ref (ad g 1)), (1, .int a1), (2, .int (0 : Int32))]) [1, 2, 0] rfl ?_
    refine sX7_print_L25  hw  (fun hr => ?_) fuel (0 : Int32) hr
    refine r_aload_n (pc := 61) (j := 0) dX7_print_61 rfl rfl ?_
    refine gf7_2 (pc := 62) tw_2_111 hw dX7_print_62 ?_
    refine r_aload_n (pc := 65) (j := 0) dX7_print_65 rfl rfl ?_
    refine gf7_2 (pc := 66) tw_2_111 hw dX7_print_66 ?_
    refine gf6_0 (pc := 69) tw_1_35 (wt_sc hw).1 dX7_print_69 ?_
    refine r_aload_n (pc := 72) (j := 0) dX7_print_72 rfl rfl ?_
    refine gf7_2 (pc := 73) tw_2_111 hw dX7_print_73 ?_
    refine gf6_1 (pc := 76) tw_1_38 (wt_sc hw).1 dX7_print_76 ?_
    obtain ⟨σ2, eσ2, hr⟩ := bnd1_inv hr
    refine kX6_empty (pc := 79) eσ2 (wt_sc hw).1 tw_2_102 ⟨nle rfl, nle rfl⟩ (nle rfl) dX7_print_79 fun hσ2 => ?_
    refine r_aload_n (pc := 82) (j := 0) dX7_print_82 rfl rfl ?_
    refine gf7_12 (pc := 83) tw_2_121 hσ2 dX7_print_83 ?_
    refine gf3_3 (pc := 86) tw_2_29 hσ2 dX7_print_86 ?_
    refine r_astore_n (pc := 89) (ls1 := [(2, .ref (ad g 45)), (0, .ref (ad g 1)), (1, .int a1)]) dX7_print_89 rfl (nle rfl) rfl ?_
    refine r_iconst (pc := 90) (v := (0 : Int32)) dX7_print_90 rfl ?_
    refine r_istore_n (pc := 91) (ls1 := [(3, .int (0 : Int32)), (2, .ref (ad g 45)), (0, .ref (ad g 1)), (1, .int a1)]) dX7_print_91 rfl (nle rfl) rfl ?_
    refine r_pick (ls1 := [(0, .ref (ad g 1)), (1, .int a1), (2, .ref (ad g 45)), (3, .int (0 : Int32))]) [2, 3, 1, 0] rfl ?_
    refine sX7_print_L92    (fun σ6 hr hσ6 => ?_) fuel (0 : Int32) σ2 hr hσ2
    refine r_aload_n (pc := 144) (j := 2) dX7_print_144 rfl rfl ?_
    refine r_aload_n (pc := 145) (j := 0) dX7_print_145 rfl rfl ?_
    refine gf7_5 (pc := 146) tw_2_114 hσ6 dX7_print_146 ?_
    refine gf1_1 (pc := 149) tw_1_65 (wt_fo hσ6).1 dX7_print_149 ?_
    refine r_aload_n (pc := 152) (j := 0) dX7_print_152 rfl rfl ?_
    refine gf7_5 (pc := 153) tw_2_114 hσ6 dX7_print_153 ?_
    refine gf1_2 (pc := 156) tw_1_69 (wt_fo hσ6).1 dX7_print_156 ?_
    obtain ⟨σ7, eσ7, hr⟩ := bnd1_inv hr
    refine kX5_spread (pc := 159) eσ7 tw_4_79 ⟨nle rfl, nle rfl⟩ (nle rfl) dX7_print_159 fun hσ7 => ?_
    refine r_iconst (pc := 162) (v := (0 : Int32)) dX7_print_162 rfl ?_
    refine r_istore_n (pc := 163) (ls1 := [(3, .int (0 : Int32)), (0, .ref (ad g 1)), (1, .int a1), (2, .ref (ad g 45))]) dX7_print_163 rfl (nle rfl) rfl ?_
    refine r_pick (ls1 := [(0, .ref (ad g 1)), (1, .int a1), (3, .int (0 : Int32))]) [1, 2, 0] rfl ?_
    refine sX7_print_L164     fuel (0 : Int32) σ7 hr hσ7
  replace hr := ite_f hc hr
  refine r_iconst (pc := 21) (v := (-1 : Int32)) dX7_print_21 rfl ?_
  exact l_osi hr (r_iret (pc := 22) (v := (-1 : Int32)) rfl rfl ⟨Nat.le_refl _, Nat.le_refl _⟩ dX7_print_22)

theorem kX7_print {g : GG} {σ : SS} {a1 : Int32} {v : Int32} {σ2 : SS} {M : MM} {F : State → Array Value → List Frame → State → Prop} {pc index : Nat} {ls : List (Nat × Value)} {rest : List Value} (hf : fX7_print σ a1 = some (v, σ2))  (hl : Cond.methodLink M.1.cls index yX7_print ∈ lw_gt) (hR : mX7_print.2.2.2.2.frames + 1 ≤ M.2.2.2.2.frames ∧ 8 + (mX7_print.2.2.1 + 11) + mX7_print.2.2.2.2.locals ≤ M.2.2.2.2.locals) (hrest : (rest.map fun v => v.category).sum ≤ 8) (hd : decode M.2.1 pc = .ok (.invokevirtual index, 3)) (k : WT σ2 → RR g M F zF (pc + 3) ls (.int v :: rest) σ2) : RR g M F zF pc ls (.int a1 :: .ref (ad g 1) :: rest) σ :=
  r_callV (z := zF) (N := mX7_print) (nn := 1) (o1 := some (.int v)) (sX7_print hf ) (rfl : shp 1 = (7, 0)) (by decide) (shp_le (rfl : shp 1 = (7, 0)) (nle rfl)) (ci := 7) rfl rfl tw_4_222 tw_1_1 hl tw_4_220 tw_4_221 ⟨by decide, by decide, rfl⟩ hR rfl hrest hd ⟨Nat.zero_le _, Nat.zero_le _⟩ rfl (fun h => k (h rfl))

