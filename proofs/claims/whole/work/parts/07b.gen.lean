/-! Walks written by a program out of the bytecode: each method as a function over the store, and its contract. -/
theorem dX8_reads_0 : decode cX8_reads 0 = .ok (.aload_n 0, 1) := by decide +kernel
theorem dX8_reads_1 : decode cX8_reads 1 = .ok (.getfield 13, 3) := by decide +kernel
theorem dX8_reads_4 : decode cX8_reads 4 = .ok (.iconst 5, 1) := by decide +kernel
theorem dX8_reads_5 : decode cX8_reads 5 = .ok (.aload_n 0, 1) := by decide +kernel
theorem dX8_reads_6 : decode cX8_reads 6 = .ok (.getfield 206, 3) := by decide +kernel
theorem dX8_reads_9 : decode cX8_reads 9 = .ok (.imul, 1) := by decide +kernel
theorem dX8_reads_10 : decode cX8_reads 10 = .ok (.iconst 4, 1) := by decide +kernel
theorem dX8_reads_11 : decode cX8_reads 11 = .ok (.iadd, 1) := by decide +kernel
theorem dX8_reads_12 : decode cX8_reads 12 = .ok (.iconst 0, 1) := by decide +kernel
theorem dX8_reads_13 : decode cX8_reads 13 = .ok (.iastore, 1) := by decide +kernel
theorem dX8_reads_14 : decode cX8_reads 14 = .ok (.aload_n 0, 1) := by decide +kernel
theorem dX8_reads_15 : decode cX8_reads 15 = .ok (.iconst 0, 1) := by decide +kernel
theorem dX8_reads_16 : decode cX8_reads 16 = .ok (.ldc2_w 245, 3) := by decide +kernel
theorem dX8_reads_19 : decode cX8_reads 19 = .ok (.iconst 4, 1) := by decide +kernel
theorem dX8_reads_20 : decode cX8_reads 20 = .ok (.bipush 40, 2) := by decide +kernel
theorem dX8_reads_22 : decode cX8_reads 22 = .ok (.invokevirtual 247, 3) := by decide +kernel
theorem dX8_reads_25 : decode cX8_reads 25 = .ok (.ifCond .eq 17, 3) := by decide +kernel
theorem dX8_reads_28 : decode cX8_reads 28 = .ok (.aload_n 0, 1) := by decide +kernel
theorem dX8_reads_29 : decode cX8_reads 29 = .ok (.iconst 2, 1) := by decide +kernel
theorem dX8_reads_30 : decode cX8_reads 30 = .ok (.ldc2_w 251, 3) := by decide +kernel
theorem dX8_reads_33 : decode cX8_reads 33 = .ok (.iconst 1, 1) := by decide +kernel
theorem dX8_reads_34 : decode cX8_reads 34 = .ok (.bipush 6, 2) := by decide +kernel
theorem dX8_reads_36 : decode cX8_reads 36 = .ok (.invokevirtual 247, 3) := by decide +kernel
theorem dX8_reads_39 : decode cX8_reads 39 = .ok (.ifCond .ne 5, 3) := by decide +kernel
theorem dX8_reads_42 : decode cX8_reads 42 = .ok (.iconst 0, 1) := by decide +kernel
theorem dX8_reads_43 : decode cX8_reads 43 = .ok (.ireturn, 1) := by decide +kernel
theorem dX8_reads_44 : decode cX8_reads 44 = .ok (.aload_n 0, 1) := by decide +kernel
theorem dX8_reads_45 : decode cX8_reads 45 = .ok (.getfield 162, 3) := by decide +kernel
theorem dX8_reads_48 : decode cX8_reads 48 = .ok (.ifCond .eq 12, 3) := by decide +kernel
theorem dX8_reads_51 : decode cX8_reads 51 = .ok (.aload_n 0, 1) := by decide +kernel
theorem dX8_reads_52 : decode cX8_reads 52 = .ok (.invokevirtual 253, 3) := by decide +kernel
theorem dX8_reads_55 : decode cX8_reads 55 = .ok (.ifCond .ne (-11), 3) := by decide +kernel
theorem dX8_reads_58 : decode cX8_reads 58 = .ok (.iconst 0, 1) := by decide +kernel
theorem dX8_reads_59 : decode cX8_reads 59 = .ok (.ireturn, 1) := by decide +kernel
theorem dX8_reads_60 : decode cX8_reads 60 = .ok (.iconst 1, 1) := by decide +kernel
theorem dX8_reads_61 : decode cX8_reads 61 = .ok (.ireturn, 1) := by decide +kernel
def mX8_reads : MM := (yX8_reads, cX8_reads, 1, Option.some Jvm.ClassFile.FieldType.boolean, { frames := 4, cells := 0, slots := 0, locals := 91 })
def X8_reads_L44   : Nat → SS → Option (Bool × SS) :=
  lp (fun _ => none) fun rec σ_ =>
    if (gI σ_ 73 5) = 0 then (
      some (true, σ_)
      ) else (
      bnd (fX8_readsQuestion σ_) fun b12 σ14 =>
      if b12 = true then (
        rec σ14
        ) else (
        some (false, σ14)
        )
      )

def fX8_reads (σ : SS)  : Option (Bool × SS) :=
  grd (inb (((5 : Int32) * (gI σ 73 11)) + (4 : Int32)) 10) <|
  vthen (sI σ 75 (Int32.toNatClampNeg (((5 : Int32) * (gI σ 73 11)) + (4 : Int32))) (0 : Int32)) fun σ2 =>
  bnd (fX8_readsTwo σ2 (0 : Int32) (632645 : Int64) (4 : Int32) (40 : Int32)) fun b4 σ6 =>
  if b4 = true then (
    bnd (fX8_readsTwo σ6 (2 : Int32) (2552 : Int64) (1 : Int32) (6 : Int32)) fun b8 σ10 =>
    if b8 = true then (
      X8_reads_L44
      fuel σ10
      ) else (
      some (false, σ10)
      )
    ) else (
    some (false, σ6)
    )

set_option maxRecDepth 20000 in
theorem sX8_reads_L44 {g : GG} {r : Bool × SS}   
    (n : Nat) : ∀ (σ_ : SS), X8_reads_L44 n σ_ = some r → WT σ_ → RR g mX8_reads (FinR g mX8_reads (some (.int (b2i r.1))) NF r.2) zF 44 [(0, .ref (ad g 73))] [] σ_ := by
  unfold X8_reads_L44
  refine lp_ind (P := fun (rec : SS → Option (Bool × SS)) => ∀ (σ_ : SS), rec σ_ = some r → WT σ_ → RR g mX8_reads (FinR g mX8_reads (some (.int (b2i r.1))) NF r.2) zF 44 [(0, .ref (ad g 73))] [] σ_) ?_ ?_ n
  · intro σ_ hr; cases hr
  intro rec ih σ_ hr hw_
  refine r_aload_n (pc := 44) (j := 0) dX8_reads_44 rfl rfl ?_
  refine gf8_5 (pc := 45) tw_5_99 rfl dX8_reads_45 ?_
  refine r_if_eq (pc := 48) (tgt := 60) dX8_reads_48 rfl (fun hc => ?_) (fun hc => ?_)
  · replace hr := ite_t hc hr
    refine r_iconst (pc := 60) (v := (1 : Int32)) dX8_reads_60 rfl ?_
    exact l_osz hr (r_zret (pc := 61) (v := b2i true) (ty := .boolean) rfl (b2i_nar _) rfl ⟨Nat.le_refl _, Nat.le_refl _⟩ dX8_reads_61)
  replace hr := ite_f hc hr
  refine r_aload_n (pc := 51) (j := 0) dX8_reads_51 rfl rfl ?_
  obtain ⟨b12, σ14, eσ14, hr⟩ := bnd_inv hr
  refine kX8_readsQuestion (pc := 52) eσ14 tw_6_109 ⟨nle rfl, nle rfl⟩ (nle rfl) dX8_reads_52 fun hσ14 => ?_
  refine r_ifB_ne (pc := 55) (tgt := 44) dX8_reads_55 rfl (fun hc => ?_) (fun hc => ?_)
  · replace hr := ite_t hc hr
    exact r_pick (ls1 := [(0, .ref (ad g 73))]) [0] rfl (ih σ14 hr hσ14)
  replace hr := ite_f hc hr
  refine r_iconst (pc := 58) (v := (0 : Int32)) dX8_reads_58 rfl ?_
  exact l_osz hr (r_zret (pc := 59) (v := b2i false) (ty := .boolean) rfl (b2i_nar _) rfl ⟨Nat.le_refl _, Nat.le_refl _⟩ dX8_reads_59)

set_option maxRecDepth 20000 in
theorem sX8_reads {g : GG} {σ : SS}  {r : Bool × SS} (hr : fX8_reads σ = some r)  : Ct g mX8_reads [.ref (ad g 73)] NF σ (some (.int (b2i r.1))) NF r.2 := by
  refine Ct.of (by decide +kernel) (nle rfl) fun hw0 => ?_
  have hw := hw0 rfl
  unfold fX8_reads at hr
  change RR g mX8_reads (FinR g mX8_reads (some (.int (b2i r.1))) NF r.2) zF 0 [(0, .ref (ad g 73))] [] σ
  refine r_aload_n (pc := 0) (j := 0) dX8_reads_0 rfl rfl ?_
  refine gf8_13 (pc := 1) tw_5_107 hw dX8_reads_1 ?_
  refine r_iconst (pc := 4) (v := (5 : Int32)) dX8_reads_4 rfl ?_
  refine r_aload_n (pc := 5) (j := 0) dX8_reads_5 rfl rfl ?_
  refine gf8_11 (pc := 6) tw_5_105 rfl dX8_reads_6 ?_
  refine r_imul (pc := 9) dX8_reads_9 ?_
  refine r_iconst (pc := 10) (v := (4 : Int32)) dX8_reads_10 rfl ?_
  refine r_iadd (pc := 11) dX8_reads_11 ?_
  refine r_iconst (pc := 12) (v := (0 : Int32)) dX8_reads_12 rfl ?_
  obtain ⟨h1, hr⟩ := grd_inv hr
  refine x_iast (pc := 13) (j := (Int32.toNatClampNeg (((5 : Int32) * (gI σ 73 11)) + (4 : Int32)))) rfl h1 rfl dX8_reads_13 fun σ2 eσ2 => ?_
  replace hr := vthen_inv hr σ2 eσ2
  have hσ2 := wtI eσ2 hw
  refine r_aload_n (pc := 14) (j := 0) dX8_reads_14 rfl rfl ?_
  refine r_iconst (pc := 15) (v := (0 : Int32)) dX8_reads_15 rfl ?_
  refine r_ldc2 (pc := 16) (v := (632645 : Int64)) dX8_reads_16 tw_6_83 ?_
  refine r_iconst (pc := 19) (v := (4 : Int32)) dX8_reads_19 rfl ?_
  refine r_bipush (pc := 20) (v := (40 : Int32)) dX8_reads_20 rfl ?_
  obtain ⟨b4, σ6, eσ6, hr⟩ := bnd_inv hr
  refine kX8_readsTwo (pc := 22) eσ6 tw_6_84 ⟨nle rfl, nle rfl⟩ (nle rfl) dX8_reads_22 fun hσ6 => ?_
  refine r_ifB_eq (pc := 25) (tgt := 42) dX8_reads_25 rfl (fun hc => ?_) (fun hc => ?_)
  · replace hr := ite_f hc hr
    refine r_iconst (pc := 42) (v := (0 : Int32)) dX8_reads_42 rfl ?_
    exact l_osz hr (r_zret (pc := 43) (v := b2i false) (ty := .boolean) rfl (b2i_nar _) rfl ⟨Nat.le_refl _, Nat.le_refl _⟩ dX8_reads_43)
  replace hr := ite_t hc hr
  refine r_aload_n (pc := 28) (j := 0) dX8_reads_28 rfl rfl ?_
  refine r_iconst (pc := 29) (v := (2 : Int32)) dX8_reads_29 rfl ?_
  refine r_ldc2 (pc := 30) (v := (2552 : Int64)) dX8_reads_30 tw_6_108 ?_
  refine r_iconst (pc := 33) (v := (1 : Int32)) dX8_reads_33 rfl ?_
  refine r_bipush (pc := 34) (v := (6 : Int32)) dX8_reads_34 rfl ?_
  obtain ⟨b8, σ10, eσ10, hr⟩ := bnd_inv hr
  refine kX8_readsTwo (pc := 36) eσ10 tw_6_84 ⟨nle rfl, nle rfl⟩ (nle rfl) dX8_reads_36 fun hσ10 => ?_
  refine r_ifB_ne (pc := 39) (tgt := 44) dX8_reads_39 rfl (fun hc => ?_) (fun hc => ?_)
  · replace hr := ite_t hc hr
    refine r_pick (ls1 := [(0, .ref (ad g 73))]) [0] rfl ?_
    refine sX8_reads_L44     fuel σ10 hr hσ10
  replace hr := ite_f hc hr
  refine r_iconst (pc := 42) (v := (0 : Int32)) dX8_reads_42 rfl ?_
  exact l_osz hr (r_zret (pc := 43) (v := b2i false) (ty := .boolean) rfl (b2i_nar _) rfl ⟨Nat.le_refl _, Nat.le_refl _⟩ dX8_reads_43)

theorem kX8_reads {g : GG} {σ : SS}  {v : Bool} {σ2 : SS} {M : MM} {F : State → Array Value → List Frame → State → Prop} {pc index : Nat} {ls : List (Nat × Value)} {rest : List Value} (hf : fX8_reads σ = some (v, σ2))  (hl : Cond.methodLink M.1.cls index yX8_reads ∈ lw_gt) (hR : mX8_reads.2.2.2.2.frames + 1 ≤ M.2.2.2.2.frames ∧ 8 + (mX8_reads.2.2.1 + 11) + mX8_reads.2.2.2.2.locals ≤ M.2.2.2.2.locals) (hrest : (rest.map fun v => v.category).sum ≤ 8) (hd : decode M.2.1 pc = .ok (.invokevirtual index, 3)) (k : WT σ2 → RR g M F zF (pc + 3) ls (.int (b2i v) :: rest) σ2) : RR g M F zF pc ls (.ref (ad g 73) :: rest) σ :=
  r_callV (N := mX8_reads) (nn := 0) (o1 := some (.int (b2i v))) (sX8_reads hf ) (rfl : shp 73 = (8, 0)) (by decide) (shp_le (rfl : shp 73 = (8, 0)) (nle rfl)) (ci := 8) rfl rfl tw_6_82 tw_1_10 hl tw_6_81 tp_36 ⟨by decide, by decide, rfl⟩ hR rfl hrest hd ⟨Nat.zero_le _, Nat.zero_le _⟩ rfl (fun h => k (h rfl))

theorem dX8_form_0 : decode cX8_form 0 = .ok (.iload_n 1, 1) := by decide +kernel
theorem dX8_form_1 : decode cX8_form 1 = .ok (.iconst 1, 1) := by decide +kernel
theorem dX8_form_2 : decode cX8_form 2 = .ok (.sipush 400, 3) := by decide +kernel
theorem dX8_form_5 : decode cX8_form 5 = .ok (.invokestatic 165, 3) := by decide +kernel
theorem dX8_form_8 : decode cX8_form 8 = .ok (.ifCond .eq 11, 3) := by decide +kernel
theorem dX8_form_11 : decode cX8_form 11 = .ok (.iload_n 1, 1) := by decide +kernel
theorem dX8_form_12 : decode cX8_form 12 = .ok (.aload_n 0, 1) := by decide +kernel
theorem dX8_form_13 : decode cX8_form 13 = .ok (.getfield 142, 3) := by decide +kernel
theorem dX8_form_16 : decode cX8_form 16 = .ok (.if_icmp .le 5, 3) := by decide +kernel
theorem dX8_form_19 : decode cX8_form 19 = .ok (.iconst (-1), 1) := by decide +kernel
theorem dX8_form_20 : decode cX8_form 20 = .ok (.ireturn, 1) := by decide +kernel
theorem dX8_form_21 : decode cX8_form 21 = .ok (.aload_n 0, 1) := by decide +kernel
theorem dX8_form_22 : decode cX8_form 22 = .ok (.iconst 0, 1) := by decide +kernel
theorem dX8_form_23 : decode cX8_form 23 = .ok (.putfield 149, 3) := by decide +kernel
theorem dX8_form_26 : decode cX8_form 26 = .ok (.aload_n 0, 1) := by decide +kernel
theorem dX8_form_27 : decode cX8_form 27 = .ok (.iload_n 1, 1) := by decide +kernel
theorem dX8_form_28 : decode cX8_form 28 = .ok (.putfield 152, 3) := by decide +kernel
theorem dX8_form_31 : decode cX8_form 31 = .ok (.aload_n 0, 1) := by decide +kernel
theorem dX8_form_32 : decode cX8_form 32 = .ok (.iconst 0, 1) := by decide +kernel
theorem dX8_form_33 : decode cX8_form 33 = .ok (.putfield 142, 3) := by decide +kernel
theorem dX8_form_36 : decode cX8_form 36 = .ok (.aload_n 0, 1) := by decide +kernel
theorem dX8_form_37 : decode cX8_form 37 = .ok (.invokevirtual 199, 3) := by decide +kernel
theorem dX8_form_40 : decode cX8_form 40 = .ok (.aload_n 0, 1) := by decide +kernel
theorem dX8_form_41 : decode cX8_form 41 = .ok (.iconst 1, 1) := by decide +kernel
theorem dX8_form_42 : decode cX8_form 42 = .ok (.aload_n 0, 1) := by decide +kernel
theorem dX8_form_43 : decode cX8_form 43 = .ok (.getfield 206, 3) := by decide +kernel
theorem dX8_form_46 : decode cX8_form 46 = .ok (.isub, 1) := by decide +kernel
theorem dX8_form_47 : decode cX8_form 47 = .ok (.putfield 206, 3) := by decide +kernel
theorem dX8_form_50 : decode cX8_form 50 = .ok (.aload_n 0, 1) := by decide +kernel
theorem dX8_form_51 : decode cX8_form 51 = .ok (.invokevirtual 256, 3) := by decide +kernel
theorem dX8_form_54 : decode cX8_form 54 = .ok (.ifCond .ne 18, 3) := by decide +kernel
theorem dX8_form_57 : decode cX8_form 57 = .ok (.aload_n 0, 1) := by decide +kernel
theorem dX8_form_58 : decode cX8_form 58 = .ok (.iconst 1, 1) := by decide +kernel
theorem dX8_form_59 : decode cX8_form 59 = .ok (.aload_n 0, 1) := by decide +kernel
theorem dX8_form_60 : decode cX8_form 60 = .ok (.getfield 206, 3) := by decide +kernel
theorem dX8_form_63 : decode cX8_form 63 = .ok (.isub, 1) := by decide +kernel
theorem dX8_form_64 : decode cX8_form 64 = .ok (.putfield 206, 3) := by decide +kernel
theorem dX8_form_67 : decode cX8_form 67 = .ok (.aload_n 0, 1) := by decide +kernel
theorem dX8_form_68 : decode cX8_form 68 = .ok (.getfield 188, 3) := by decide +kernel
theorem dX8_form_71 : decode cX8_form 71 = .ok (.ireturn, 1) := by decide +kernel
theorem dX8_form_72 : decode cX8_form 72 = .ok (.aload_n 0, 1) := by decide +kernel
theorem dX8_form_73 : decode cX8_form 73 = .ok (.iconst 1, 1) := by decide +kernel
theorem dX8_form_74 : decode cX8_form 74 = .ok (.putfield 202, 3) := by decide +kernel
theorem dX8_form_77 : decode cX8_form 77 = .ok (.aload_n 0, 1) := by decide +kernel
theorem dX8_form_78 : decode cX8_form 78 = .ok (.iconst 0, 1) := by decide +kernel
theorem dX8_form_79 : decode cX8_form 79 = .ok (.putfield 259, 3) := by decide +kernel
theorem dX8_form_82 : decode cX8_form 82 = .ok (.iconst 0, 1) := by decide +kernel
theorem dX8_form_83 : decode cX8_form 83 = .ok (.istore_n 2, 1) := by decide +kernel
theorem dX8_form_84 : decode cX8_form 84 = .ok (.iload_n 2, 1) := by decide +kernel
theorem dX8_form_85 : decode cX8_form 85 = .ok (.bipush 12, 2) := by decide +kernel
theorem dX8_form_87 : decode cX8_form 87 = .ok (.if_icmp .ge 16, 3) := by decide +kernel
theorem dX8_form_90 : decode cX8_form 90 = .ok (.aload_n 0, 1) := by decide +kernel
theorem dX8_form_91 : decode cX8_form 91 = .ok (.getfield 35, 3) := by decide +kernel
theorem dX8_form_94 : decode cX8_form 94 = .ok (.iload_n 2, 1) := by decide +kernel
theorem dX8_form_95 : decode cX8_form 95 = .ok (.iconst 0, 1) := by decide +kernel
theorem dX8_form_96 : decode cX8_form 96 = .ok (.iastore, 1) := by decide +kernel
theorem dX8_form_97 : decode cX8_form 97 = .ok (.iinc 2 1, 3) := by decide +kernel
theorem dX8_form_100 : decode cX8_form 100 = .ok (.goto (-16), 3) := by decide +kernel
theorem dX8_form_103 : decode cX8_form 103 = .ok (.aload_n 0, 1) := by decide +kernel
theorem dX8_form_104 : decode cX8_form 104 = .ok (.getfield 13, 3) := by decide +kernel
theorem dX8_form_107 : decode cX8_form 107 = .ok (.iconst 5, 1) := by decide +kernel
theorem dX8_form_108 : decode cX8_form 108 = .ok (.aload_n 0, 1) := by decide +kernel
theorem dX8_form_109 : decode cX8_form 109 = .ok (.getfield 206, 3) := by decide +kernel
theorem dX8_form_112 : decode cX8_form 112 = .ok (.imul, 1) := by decide +kernel
theorem dX8_form_113 : decode cX8_form 113 = .ok (.iconst 4, 1) := by decide +kernel
theorem dX8_form_114 : decode cX8_form 114 = .ok (.iadd, 1) := by decide +kernel
theorem dX8_form_115 : decode cX8_form 115 = .ok (.iaload, 1) := by decide +kernel
theorem dX8_form_116 : decode cX8_form 116 = .ok (.ireturn, 1) := by decide +kernel
def mX8_form : MM := (yX8_form, cX8_form, 3, Option.some Jvm.ClassFile.FieldType.int, { frames := 5, cells := 0, slots := 0, locals := 111 })
def X8_form_L84   : Nat → Int32 → SS → Option (Int32 × SS) :=
  lp (fun _ _ => none) fun rec v2_ σ_ =>
    if (12 : Int32) ≤ v2_ then (
      grd (inb (((5 : Int32) * (gI σ_ 73 11)) + (4 : Int32)) 10) <|
      some ((gI σ_ 75 (Int32.toNatClampNeg (((5 : Int32) * (gI σ_ 73 11)) + (4 : Int32)))), σ_)
      ) else (
      grd (inb v2_ 12) <|
      vthen (sI σ_ 82 (Int32.toNatClampNeg v2_) (0 : Int32)) fun σ14 =>
      rec (v2_ + (1 : Int32)) σ14
      )

def fX8_form (σ : SS) (a1 : Int32) : Option (Int32 × SS) :=
  if (fX8_in σ a1 (1 : Int32) (400 : Int32)) = true then (
    if a1 ≤ (gI σ 73 1) then (
      vthen (sI σ 73 2 (0 : Int32)) fun σ1 =>
      vthen (sI σ1 73 3 a1) fun σ2 =>
      vthen (sI σ2 73 1 (0 : Int32)) fun σ3 =>
      bnd1 (fX8_next σ3) fun σ4 =>
      vthen (sI σ4 73 11 ((1 : Int32) - (gI σ4 73 11))) fun σ5 =>
      bnd (fX8_reads σ5) fun b7 σ9 =>
      if b7 = true then (
        vthen (sI σ9 73 12 (1 : Int32)) fun σ10 =>
        vthen (sI σ10 73 65 (0 : Int32)) fun σ11 =>
        X8_form_L84
        fuel (0 : Int32) σ11
        ) else (
        vthen (sI σ9 73 11 ((1 : Int32) - (gI σ9 73 11))) fun σ15 =>
        some ((gI σ15 73 4), σ15)
        )
      ) else (
      some ((-1 : Int32), σ)
      )
    ) else (
    some ((-1 : Int32), σ)
    )

set_option maxRecDepth 20000 in
theorem sX8_form_L84 {g : GG} {r : Int32 × SS}   
    (n : Nat) : ∀ (v2_ : Int32) (σ_ : SS), X8_form_L84 n v2_ σ_ = some r → WT σ_ → RR g mX8_form (FinR g mX8_form (some (.int r.1)) NF r.2) zF 84 [(0, .ref (ad g 73)), (2, .int v2_)] [] σ_ := by
  unfold X8_form_L84
  refine lp_ind (P := fun (rec : Int32 → SS → Option (Int32 × SS)) => ∀ (v2_ : Int32) (σ_ : SS), rec v2_ σ_ = some r → WT σ_ → RR g mX8_form (FinR g mX8_form (some (.int r.1)) NF r.2) zF 84 [(0, .ref (ad g 73)), (2, .int v2_)] [] σ_) ?_ ?_ n
  · intro v2_ σ_ hr; cases hr
  intro rec ih v2_ σ_ hr hw_
  refine r_iload_n (pc := 84) (j := 1) dX8_form_84 rfl rfl ?_
  refine r_bipush (pc := 85) (v := (12 : Int32)) dX8_form_85 rfl ?_
  refine r_icmp_ge (pc := 87) (tgt := 103) dX8_form_87 rfl (fun hc => ?_) (fun hc => ?_)
  · replace hr := ite_t hc hr
    refine r_aload_n (pc := 103) (j := 0) dX8_form_103 rfl rfl ?_
    refine gf8_13 (pc := 104) tw_5_107 hw_ dX8_form_104 ?_
    refine r_iconst (pc := 107) (v := (5 : Int32)) dX8_form_107 rfl ?_
    refine r_aload_n (pc := 108) (j := 0) dX8_form_108 rfl rfl ?_
    refine gf8_11 (pc := 109) tw_5_105 rfl dX8_form_109 ?_
    refine r_imul (pc := 112) dX8_form_112 ?_
    refine r_iconst (pc := 113) (v := (4 : Int32)) dX8_form_113 rfl ?_
    refine r_iadd (pc := 114) dX8_form_114 ?_
    obtain ⟨h12, hr⟩ := grd_inv hr
    refine x_iald (pc := 115) (k := (Int32.toNatClampNeg (((5 : Int32) * (gI σ_ 73 11)) + (4 : Int32)))) rfl h12 rfl dX8_form_115 ?_
    exact l_osi hr (r_iret (pc := 116) (v := (gI σ_ 75 (Int32.toNatClampNeg (((5 : Int32) * (gI σ_ 73 11)) + (4 : Int32))))) rfl rfl ⟨Nat.le_refl _, Nat.le_refl _⟩ dX8_form_116)
  replace hr := ite_f hc hr
  refine r_aload_n (pc := 90) (j := 0) dX8_form_90 rfl rfl ?_
  refine gf8_20 (pc := 91) tw_5_114 hw_ dX8_form_91 ?_
  refine r_iload_n (pc := 94) (j := 1) dX8_form_94 rfl rfl ?_
  refine r_iconst (pc := 95) (v := (0 : Int32)) dX8_form_95 rfl ?_
  obtain ⟨h13, hr⟩ := grd_inv hr
  refine x_iast (pc := 96) (j := (Int32.toNatClampNeg v2_)) rfl h13 rfl dX8_form_96 fun σ14 eσ14 => ?_
  replace hr := vthen_inv hr σ14 eσ14
  have hσ14 := wtI eσ14 hw_
  refine r_iinc (pc := 97) (j := 1) (v := (v2_ + (1 : Int32))) (ls1 := [(2, .int (v2_ + (1 : Int32))), (0, .ref (ad g 73))]) dX8_form_97 rfl rfl (nle rfl) rfl ?_
  refine r_goto (pc := 100) (tgt := 84) dX8_form_100 rfl ?_
  exact r_pick (ls1 := [(0, .ref (ad g 73)), (2, .int (v2_ + (1 : Int32)))]) [1, 0] rfl (ih (v2_ + (1 : Int32)) σ14 hr hσ14)

set_option maxRecDepth 20000 in
theorem sX8_form {g : GG} {σ : SS} {a1 : Int32} {r : Int32 × SS} (hr : fX8_form σ a1 = some r)  : Ct g mX8_form [.ref (ad g 73), .int a1] NF σ (some (.int r.1)) NF r.2 := by
  refine Ct.of (by decide +kernel) (nle rfl) fun hw0 => ?_
  have hw := hw0 rfl
  unfold fX8_form at hr
  change RR g mX8_form (FinR g mX8_form (some (.int r.1)) NF r.2) zF 0 [(0, .ref (ad g 73)), (1, .int a1)] [] σ
  refine r_iload_n (pc := 0) (j := 1) dX8_form_0 rfl rfl ?_
  refine r_iconst (pc := 1) (v := (1 : Int32)) dX8_form_1 rfl ?_
  refine r_sipush (pc := 2) (v := (400 : Int32)) dX8_form_2 rfl ?_
  refine kX8_in (pc := 5) (hf := rfl) tw_6_65 ⟨nle rfl, nle rfl⟩ (nle rfl) dX8_form_5 ?_
  refine r_ifB_eq (pc := 8) (tgt := 19) dX8_form_8 rfl (fun hc => ?_) (fun hc => ?_)
  · replace hr := ite_f hc hr
    refine r_iconst (pc := 19) (v := (-1 : Int32)) dX8_form_19 rfl ?_
    exact l_osi hr (r_iret (pc := 20) (v := (-1 : Int32)) rfl rfl ⟨Nat.le_refl _, Nat.le_refl _⟩ dX8_form_20)
  replace hr := ite_t hc hr
  refine r_iload_n (pc := 11) (j := 1) dX8_form_11 rfl rfl ?_
  refine r_aload_n (pc := 12) (j := 0) dX8_form_12 rfl rfl ?_
  refine gf8_1 (pc := 13) tw_5_95 rfl dX8_form_13 ?_
  refine r_icmp_le (pc := 16) (tgt := 21) dX8_form_16 rfl (fun hc => ?_) (fun hc => ?_)
  · replace hr := ite_t hc hr
    refine r_aload_n (pc := 21) (j := 0) dX8_form_21 rfl rfl ?_
    refine r_iconst (pc := 22) (v := (0 : Int32)) dX8_form_22 rfl ?_
    refine pf8_2 (pc := 23) tw_5_96 rfl dX8_form_23 fun σ1 eσ1 => ?_
    replace hr := vthen_inv hr σ1 eσ1
    have hσ1 := wtI eσ1 hw
    refine r_aload_n (pc := 26) (j := 0) dX8_form_26 rfl rfl ?_
    refine r_iload_n (pc := 27) (j := 1) dX8_form_27 rfl rfl ?_
    refine pf8_3 (pc := 28) tw_5_97 rfl dX8_form_28 fun σ2 eσ2 => ?_
    replace hr := vthen_inv hr σ2 eσ2
    have hσ2 := wtI eσ2 hσ1
    refine r_aload_n (pc := 31) (j := 0) dX8_form_31 rfl rfl ?_
    refine r_iconst (pc := 32) (v := (0 : Int32)) dX8_form_32 rfl ?_
    refine pf8_1 (pc := 33) tw_5_95 rfl dX8_form_33 fun σ3 eσ3 => ?_
    replace hr := vthen_inv hr σ3 eσ3
    have hσ3 := wtI eσ3 hσ2
    refine r_aload_n (pc := 36) (j := 0) dX8_form_36 rfl rfl ?_
    obtain ⟨σ4, eσ4, hr⟩ := bnd1_inv hr
    refine kX8_next (pc := 37) eσ4 tw_6_68 ⟨nle rfl, nle rfl⟩ (nle rfl) dX8_form_37 fun hσ4 => ?_
    refine r_aload_n (pc := 40) (j := 0) dX8_form_40 rfl rfl ?_
    refine r_iconst (pc := 41) (v := (1 : Int32)) dX8_form_41 rfl ?_
    refine r_aload_n (pc := 42) (j := 0) dX8_form_42 rfl rfl ?_
    refine gf8_11 (pc := 43) tw_5_105 rfl dX8_form_43 ?_
    refine r_isub (pc := 46) dX8_form_46 ?_
    refine pf8_11 (pc := 47) tw_5_105 rfl dX8_form_47 fun σ5 eσ5 => ?_
    replace hr := vthen_inv hr σ5 eσ5
    have hσ5 := wtI eσ5 hσ4
    refine r_aload_n (pc := 50) (j := 0) dX8_form_50 rfl rfl ?_
    obtain ⟨b7, σ9, eσ9, hr⟩ := bnd_inv hr
    refine kX8_reads (pc := 51) eσ9 tw_6_79 ⟨nle rfl, nle rfl⟩ (nle rfl) dX8_form_51 fun hσ9 => ?_
    refine r_ifB_ne (pc := 54) (tgt := 72) dX8_form_54 rfl (fun hc => ?_) (fun hc => ?_)
    · replace hr := ite_t hc hr
      refine r_aload_n (pc := 72) (j := 0) dX8_form_72 rfl rfl ?_
      refine r_iconst (pc := 73) (v := (1 : Int32)) dX8_form_73 rfl ?_
      refine pf8_12 (pc := 74) tw_5_106 rfl rfl dX8_form_74 fun σ10 eσ10 => ?_
      replace hr := vthen_inv hr σ10 eσ10
      have hσ10 := wtI eσ10 hσ9
      refine r_aload_n (pc := 77) (j := 0) dX8_form_77 rfl rfl ?_
      refine r_iconst (pc := 78) (v := (0 : Int32)) dX8_form_78 rfl ?_
      refine pf8_65 (pc := 79) tw_5_159 rfl dX8_form_79 fun σ11 eσ11 => ?_
      replace hr := vthen_inv hr σ11 eσ11
      have hσ11 := wtI eσ11 hσ10
      refine r_iconst (pc := 82) (v := (0 : Int32)) dX8_form_82 rfl ?_
      refine r_istore_n (pc := 83) (ls1 := [(2, .int (0 : Int32)), (0, .ref (ad g 73)), (1, .int a1)]) dX8_form_83 rfl (nle rfl) rfl ?_
      refine r_pick (ls1 := [(0, .ref (ad g 73)), (2, .int (0 : Int32))]) [1, 0] rfl ?_
      refine sX8_form_L84     fuel (0 : Int32) σ11 hr hσ11
    replace hr := ite_f hc hr
    refine r_aload_n (pc := 57) (j := 0) dX8_form_57 rfl rfl ?_
    refine r_iconst (pc := 58) (v := (1 : Int32)) dX8_form_58 rfl ?_
    refine r_aload_n (pc := 59) (j := 0) dX8_form_59 rfl rfl ?_
    refine gf8_11 (pc := 60) tw_5_105 rfl dX8_form_60 ?_
    refine r_isub (pc := 63) dX8_form_63 ?_
    refine pf8_11 (pc := 64) tw_5_105 rfl dX8_form_64 fun σ15 eσ15 => ?_
    replace hr := vthen_inv hr σ15 eσ15
    have hσ15 := wtI eσ15 hσ9
    refine r_aload_n (pc := 67) (j := 0) dX8_form_67 rfl rfl ?_
    refine gf8_4 (pc := 68) tw_5_98 rfl dX8_form_68 ?_
    exact l_osi hr (r_iret (pc := 71) (v := (gI σ15 73 4)) rfl rfl ⟨Nat.le_refl _, Nat.le_refl _⟩ dX8_form_71)
  replace hr := ite_f hc hr
  refine r_iconst (pc := 19) (v := (-1 : Int32)) dX8_form_19 rfl ?_
  exact l_osi hr (r_iret (pc := 20) (v := (-1 : Int32)) rfl rfl ⟨Nat.le_refl _, Nat.le_refl _⟩ dX8_form_20)

theorem kX8_form {g : GG} {σ : SS} {a1 : Int32} {v : Int32} {σ2 : SS} {M : MM} {F : State → Array Value → List Frame → State → Prop} {pc index : Nat} {ls : List (Nat × Value)} {rest : List Value} (hf : fX8_form σ a1 = some (v, σ2))  (hl : Cond.methodLink M.1.cls index yX8_form ∈ lw_gt) (hR : mX8_form.2.2.2.2.frames + 1 ≤ M.2.2.2.2.frames ∧ 8 + (mX8_form.2.2.1 + 11) + mX8_form.2.2.2.2.locals ≤ M.2.2.2.2.locals) (hrest : (rest.map fun v => v.category).sum ≤ 8) (hd : decode M.2.1 pc = .ok (.invokevirtual index, 3)) (k : WT σ2 → RR g M F zF (pc + 3) ls (.int v :: rest) σ2) : RR g M F zF pc ls (.int a1 :: .ref (ad g 73) :: rest) σ :=
  r_callV (N := mX8_form) (nn := 1) (o1 := some (.int v)) (sX8_form hf ) (rfl : shp 73 = (8, 0)) (by decide) (shp_le (rfl : shp 73 = (8, 0)) (nle rfl)) (ci := 8) rfl rfl tw_6_64 tw_1_10 hl tw_6_62 tw_6_63 ⟨by decide, by decide, rfl⟩ hR rfl hrest hd ⟨Nat.zero_le _, Nat.zero_le _⟩ rfl (fun h => k (h rfl))

theorem dX6_notBelow_0 : decode cX6_notBelow 0 = .ok (.iconst 0, 1) := by decide +kernel
theorem dX6_notBelow_1 : decode cX6_notBelow 1 = .ok (.istore_n 2, 1) := by decide +kernel
theorem dX6_notBelow_2 : decode cX6_notBelow 2 = .ok (.iconst 0, 1) := by decide +kernel
theorem dX6_notBelow_3 : decode cX6_notBelow 3 = .ok (.istore_n 3, 1) := by decide +kernel
theorem dX6_notBelow_4 : decode cX6_notBelow 4 = .ok (.iload_n 3, 1) := by decide +kernel
theorem dX6_notBelow_5 : decode cX6_notBelow 5 = .ok (.aload_n 0, 1) := by decide +kernel
theorem dX6_notBelow_6 : decode cX6_notBelow 6 = .ok (.getfield 18, 3) := by decide +kernel
theorem dX6_notBelow_9 : decode cX6_notBelow 9 = .ok (.aload_n 0, 1) := by decide +kernel
theorem dX6_notBelow_10 : decode cX6_notBelow 10 = .ok (.getfield 22, 3) := by decide +kernel
theorem dX6_notBelow_13 : decode cX6_notBelow 13 = .ok (.imul, 1) := by decide +kernel
theorem dX6_notBelow_14 : decode cX6_notBelow 14 = .ok (.if_icmp .ge 22, 3) := by decide +kernel
theorem dX6_notBelow_17 : decode cX6_notBelow 17 = .ok (.aload_n 0, 1) := by decide +kernel
theorem dX6_notBelow_18 : decode cX6_notBelow 18 = .ok (.getfield 9, 3) := by decide +kernel
theorem dX6_notBelow_21 : decode cX6_notBelow 21 = .ok (.iload_n 3, 1) := by decide +kernel
theorem dX6_notBelow_22 : decode cX6_notBelow 22 = .ok (.iaload, 1) := by decide +kernel
theorem dX6_notBelow_23 : decode cX6_notBelow 23 = .ok (.iload_n 1, 1) := by decide +kernel
theorem dX6_notBelow_24 : decode cX6_notBelow 24 = .ok (.if_icmp .lt 6, 3) := by decide +kernel
theorem dX6_notBelow_27 : decode cX6_notBelow 27 = .ok (.iinc 2 1, 3) := by decide +kernel
theorem dX6_notBelow_30 : decode cX6_notBelow 30 = .ok (.iinc 3 1, 3) := by decide +kernel
theorem dX6_notBelow_33 : decode cX6_notBelow 33 = .ok (.goto (-29), 3) := by decide +kernel
theorem dX6_notBelow_36 : decode cX6_notBelow 36 = .ok (.iload_n 2, 1) := by decide +kernel
theorem dX6_notBelow_37 : decode cX6_notBelow 37 = .ok (.ireturn, 1) := by decide +kernel
def mX6_notBelow : MM := (yX6_notBelow, cX6_notBelow, 4, Option.some Jvm.ClassFile.FieldType.int, { frames := 0, cells := 0, slots := 0, locals := 0 })
def X6_notBelow_L4 (σ_ : SS) (o0_ : Nat) (u1_ : Int32)  : Nat → Int32 → Int32 → Option Int32 :=
  lp (fun _ _ => none) fun rec v2_ v3_ =>
    if ((gI σ_ o0_ 0) * (gI σ_ o0_ 1)) ≤ v3_ then (
      some v2_
      ) else (
      grd (inb v3_ 1600) <|
      if (gI σ_ (o0_ + 1) (Int32.toNatClampNeg v3_)) < u1_ then (
        rec v2_ (v3_ + (1 : Int32))
        ) else (
        rec (v2_ + (1 : Int32)) (v3_ + (1 : Int32))
        )
      )

def fX6_notBelow (σ0 : SS) (a0 : Nat) (a1 : Int32) : Option Int32 :=
  X6_notBelow_L4 σ0 a0 a1
  fuel (0 : Int32) (0 : Int32)

set_option maxRecDepth 20000 in
theorem sX6_notBelow_L4 {g : GG} {r : Int32} {σ_ : SS} {σ0 : SS} {o0_ : Nat} {u1_ : Int32}  (hs0_ : shp o0_ = (6, 0))
    (hw_ : WT σ_)
    (h0_ : σ_ = σ0)
    (n : Nat) : ∀ (v2_ : Int32) (v3_ : Int32), X6_notBelow_L4 σ_ o0_ u1_ n v2_ v3_ = some r → RR g mX6_notBelow (FinR g mX6_notBelow (some (.int r)) NF σ0) zF 4 [(0, .ref (ad g o0_)), (1, .int u1_), (2, .int v2_), (3, .int v3_)] [] σ_ := by
  unfold X6_notBelow_L4
  refine lp_ind (P := fun (rec : Int32 → Int32 → Option Int32) => ∀ (v2_ : Int32) (v3_ : Int32), rec v2_ v3_ = some r → RR g mX6_notBelow (FinR g mX6_notBelow (some (.int r)) NF σ0) zF 4 [(0, .ref (ad g o0_)), (1, .int u1_), (2, .int v2_), (3, .int v3_)] [] σ_) ?_ ?_ n
  · intro v2_ v3_ hr; cases hr
  intro rec ih v2_ v3_ hr
  subst h0_
  refine r_iload_n (pc := 4) (j := 3) dX6_notBelow_4 rfl rfl ?_
  refine r_aload_n (pc := 5) (j := 0) dX6_notBelow_5 rfl rfl ?_
  refine gf6_0 (pc := 6) tw_1_32 hs0_ dX6_notBelow_6 ?_
  refine r_aload_n (pc := 9) (j := 0) dX6_notBelow_9 rfl rfl ?_
  refine gf6_1 (pc := 10) tw_1_37 hs0_ dX6_notBelow_10 ?_
  refine r_imul (pc := 13) dX6_notBelow_13 ?_
  refine r_icmp_ge (pc := 14) (tgt := 36) dX6_notBelow_14 rfl (fun hc => ?_) (fun hc => ?_)
  · replace hr := ite_t hc hr
    refine r_iload_n (pc := 36) (j := 2) dX6_notBelow_36 rfl rfl ?_
    exact l_opi hr (r_iret (pc := 37) (v := v2_) rfl rfl ⟨Nat.le_refl _, Nat.le_refl _⟩ dX6_notBelow_37)
  replace hr := ite_f hc hr
  refine r_aload_n (pc := 17) (j := 0) dX6_notBelow_17 rfl rfl ?_
  refine gf6_2 (pc := 18) tw_1_39 hw_ hs0_ dX6_notBelow_18 ?_
  refine r_iload_n (pc := 21) (j := 3) dX6_notBelow_21 rfl rfl ?_
  obtain ⟨h1, hr⟩ := grd_inv hr
  refine x_iald (pc := 22) (k := (Int32.toNatClampNeg v3_)) (sh6_2 hs0_) h1 rfl dX6_notBelow_22 ?_
  refine r_iload_n (pc := 23) (j := 1) dX6_notBelow_23 rfl rfl ?_
  refine r_icmp_lt (pc := 24) (tgt := 30) dX6_notBelow_24 rfl (fun hc => ?_) (fun hc => ?_)
  · replace hr := ite_t hc hr
    refine r_iinc (pc := 30) (j := 3) (v := (v3_ + (1 : Int32))) (ls1 := [(3, .int (v3_ + (1 : Int32))), (0, .ref (ad g o0_)), (1, .int u1_), (2, .int v2_)]) dX6_notBelow_30 rfl rfl (nle rfl) rfl ?_
    refine r_goto (pc := 33) (tgt := 4) dX6_notBelow_33 rfl ?_
    exact r_pick (ls1 := [(0, .ref (ad g o0_)), (1, .int u1_), (2, .int v2_), (3, .int (v3_ + (1 : Int32)))]) [1, 2, 3, 0] rfl (ih v2_ (v3_ + (1 : Int32)) hr)
  replace hr := ite_f hc hr
  refine r_iinc (pc := 27) (j := 2) (v := (v2_ + (1 : Int32))) (ls1 := [(2, .int (v2_ + (1 : Int32))), (0, .ref (ad g o0_)), (1, .int u1_), (3, .int v3_)]) dX6_notBelow_27 rfl rfl (nle rfl) rfl ?_
  refine r_iinc (pc := 30) (j := 3) (v := (v3_ + (1 : Int32))) (ls1 := [(3, .int (v3_ + (1 : Int32))), (2, .int (v2_ + (1 : Int32))), (0, .ref (ad g o0_)), (1, .int u1_)]) dX6_notBelow_30 rfl rfl (nle rfl) rfl ?_
  refine r_goto (pc := 33) (tgt := 4) dX6_notBelow_33 rfl ?_
  exact r_pick (ls1 := [(0, .ref (ad g o0_)), (1, .int u1_), (2, .int (v2_ + (1 : Int32))), (3, .int (v3_ + (1 : Int32)))]) [2, 3, 1, 0] rfl (ih (v2_ + (1 : Int32)) (v3_ + (1 : Int32)) hr)

set_option maxRecDepth 20000 in
theorem sX6_notBelow {g : GG} {σ0 : SS} {a0 : Nat} {a1 : Int32} {r : Int32} (hr : fX6_notBelow σ0 a0 a1 = some r) (hs0 : shp a0 = (6, 0)) : Ct g mX6_notBelow [.ref (ad g a0), .int a1] NF σ0 (some (.int r)) NF σ0 := by
  refine Ct.of (by decide +kernel) (nle rfl) fun hw0 => ?_
  have hw := hw0 rfl
  unfold fX6_notBelow at hr
  change RR g mX6_notBelow (FinR g mX6_notBelow (some (.int r)) NF σ0) zF 0 [(0, .ref (ad g a0)), (1, .int a1)] [] σ0
  refine r_iconst (pc := 0) (v := (0 : Int32)) dX6_notBelow_0 rfl ?_
  refine r_istore_n (pc := 1) (ls1 := [(2, .int (0 : Int32)), (0, .ref (ad g a0)), (1, .int a1)]) dX6_notBelow_1 rfl (nle rfl) rfl ?_
  refine r_iconst (pc := 2) (v := (0 : Int32)) dX6_notBelow_2 rfl ?_
  refine r_istore_n (pc := 3) (ls1 := [(3, .int (0 : Int32)), (2, .int (0 : Int32)), (0, .ref (ad g a0)), (1, .int a1)]) dX6_notBelow_3 rfl (nle rfl) rfl ?_
  refine r_pick (ls1 := [(0, .ref (ad g a0)), (1, .int a1), (2, .int (0 : Int32)), (3, .int (0 : Int32))]) [2, 3, 1, 0] rfl ?_
  refine sX6_notBelow_L4 hs0 hw rfl  fuel (0 : Int32) (0 : Int32) hr

theorem kX6_notBelow {g : GG} {σ0 : SS} {a0 : Nat} {a1 : Int32} {v : Int32} {M : MM} {F : State → Array Value → List Frame → State → Prop} {pc index : Nat} {ls : List (Nat × Value)} {rest : List Value} (hf : fX6_notBelow σ0 a0 a1 = some v) (hs0 : shp a0 = (6, 0)) (hl : Cond.methodLink M.1.cls index yX6_notBelow ∈ lw_gt) (hR : mX6_notBelow.2.2.2.2.frames + 1 ≤ M.2.2.2.2.frames ∧ 8 + (mX6_notBelow.2.2.1 + 11) + mX6_notBelow.2.2.2.2.locals ≤ M.2.2.2.2.locals) (hrest : (rest.map fun v => v.category).sum ≤ 8) (hd : decode M.2.1 pc = .ok (.invokevirtual index, 3)) (k : RR g M F zF (pc + 3) ls (.int v :: rest) σ0) : RR g M F zF pc ls (.int a1 :: .ref (ad g a0) :: rest) σ0 :=
  r_callV (N := mX6_notBelow) (nn := 1) (o1 := some (.int v)) (sX6_notBelow hf hs0) hs0 (by decide) (shp_le hs0 (nle rfl)) (ci := 6) rfl rfl tw_3_78 tw_1_2 hl tw_3_76 tw_3_77 ⟨by decide, by decide, rfl⟩ hR rfl hrest hd ⟨Nat.zero_le _, Nat.zero_le _⟩ rfl (fun h => k)

theorem dX6_sumNotBelow_0 : decode cX6_sumNotBelow 0 = .ok (.iconst 0, 1) := by decide +kernel
theorem dX6_sumNotBelow_1 : decode cX6_sumNotBelow 1 = .ok (.istore_n 2, 1) := by decide +kernel
theorem dX6_sumNotBelow_2 : decode cX6_sumNotBelow 2 = .ok (.iconst 0, 1) := by decide +kernel
theorem dX6_sumNotBelow_3 : decode cX6_sumNotBelow 3 = .ok (.istore_n 3, 1) := by decide +kernel
theorem dX6_sumNotBelow_4 : decode cX6_sumNotBelow 4 = .ok (.iload_n 3, 1) := by decide +kernel
theorem dX6_sumNotBelow_5 : decode cX6_sumNotBelow 5 = .ok (.aload_n 0, 1) := by decide +kernel
theorem dX6_sumNotBelow_6 : decode cX6_sumNotBelow 6 = .ok (.getfield 18, 3) := by decide +kernel
theorem dX6_sumNotBelow_9 : decode cX6_sumNotBelow 9 = .ok (.aload_n 0, 1) := by decide +kernel
theorem dX6_sumNotBelow_10 : decode cX6_sumNotBelow 10 = .ok (.getfield 22, 3) := by decide +kernel
theorem dX6_sumNotBelow_13 : decode cX6_sumNotBelow 13 = .ok (.imul, 1) := by decide +kernel
theorem dX6_sumNotBelow_14 : decode cX6_sumNotBelow 14 = .ok (.if_icmp .ge 28, 3) := by decide +kernel
theorem dX6_sumNotBelow_17 : decode cX6_sumNotBelow 17 = .ok (.aload_n 0, 1) := by decide +kernel
theorem dX6_sumNotBelow_18 : decode cX6_sumNotBelow 18 = .ok (.getfield 9, 3) := by decide +kernel
theorem dX6_sumNotBelow_21 : decode cX6_sumNotBelow 21 = .ok (.iload_n 3, 1) := by decide +kernel
theorem dX6_sumNotBelow_22 : decode cX6_sumNotBelow 22 = .ok (.iaload, 1) := by decide +kernel
theorem dX6_sumNotBelow_23 : decode cX6_sumNotBelow 23 = .ok (.iload_n 1, 1) := by decide +kernel
theorem dX6_sumNotBelow_24 : decode cX6_sumNotBelow 24 = .ok (.if_icmp .lt 12, 3) := by decide +kernel
theorem dX6_sumNotBelow_27 : decode cX6_sumNotBelow 27 = .ok (.iload_n 2, 1) := by decide +kernel
theorem dX6_sumNotBelow_28 : decode cX6_sumNotBelow 28 = .ok (.aload_n 0, 1) := by decide +kernel
theorem dX6_sumNotBelow_29 : decode cX6_sumNotBelow 29 = .ok (.getfield 9, 3) := by decide +kernel
theorem dX6_sumNotBelow_32 : decode cX6_sumNotBelow 32 = .ok (.iload_n 3, 1) := by decide +kernel
theorem dX6_sumNotBelow_33 : decode cX6_sumNotBelow 33 = .ok (.iaload, 1) := by decide +kernel
theorem dX6_sumNotBelow_34 : decode cX6_sumNotBelow 34 = .ok (.iadd, 1) := by decide +kernel
theorem dX6_sumNotBelow_35 : decode cX6_sumNotBelow 35 = .ok (.istore_n 2, 1) := by decide +kernel
theorem dX6_sumNotBelow_36 : decode cX6_sumNotBelow 36 = .ok (.iinc 3 1, 3) := by decide +kernel
theorem dX6_sumNotBelow_39 : decode cX6_sumNotBelow 39 = .ok (.goto (-35), 3) := by decide +kernel
theorem dX6_sumNotBelow_42 : decode cX6_sumNotBelow 42 = .ok (.iload_n 2, 1) := by decide +kernel
theorem dX6_sumNotBelow_43 : decode cX6_sumNotBelow 43 = .ok (.ireturn, 1) := by decide +kernel
def mX6_sumNotBelow : MM := (yX6_sumNotBelow, cX6_sumNotBelow, 4, Option.some Jvm.ClassFile.FieldType.int, { frames := 0, cells := 0, slots := 0, locals := 0 })
def X6_sumNotBelow_L4 (σ_ : SS) (o0_ : Nat) (u1_ : Int32)  : Nat → Int32 → Int32 → Option Int32 :=
  lp (fun _ _ => none) fun rec v2_ v3_ =>
    if ((gI σ_ o0_ 0) * (gI σ_ o0_ 1)) ≤ v3_ then (
      some v2_
      ) else (
      grd (inb v3_ 1600) <|
      if (gI σ_ (o0_ + 1) (Int32.toNatClampNeg v3_)) < u1_ then (
        rec v2_ (v3_ + (1 : Int32))
        ) else (
        vthen (v2_ + (gI σ_ (o0_ + 1) (Int32.toNatClampNeg v3_))) fun v2 =>
        rec v2 (v3_ + (1 : Int32))
        )
      )

def fX6_sumNotBelow (σ0 : SS) (a0 : Nat) (a1 : Int32) : Option Int32 :=
  X6_sumNotBelow_L4 σ0 a0 a1
  fuel (0 : Int32) (0 : Int32)

set_option maxRecDepth 20000 in
theorem sX6_sumNotBelow_L4 {g : GG} {r : Int32} {σ_ : SS} {σ0 : SS} {o0_ : Nat} {u1_ : Int32}  (hs0_ : shp o0_ = (6, 0))
    (hw_ : WT σ_)
    (h0_ : σ_ = σ0)
    (n : Nat) : ∀ (v2_ : Int32) (v3_ : Int32), X6_sumNotBelow_L4 σ_ o0_ u1_ n v2_ v3_ = some r → RR g mX6_sumNotBelow (FinR g mX6_sumNotBelow (some (.int r)) NF σ0) zF 4 [(0, .ref (ad g o0_)), (1, .int u1_), (2, .int v2_), (3, .int v3_)] [] σ_ := by
  unfold X6_sumNotBelow_L4
  refine lp_ind (P := fun (rec : Int32 → Int32 → Option Int32) => ∀ (v2_ : Int32) (v3_ : Int32), rec v2_ v3_ = some r → RR g mX6_sumNotBelow (FinR g mX6_sumNotBelow (some (.int r)) NF σ0) zF 4 [(0, .ref (ad g o0_)), (1, .int u1_), (2, .int v2_), (3, .int v3_)] [] σ_) ?_ ?_ n
  · intro v2_ v3_ hr; cases hr
  intro rec ih v2_ v3_ hr
  subst h0_
  refine r_iload_n (pc := 4) (j := 3) dX6_sumNotBelow_4 rfl rfl ?_
  refine r_aload_n (pc := 5) (j := 0) dX6_sumNotBelow_5 rfl rfl ?_
  refine gf6_0 (pc := 6) tw_1_32 hs0_ dX6_sumNotBelow_6 ?_
  refine r_aload_n (pc := 9) (j := 0) dX6_sumNotBelow_9 rfl rfl ?_
  refine gf6_1 (pc := 10) tw_1_37 hs0_ dX6_sumNotBelow_10 ?_
  refine r_imul (pc := 13) dX6_sumNotBelow_13 ?_
  refine r_icmp_ge (pc := 14) (tgt := 42) dX6_sumNotBelow_14 rfl (fun hc => ?_) (fun hc => ?_)
  · replace hr := ite_t hc hr
    refine r_iload_n (pc := 42) (j := 2) dX6_sumNotBelow_42 rfl rfl ?_
    exact l_opi hr (r_iret (pc := 43) (v := v2_) rfl rfl ⟨Nat.le_refl _, Nat.le_refl _⟩ dX6_sumNotBelow_43)
  replace hr := ite_f hc hr
  refine r_aload_n (pc := 17) (j := 0) dX6_sumNotBelow_17 rfl rfl ?_
  refine gf6_2 (pc := 18) tw_1_39 hw_ hs0_ dX6_sumNotBelow_18 ?_
  refine r_iload_n (pc := 21) (j := 3) dX6_sumNotBelow_21 rfl rfl ?_
  obtain ⟨h1, hr⟩ := grd_inv hr
  refine x_iald (pc := 22) (k := (Int32.toNatClampNeg v3_)) (sh6_2 hs0_) h1 rfl dX6_sumNotBelow_22 ?_
  refine r_iload_n (pc := 23) (j := 1) dX6_sumNotBelow_23 rfl rfl ?_
  refine r_icmp_lt (pc := 24) (tgt := 36) dX6_sumNotBelow_24 rfl (fun hc => ?_) (fun hc => ?_)
  · replace hr := ite_t hc hr
    refine r_iinc (pc := 36) (j := 3) (v := (v3_ + (1 : Int32))) (ls1 := [(3, .int (v3_ + (1 : Int32))), (0, .ref (ad g o0_)), (1, .int u1_), (2, .int v2_)]) dX6_sumNotBelow_36 rfl rfl (nle rfl) rfl ?_
    refine r_goto (pc := 39) (tgt := 4) dX6_sumNotBelow_39 rfl ?_
    exact r_pick (ls1 := [(0, .ref (ad g o0_)), (1, .int u1_), (2, .int v2_), (3, .int (v3_ + (1 : Int32)))]) [1, 2, 3, 0] rfl (ih v2_ (v3_ + (1 : Int32)) hr)
  replace hr := ite_f hc hr
  refine r_iload_n (pc := 27) (j := 2) dX6_sumNotBelow_27 rfl rfl ?_
  refine r_aload_n (pc := 28) (j := 0) dX6_sumNotBelow_28 rfl rfl ?_
  refine gf6_2 (pc := 29) tw_1_39 hw_ hs0_ dX6_sumNotBelow_29 ?_
  refine r_iload_n (pc := 32) (j := 3) dX6_sumNotBelow_32 rfl rfl ?_
  refine x_iald (pc := 33) (k := (Int32.toNatClampNeg v3_)) (sh6_2 hs0_) h1 rfl dX6_sumNotBelow_33 ?_
  refine r_iadd (pc := 34) dX6_sumNotBelow_34 ?_
  refine r_topi fun v2 ev2 => ?_
  replace hr := vthen_inv hr v2 ev2
  refine r_istore_n (pc := 35) (ls1 := [(2, .int v2), (0, .ref (ad g o0_)), (1, .int u1_), (3, .int v3_)]) dX6_sumNotBelow_35 rfl (nle rfl) rfl ?_
  refine r_iinc (pc := 36) (j := 3) (v := (v3_ + (1 : Int32))) (ls1 := [(3, .int (v3_ + (1 : Int32))), (2, .int v2), (0, .ref (ad g o0_)), (1, .int u1_)]) dX6_sumNotBelow_36 rfl rfl (nle rfl) rfl ?_
  refine r_goto (pc := 39) (tgt := 4) dX6_sumNotBelow_39 rfl ?_
  exact r_pick (ls1 := [(0, .ref (ad g o0_)), (1, .int u1_), (2, .int v2), (3, .int (v3_ + (1 : Int32)))]) [2, 3, 1, 0] rfl (ih v2 (v3_ + (1 : Int32)) hr)

set_option maxRecDepth 20000 in
theorem sX6_sumNotBelow {g : GG} {σ0 : SS} {a0 : Nat} {a1 : Int32} {r : Int32} (hr : fX6_sumNotBelow σ0 a0 a1 = some r) (hs0 : shp a0 = (6, 0)) : Ct g mX6_sumNotBelow [.ref (ad g a0), .int a1] NF σ0 (some (.int r)) NF σ0 := by
  refine Ct.of (by decide +kernel) (nle rfl) fun hw0 => ?_
  have hw := hw0 rfl
  unfold fX6_sumNotBelow at hr
  change RR g mX6_sumNotBelow (FinR g mX6_sumNotBelow (some (.int r)) NF σ0) zF 0 [(0, .ref (ad g a0)), (1, .int a1)] [] σ0
  refine r_iconst (pc := 0) (v := (0 : Int32)) dX6_sumNotBelow_0 rfl ?_
  refine r_istore_n (pc := 1) (ls1 := [(2, .int (0 : Int32)), (0, .ref (ad g a0)), (1, .int a1)]) dX6_sumNotBelow_1 rfl (nle rfl) rfl ?_
  refine r_iconst (pc := 2) (v := (0 : Int32)) dX6_sumNotBelow_2 rfl ?_
  refine r_istore_n (pc := 3) (ls1 := [(3, .int (0 : Int32)), (2, .int (0 : Int32)), (0, .ref (ad g a0)), (1, .int a1)]) dX6_sumNotBelow_3 rfl (nle rfl) rfl ?_
  refine r_pick (ls1 := [(0, .ref (ad g a0)), (1, .int a1), (2, .int (0 : Int32)), (3, .int (0 : Int32))]) [2, 3, 1, 0] rfl ?_
  refine sX6_sumNotBelow_L4 hs0 hw rfl  fuel (0 : Int32) (0 : Int32) hr

theorem kX6_sumNotBelow {g : GG} {σ0 : SS} {a0 : Nat} {a1 : Int32} {v : Int32} {M : MM} {F : State → Array Value → List Frame → State → Prop} {pc index : Nat} {ls : List (Nat × Value)} {rest : List Value} (hf : fX6_sumNotBelow σ0 a0 a1 = some v) (hs0 : shp a0 = (6, 0)) (hl : Cond.methodLink M.1.cls index yX6_sumNotBelow ∈ lw_gt) (hR : mX6_sumNotBelow.2.2.2.2.frames + 1 ≤ M.2.2.2.2.frames ∧ 8 + (mX6_sumNotBelow.2.2.1 + 11) + mX6_sumNotBelow.2.2.2.2.locals ≤ M.2.2.2.2.locals) (hrest : (rest.map fun v => v.category).sum ≤ 8) (hd : decode M.2.1 pc = .ok (.invokevirtual index, 3)) (k : RR g M F zF (pc + 3) ls (.int v :: rest) σ0) : RR g M F zF pc ls (.int a1 :: .ref (ad g a0) :: rest) σ0 :=
  r_callV (N := mX6_sumNotBelow) (nn := 1) (o1 := some (.int v)) (sX6_sumNotBelow hf hs0) hs0 (by decide) (shp_le hs0 (nle rfl)) (ci := 6) rfl rfl tw_3_82 tw_1_2 hl tw_3_80 tw_3_81 ⟨by decide, by decide, rfl⟩ hR rfl hrest hd ⟨Nat.zero_le _, Nat.zero_le _⟩ rfl (fun h => k)

theorem dX7_count_0 : decode cX7_count 0 = .ok (.iload_n 1, 1) := by decide +kernel
theorem dX7_count_1 : decode cX7_count 1 = .ok (.tableswitch 151 0 10 #[59, 67, 75, 83, 91, 99, 107, 112, 117, 125, 142], 59) := by decide +kernel
theorem dX7_count_60 : decode cX7_count 60 = .ok (.aload_n 0, 1) := by decide +kernel
theorem dX7_count_61 : decode cX7_count 61 = .ok (.getfield 18, 3) := by decide +kernel
theorem dX7_count_64 : decode cX7_count 64 = .ok (.getfield 100, 3) := by decide +kernel
theorem dX7_count_67 : decode cX7_count 67 = .ok (.ireturn, 1) := by decide +kernel
theorem dX7_count_68 : decode cX7_count 68 = .ok (.aload_n 0, 1) := by decide +kernel
theorem dX7_count_69 : decode cX7_count 69 = .ok (.getfield 18, 3) := by decide +kernel
theorem dX7_count_72 : decode cX7_count 72 = .ok (.getfield 103, 3) := by decide +kernel
theorem dX7_count_75 : decode cX7_count 75 = .ok (.ireturn, 1) := by decide +kernel
theorem dX7_count_76 : decode cX7_count 76 = .ok (.aload_n 0, 1) := by decide +kernel
theorem dX7_count_77 : decode cX7_count 77 = .ok (.getfield 32, 3) := by decide +kernel
theorem dX7_count_80 : decode cX7_count 80 = .ok (.getfield 97, 3) := by decide +kernel
theorem dX7_count_83 : decode cX7_count 83 = .ok (.ireturn, 1) := by decide +kernel
theorem dX7_count_84 : decode cX7_count 84 = .ok (.aload_n 0, 1) := by decide +kernel
theorem dX7_count_85 : decode cX7_count 85 = .ok (.getfield 32, 3) := by decide +kernel
theorem dX7_count_88 : decode cX7_count 88 = .ok (.getfield 106, 3) := by decide +kernel
theorem dX7_count_91 : decode cX7_count 91 = .ok (.ireturn, 1) := by decide +kernel
theorem dX7_count_92 : decode cX7_count 92 = .ok (.aload_n 0, 1) := by decide +kernel
theorem dX7_count_93 : decode cX7_count 93 = .ok (.getfield 32, 3) := by decide +kernel
theorem dX7_count_96 : decode cX7_count 96 = .ok (.getfield 109, 3) := by decide +kernel
theorem dX7_count_99 : decode cX7_count 99 = .ok (.ireturn, 1) := by decide +kernel
theorem dX7_count_100 : decode cX7_count 100 = .ok (.aload_n 0, 1) := by decide +kernel
theorem dX7_count_101 : decode cX7_count 101 = .ok (.getfield 32, 3) := by decide +kernel
theorem dX7_count_104 : decode cX7_count 104 = .ok (.getfield 110, 3) := by decide +kernel
theorem dX7_count_107 : decode cX7_count 107 = .ok (.ireturn, 1) := by decide +kernel
theorem dX7_count_108 : decode cX7_count 108 = .ok (.aload_n 0, 1) := by decide +kernel
theorem dX7_count_109 : decode cX7_count 109 = .ok (.getfield 77, 3) := by decide +kernel
theorem dX7_count_112 : decode cX7_count 112 = .ok (.ireturn, 1) := by decide +kernel
theorem dX7_count_113 : decode cX7_count 113 = .ok (.aload_n 0, 1) := by decide +kernel
theorem dX7_count_114 : decode cX7_count 114 = .ok (.getfield 46, 3) := by decide +kernel
theorem dX7_count_117 : decode cX7_count 117 = .ok (.ireturn, 1) := by decide +kernel
theorem dX7_count_118 : decode cX7_count 118 = .ok (.aload_n 0, 1) := by decide +kernel
theorem dX7_count_119 : decode cX7_count 119 = .ok (.getfield 69, 3) := by decide +kernel
theorem dX7_count_122 : decode cX7_count 122 = .ok (.getfield 94, 3) := by decide +kernel
theorem dX7_count_125 : decode cX7_count 125 = .ok (.ireturn, 1) := by decide +kernel
theorem dX7_count_126 : decode cX7_count 126 = .ok (.aload_n 0, 1) := by decide +kernel
theorem dX7_count_127 : decode cX7_count 127 = .ok (.getfield 18, 3) := by decide +kernel
theorem dX7_count_130 : decode cX7_count 130 = .ok (.aload_n 0, 1) := by decide +kernel
theorem dX7_count_131 : decode cX7_count 131 = .ok (.getfield 62, 3) := by decide +kernel
theorem dX7_count_134 : decode cX7_count 134 = .ok (.getfield 111, 3) := by decide +kernel
theorem dX7_count_137 : decode cX7_count 137 = .ok (.iconst 0, 1) := by decide +kernel
theorem dX7_count_138 : decode cX7_count 138 = .ok (.iaload, 1) := by decide +kernel
theorem dX7_count_139 : decode cX7_count 139 = .ok (.invokevirtual 114, 3) := by decide +kernel
theorem dX7_count_142 : decode cX7_count 142 = .ok (.ireturn, 1) := by decide +kernel
theorem dX7_count_143 : decode cX7_count 143 = .ok (.aload_n 0, 1) := by decide +kernel
theorem dX7_count_144 : decode cX7_count 144 = .ok (.getfield 18, 3) := by decide +kernel
theorem dX7_count_147 : decode cX7_count 147 = .ok (.iconst 0, 1) := by decide +kernel
theorem dX7_count_148 : decode cX7_count 148 = .ok (.invokevirtual 118, 3) := by decide +kernel
theorem dX7_count_151 : decode cX7_count 151 = .ok (.ireturn, 1) := by decide +kernel
theorem dX7_count_152 : decode cX7_count 152 = .ok (.iconst (-1), 1) := by decide +kernel
theorem dX7_count_153 : decode cX7_count 153 = .ok (.ireturn, 1) := by decide +kernel
def mX7_count : MM := (yX7_count, cX7_count, 2, Option.some Jvm.ClassFile.FieldType.int, { frames := 1, cells := 0, slots := 0, locals := 23 })
def fX7_count (σ0 : SS) (a1 : Int32) : Option Int32 :=
  if a1 = (0 : Int32) then (
    some (gI σ0 (gR σ0 1 2) 0)
    ) else
  if a1 = (1 : Int32) then (
    some (gI σ0 (gR σ0 1 2) 1)
    ) else
  if a1 = (2 : Int32) then (
    some (gI σ0 (gR σ0 1 5) 5)
    ) else
  if a1 = (3 : Int32) then (
    some (gI σ0 (gR σ0 1 5) 6)
    ) else
  if a1 = (4 : Int32) then (
    some (gI σ0 (gR σ0 1 5) 1)
    ) else
  if a1 = (5 : Int32) then (
    some (gI σ0 (gR σ0 1 5) 2)
    ) else
  if a1 = (6 : Int32) then (
    some (gI σ0 1 1)
    ) else
  if a1 = (7 : Int32) then (
    some (gI σ0 1 8)
    ) else
  if a1 = (8 : Int32) then (
    some (gI σ0 58 0)
    ) else
  if a1 = (9 : Int32) then (
    bnd1 (fX6_notBelow σ0 (gR σ0 1 2) (gI σ0 32 0)) fun v1 =>
    some v1
    ) else
  if a1 = (10 : Int32) then (
    bnd1 (fX6_sumNotBelow σ0 (gR σ0 1 2) (0 : Int32)) fun v4 =>
    some v4
    ) else
  some (-1 : Int32)

set_option maxRecDepth 20000 in
theorem sX7_count {g : GG} {σ0 : SS} {a1 : Int32} {r : Int32} (hr : fX7_count σ0 a1 = some r)  : Ct g mX7_count [.ref (ad g 1), .int a1] NF σ0 (some (.int r)) NF σ0 := by
  refine Ct.of (by decide +kernel) (nle rfl) fun hw0 => ?_
  have hw := hw0 rfl
  unfold fX7_count at hr
  change RR g mX7_count (FinR g mX7_count (some (.int r)) NF σ0) zF 0 [(0, .ref (ad g 1)), (1, .int a1)] [] σ0
  refine r_iload_n (pc := 0) (j := 1) dX7_count_0 rfl rfl ?_
  by_cases hc0 : a1 = (0 : Int32)
  · replace hr := ite_t hc0 hr
    refine r_tabIn (pc := 1) (off := 59) (tgt := 60) dX7_count_1 (by rw [hc0]; decide) (by rw [hc0]; decide) (by rw [hc0]; rfl) rfl ?_
    refine r_aload_n (pc := 60) (j := 0) dX7_count_60 rfl rfl ?_
    refine gf7_2 (pc := 61) tw_2_111 hw dX7_count_61 ?_
    refine gf6_0 (pc := 64) tw_1_35 (wt_sc hw).1 dX7_count_64 ?_
    exact l_opi hr (r_iret (pc := 67) (v := (gI σ0 (gR σ0 1 2) 0)) rfl rfl ⟨Nat.le_refl _, Nat.le_refl _⟩ dX7_count_67)
  replace hr := ite_f hc0 hr
  by_cases hc1 : a1 = (1 : Int32)
  · replace hr := ite_t hc1 hr
    refine r_tabIn (pc := 1) (off := 67) (tgt := 68) dX7_count_1 (by rw [hc1]; decide) (by rw [hc1]; decide) (by rw [hc1]; rfl) rfl ?_
    refine r_aload_n (pc := 68) (j := 0) dX7_count_68 rfl rfl ?_
    refine gf7_2 (pc := 69) tw_2_111 hw dX7_count_69 ?_
    refine gf6_1 (pc := 72) tw_1_38 (wt_sc hw).1 dX7_count_72 ?_
    exact l_opi hr (r_iret (pc := 75) (v := (gI σ0 (gR σ0 1 2) 1)) rfl rfl ⟨Nat.le_refl _, Nat.le_refl _⟩ dX7_count_75)
  replace hr := ite_f hc1 hr
  by_cases hc2 : a1 = (2 : Int32)
  · replace hr := ite_t hc2 hr
    refine r_tabIn (pc := 1) (off := 75) (tgt := 76) dX7_count_1 (by rw [hc2]; decide) (by rw [hc2]; decide) (by rw [hc2]; rfl) rfl ?_
    refine r_aload_n (pc := 76) (j := 0) dX7_count_76 rfl rfl ?_
    refine gf7_5 (pc := 77) tw_2_114 hw dX7_count_77 ?_
    refine gf1_5 (pc := 80) tw_1_79 (wt_fo hw).1 dX7_count_80 ?_
    exact l_opi hr (r_iret (pc := 83) (v := (gI σ0 (gR σ0 1 5) 5)) rfl rfl ⟨Nat.le_refl _, Nat.le_refl _⟩ dX7_count_83)
  replace hr := ite_f hc2 hr
  by_cases hc3 : a1 = (3 : Int32)
  · replace hr := ite_t hc3 hr
    refine r_tabIn (pc := 1) (off := 83) (tgt := 84) dX7_count_1 (by rw [hc3]; decide) (by rw [hc3]; decide) (by rw [hc3]; rfl) rfl ?_
    refine r_aload_n (pc := 84) (j := 0) dX7_count_84 rfl rfl ?_
    refine gf7_5 (pc := 85) tw_2_114 hw dX7_count_85 ?_
    refine gf1_6 (pc := 88) tw_1_84 (wt_fo hw).1 dX7_count_88 ?_
    exact l_opi hr (r_iret (pc := 91) (v := (gI σ0 (gR σ0 1 5) 6)) rfl rfl ⟨Nat.le_refl _, Nat.le_refl _⟩ dX7_count_91)
  replace hr := ite_f hc3 hr
  by_cases hc4 : a1 = (4 : Int32)
  · replace hr := ite_t hc4 hr
    refine r_tabIn (pc := 1) (off := 91) (tgt := 92) dX7_count_1 (by rw [hc4]; decide) (by rw [hc4]; decide) (by rw [hc4]; rfl) rfl ?_
    refine r_aload_n (pc := 92) (j := 0) dX7_count_92 rfl rfl ?_
    refine gf7_5 (pc := 93) tw_2_114 hw dX7_count_93 ?_
    refine gf1_1 (pc := 96) tw_1_65 (wt_fo hw).1 dX7_count_96 ?_
    exact l_opi hr (r_iret (pc := 99) (v := (gI σ0 (gR σ0 1 5) 1)) rfl rfl ⟨Nat.le_refl _, Nat.le_refl _⟩ dX7_count_99)
  replace hr := ite_f hc4 hr
  by_cases hc5 : a1 = (5 : Int32)
  · replace hr := ite_t hc5 hr
    refine r_tabIn (pc := 1) (off := 99) (tgt := 100) dX7_count_1 (by rw [hc5]; decide) (by rw [hc5]; decide) (by rw [hc5]; rfl) rfl ?_
    refine r_aload_n (pc := 100) (j := 0) dX7_count_100 rfl rfl ?_
    refine gf7_5 (pc := 101) tw_2_114 hw dX7_count_101 ?_
    refine gf1_2 (pc := 104) tw_1_69 (wt_fo hw).1 dX7_count_104 ?_
    exact l_opi hr (r_iret (pc := 107) (v := (gI σ0 (gR σ0 1 5) 2)) rfl rfl ⟨Nat.le_refl _, Nat.le_refl _⟩ dX7_count_107)
  replace hr := ite_f hc5 hr
  by_cases hc6 : a1 = (6 : Int32)
  · replace hr := ite_t hc6 hr
    refine r_tabIn (pc := 1) (off := 107) (tgt := 108) dX7_count_1 (by rw [hc6]; decide) (by rw [hc6]; decide) (by rw [hc6]; rfl) rfl ?_
    refine r_aload_n (pc := 108) (j := 0) dX7_count_108 rfl rfl ?_
    refine gf7_1 (pc := 109) tw_2_110 rfl dX7_count_109 ?_
    exact l_opi hr (r_iret (pc := 112) (v := (gI σ0 1 1)) rfl rfl ⟨Nat.le_refl _, Nat.le_refl _⟩ dX7_count_112)
  replace hr := ite_f hc6 hr
  by_cases hc7 : a1 = (7 : Int32)
  · replace hr := ite_t hc7 hr
    refine r_tabIn (pc := 1) (off := 112) (tgt := 113) dX7_count_1 (by rw [hc7]; decide) (by rw [hc7]; decide) (by rw [hc7]; rfl) rfl ?_
    refine r_aload_n (pc := 113) (j := 0) dX7_count_113 rfl rfl ?_
    refine gf7_8 (pc := 114) tw_2_117 rfl dX7_count_114 ?_
    exact l_opi hr (r_iret (pc := 117) (v := (gI σ0 1 8)) rfl rfl ⟨Nat.le_refl _, Nat.le_refl _⟩ dX7_count_117)
  replace hr := ite_f hc7 hr
  by_cases hc8 : a1 = (8 : Int32)
  · replace hr := ite_t hc8 hr
    refine r_tabIn (pc := 1) (off := 117) (tgt := 118) dX7_count_1 (by rw [hc8]; decide) (by rw [hc8]; decide) (by rw [hc8]; rfl) rfl ?_
    refine r_aload_n (pc := 118) (j := 0) dX7_count_118 rfl rfl ?_
    refine gf7_13 (pc := 119) tw_2_122 hw dX7_count_119 ?_
    refine gf4_0 (pc := 122) tw_2_79 rfl dX7_count_122 ?_
    exact l_opi hr (r_iret (pc := 125) (v := (gI σ0 58 0)) rfl rfl ⟨Nat.le_refl _, Nat.le_refl _⟩ dX7_count_125)
  replace hr := ite_f hc8 hr
  by_cases hc9 : a1 = (9 : Int32)
  · replace hr := ite_t hc9 hr
    refine r_tabIn (pc := 1) (off := 125) (tgt := 126) dX7_count_1 (by rw [hc9]; decide) (by rw [hc9]; decide) (by rw [hc9]; rfl) rfl ?_
    refine r_aload_n (pc := 126) (j := 0) dX7_count_126 rfl rfl ?_
    refine gf7_2 (pc := 127) tw_2_111 hw dX7_count_127 ?_
    refine r_aload_n (pc := 130) (j := 0) dX7_count_130 rfl rfl ?_
    refine gf7_12 (pc := 131) tw_2_121 hw dX7_count_131 ?_
    refine gf3_0 (pc := 134) tw_2_23 hw dX7_count_134 ?_
    refine r_iconst (pc := 137) (v := (0 : Int32)) dX7_count_137 rfl ?_
    refine x_iald (pc := 138) (k := 0) rfl (by decide) rfl dX7_count_138 ?_
    obtain ⟨v1, hv1, hr⟩ := bnd1_inv hr
    refine kX6_notBelow (pc := 139) hv1 (wt_sc hw).1 tw_3_75 ⟨nle rfl, nle rfl⟩ (nle rfl) dX7_count_139 ?_
    exact l_opi hr (r_iret (pc := 142) (v := v1) rfl rfl ⟨Nat.le_refl _, Nat.le_refl _⟩ dX7_count_142)
  replace hr := ite_f hc9 hr
  by_cases hc10 : a1 = (10 : Int32)
  · replace hr := ite_t hc10 hr
    refine r_tabIn (pc := 1) (off := 142) (tgt := 143) dX7_count_1 (by rw [hc10]; decide) (by rw [hc10]; decide) (by rw [hc10]; rfl) rfl ?_
    refine r_aload_n (pc := 143) (j := 0) dX7_count_143 rfl rfl ?_
    refine gf7_2 (pc := 144) tw_2_111 hw dX7_count_144 ?_
    refine r_iconst (pc := 147) (v := (0 : Int32)) dX7_count_147 rfl ?_
    obtain ⟨v4, hv4, hr⟩ := bnd1_inv hr
    refine kX6_sumNotBelow (pc := 148) hv4 (wt_sc hw).1 tw_3_79 ⟨nle rfl, nle rfl⟩ (nle rfl) dX7_count_148 ?_
    exact l_opi hr (r_iret (pc := 151) (v := v4) rfl rfl ⟨Nat.le_refl _, Nat.le_refl _⟩ dX7_count_151)
  replace hr := ite_f hc10 hr
  refine r_tabOut (pc := 1) (tgt := 152) dX7_count_1 (tab_out (by decide) (by decide) fun k h1 h2 => ?_) rfl ?_
  · rcases (show k = 0 ∨ k = 1 ∨ k = 2 ∨ k = 3 ∨ k = 4 ∨ k = 5 ∨ k = 6 ∨ k = 7 ∨ k = 8 ∨ k = 9 ∨ k = 10 by omega) with rfl | rfl | rfl | rfl | rfl | rfl | rfl | rfl | rfl | rfl | rfl
    · exact hc0
    · exact hc1
    · exact hc2
    · exact hc3
    · exact hc4
    · exact hc5
    · exact hc6
    · exact hc7
    · exact hc8
    · exact hc9
    · exact hc10
  refine r_iconst (pc := 152) (v := (-1 : Int32)) dX7_count_152 rfl ?_
  exact l_opi hr (r_iret (pc := 153) (v := (-1 : Int32)) rfl rfl ⟨Nat.le_refl _, Nat.le_refl _⟩ dX7_count_153)

theorem kX7_count {g : GG} {σ0 : SS} {a1 : Int32} {v : Int32} {M : MM} {F : State → Array Value → List Frame → State → Prop} {pc index : Nat} {ls : List (Nat × Value)} {rest : List Value} (hf : fX7_count σ0 a1 = some v)  (hl : Cond.methodLink M.1.cls index yX7_count ∈ lw_gt) (hR : mX7_count.2.2.2.2.frames + 1 ≤ M.2.2.2.2.frames ∧ 8 + (mX7_count.2.2.1 + 11) + mX7_count.2.2.2.2.locals ≤ M.2.2.2.2.locals) (hrest : (rest.map fun v => v.category).sum ≤ 8) (hd : decode M.2.1 pc = .ok (.invokevirtual index, 3)) (k : RR g M F zF (pc + 3) ls (.int v :: rest) σ0) : RR g M F zF pc ls (.int a1 :: .ref (ad g 1) :: rest) σ0 :=
  r_callV (N := mX7_count) (nn := 1) (o1 := some (.int v)) (sX7_count hf ) (rfl : shp 1 = (7, 0)) (by decide) (shp_le (rfl : shp 1 = (7, 0)) (nle rfl)) (ci := 7) rfl rfl tw_3_74 tw_1_1 hl tw_3_72 tw_3_73 ⟨by decide, by decide, rfl⟩ hR rfl hrest hd ⟨Nat.zero_le _, Nat.zero_le _⟩ rfl (fun h => k)

theorem dX8_headOf_0 : decode cX8_headOf 0 = .ok (.aload_n 0, 1) := by decide +kernel
theorem dX8_headOf_1 : decode cX8_headOf 1 = .ok (.getfield 202, 3) := by decide +kernel
theorem dX8_headOf_4 : decode cX8_headOf 4 = .ok (.ifCond .eq 19, 3) := by decide +kernel
theorem dX8_headOf_7 : decode cX8_headOf 7 = .ok (.aload_n 0, 1) := by decide +kernel
theorem dX8_headOf_8 : decode cX8_headOf 8 = .ok (.getfield 13, 3) := by decide +kernel
theorem dX8_headOf_11 : decode cX8_headOf 11 = .ok (.iconst 5, 1) := by decide +kernel
theorem dX8_headOf_12 : decode cX8_headOf 12 = .ok (.aload_n 0, 1) := by decide +kernel
theorem dX8_headOf_13 : decode cX8_headOf 13 = .ok (.getfield 206, 3) := by decide +kernel
theorem dX8_headOf_16 : decode cX8_headOf 16 = .ok (.imul, 1) := by decide +kernel
theorem dX8_headOf_17 : decode cX8_headOf 17 = .ok (.iload_n 1, 1) := by decide +kernel
theorem dX8_headOf_18 : decode cX8_headOf 18 = .ok (.iadd, 1) := by decide +kernel
theorem dX8_headOf_19 : decode cX8_headOf 19 = .ok (.iaload, 1) := by decide +kernel
theorem dX8_headOf_20 : decode cX8_headOf 20 = .ok (.goto 4, 3) := by decide +kernel
theorem dX8_headOf_23 : decode cX8_headOf 23 = .ok (.iconst 0, 1) := by decide +kernel
theorem dX8_headOf_24 : decode cX8_headOf 24 = .ok (.ireturn, 1) := by decide +kernel
def mX8_headOf : MM := (yX8_headOf, cX8_headOf, 2, Option.some Jvm.ClassFile.FieldType.int, { frames := 0, cells := 0, slots := 0, locals := 0 })
def fX8_headOf (σ0 : SS) (a1 : Int32) : Option Int32 :=
  if (gI σ0 73 12) = 0 then (
    some (0 : Int32)
    ) else (
    grd (inb (((5 : Int32) * (gI σ0 73 11)) + a1) 10) <|
    some (gI σ0 75 (Int32.toNatClampNeg (((5 : Int32) * (gI σ0 73 11)) + a1)))
    )

set_option maxRecDepth 20000 in
theorem sX8_headOf {g : GG} {σ0 : SS} {a1 : Int32} {r : Int32} (hr : fX8_headOf σ0 a1 = some r)  : Ct g mX8_headOf [.ref (ad g 73), .int a1] NF σ0 (some (.int r)) NF σ0 := by
  refine Ct.of (by decide +kernel) (nle rfl) fun hw0 => ?_
  have hw := hw0 rfl
  unfold fX8_headOf at hr
  change RR g mX8_headOf (FinR g mX8_headOf (some (.int r)) NF σ0) zF 0 [(0, .ref (ad g 73)), (1, .int a1)] [] σ0
  refine r_aload_n (pc := 0) (j := 0) dX8_headOf_0 rfl rfl ?_
  refine gf8_12 (pc := 1) tw_5_106 rfl dX8_headOf_1 ?_
  refine r_if_eq (pc := 4) (tgt := 23) dX8_headOf_4 rfl (fun hc => ?_) (fun hc => ?_)
  · replace hr := ite_t hc hr
    refine r_iconst (pc := 23) (v := (0 : Int32)) dX8_headOf_23 rfl ?_
    exact l_opi hr (r_iret (pc := 24) (v := (0 : Int32)) rfl rfl ⟨Nat.le_refl _, Nat.le_refl _⟩ dX8_headOf_24)
  replace hr := ite_f hc hr
  refine r_aload_n (pc := 7) (j := 0) dX8_headOf_7 rfl rfl ?_
  refine gf8_13 (pc := 8) tw_5_107 hw dX8_headOf_8 ?_
  refine r_iconst (pc := 11) (v := (5 : Int32)) dX8_headOf_11 rfl ?_
  refine r_aload_n (pc := 12) (j := 0) dX8_headOf_12 rfl rfl ?_
  refine gf8_11 (pc := 13) tw_5_105 rfl dX8_headOf_13 ?_
  refine r_imul (pc := 16) dX8_headOf_16 ?_
  refine r_iload_n (pc := 17) (j := 1) dX8_headOf_17 rfl rfl ?_
  refine r_iadd (pc := 18) dX8_headOf_18 ?_
  obtain ⟨h1, hr⟩ := grd_inv hr
  refine x_iald (pc := 19) (k := (Int32.toNatClampNeg (((5 : Int32) * (gI σ0 73 11)) + a1))) rfl h1 rfl dX8_headOf_19 ?_
  refine r_goto (pc := 20) (tgt := 24) dX8_headOf_20 rfl ?_
  exact l_opi hr (r_iret (pc := 24) (v := (gI σ0 75 (Int32.toNatClampNeg (((5 : Int32) * (gI σ0 73 11)) + a1)))) rfl rfl ⟨Nat.le_refl _, Nat.le_refl _⟩ dX8_headOf_24)

theorem kX8_headOf {g : GG} {σ0 : SS} {a1 : Int32} {v : Int32} {M : MM} {F : State → Array Value → List Frame → State → Prop} {pc index : Nat} {ls : List (Nat × Value)} {rest : List Value} (hf : fX8_headOf σ0 a1 = some v)  (hl : Cond.methodLink M.1.cls index yX8_headOf ∈ lw_gt) (hR : mX8_headOf.2.2.2.2.frames + 1 ≤ M.2.2.2.2.frames ∧ 8 + (mX8_headOf.2.2.1 + 11) + mX8_headOf.2.2.2.2.locals ≤ M.2.2.2.2.locals) (hrest : (rest.map fun v => v.category).sum ≤ 8) (hd : decode M.2.1 pc = .ok (.invokevirtual index, 3)) (k : RR g M F zF (pc + 3) ls (.int v :: rest) σ0) : RR g M F zF pc ls (.int a1 :: .ref (ad g 73) :: rest) σ0 :=
  r_callV (N := mX8_headOf) (nn := 1) (o1 := some (.int v)) (sX8_headOf hf ) (rfl : shp 73 = (8, 0)) (by decide) (shp_le (rfl : shp 73 = (8, 0)) (nle rfl)) (ci := 8) rfl rfl tw_6_152 tw_1_10 hl tw_6_151 tp_50 ⟨by decide, by decide, rfl⟩ hR rfl hrest hd ⟨Nat.zero_le _, Nat.zero_le _⟩ rfl (fun h => k)

theorem dX8_questions_0 : decode cX8_questions 0 = .ok (.aload_n 0, 1) := by decide +kernel
theorem dX8_questions_1 : decode cX8_questions 1 = .ok (.iconst 4, 1) := by decide +kernel
theorem dX8_questions_2 : decode cX8_questions 2 = .ok (.invokevirtual 262, 3) := by decide +kernel
theorem dX8_questions_5 : decode cX8_questions 5 = .ok (.ireturn, 1) := by decide +kernel
def mX8_questions : MM := (yX8_questions, cX8_questions, 1, Option.some Jvm.ClassFile.FieldType.int, { frames := 1, cells := 0, slots := 0, locals := 21 })
def fX8_questions (σ0 : SS)  : Option Int32 :=
  bnd1 (fX8_headOf σ0 (4 : Int32)) fun v1 =>
  some v1

set_option maxRecDepth 20000 in
theorem sX8_questions {g : GG} {σ0 : SS}  {r : Int32} (hr : fX8_questions σ0 = some r)  : Ct g mX8_questions [.ref (ad g 73)] NF σ0 (some (.int r)) NF σ0 := by
  refine Ct.of (by decide +kernel) (nle rfl) fun hw0 => ?_
  have hw := hw0 rfl
  unfold fX8_questions at hr
  change RR g mX8_questions (FinR g mX8_questions (some (.int r)) NF σ0) zF 0 [(0, .ref (ad g 73))] [] σ0
  refine r_aload_n (pc := 0) (j := 0) dX8_questions_0 rfl rfl ?_
  refine r_iconst (pc := 1) (v := (4 : Int32)) dX8_questions_1 rfl ?_
  obtain ⟨v1, hv1, hr⟩ := bnd1_inv hr
  refine kX8_headOf (pc := 2) hv1 tw_6_149 ⟨nle rfl, nle rfl⟩ (nle rfl) dX8_questions_2 ?_
  exact l_opi hr (r_iret (pc := 5) (v := v1) rfl rfl ⟨Nat.le_refl _, Nat.le_refl _⟩ dX8_questions_5)

theorem kX8_questions {g : GG} {σ0 : SS}  {v : Int32} {M : MM} {F : State → Array Value → List Frame → State → Prop} {pc index : Nat} {ls : List (Nat × Value)} {rest : List Value} (hf : fX8_questions σ0 = some v)  (hl : Cond.methodLink M.1.cls index yX8_questions ∈ lw_gt) (hR : mX8_questions.2.2.2.2.frames + 1 ≤ M.2.2.2.2.frames ∧ 8 + (mX8_questions.2.2.1 + 11) + mX8_questions.2.2.2.2.locals ≤ M.2.2.2.2.locals) (hrest : (rest.map fun v => v.category).sum ≤ 8) (hd : decode M.2.1 pc = .ok (.invokevirtual index, 3)) (k : RR g M F zF (pc + 3) ls (.int v :: rest) σ0) : RR g M F zF pc ls (.ref (ad g 73) :: rest) σ0 :=
  r_callV (N := mX8_questions) (nn := 0) (o1 := some (.int v)) (sX8_questions hf ) (rfl : shp 73 = (8, 0)) (by decide) (shp_le (rfl : shp 73 = (8, 0)) (nle rfl)) (ci := 8) rfl rfl tw_6_148 tw_1_10 hl tw_6_147 tp_49 ⟨by decide, by decide, rfl⟩ hR rfl hrest hd ⟨Nat.zero_le _, Nat.zero_le _⟩ rfl (fun h => k)

theorem dX8_boxesOf_0 : decode cX8_boxesOf 0 = .ok (.aload_n 0, 1) := by decide +kernel
theorem dX8_boxesOf_1 : decode cX8_boxesOf 1 = .ok (.getfield 20, 3) := by decide +kernel
theorem dX8_boxesOf_4 : decode cX8_boxesOf 4 = .ok (.bipush 12, 2) := by decide +kernel
theorem dX8_boxesOf_6 : decode cX8_boxesOf 6 = .ok (.aload_n 0, 1) := by decide +kernel
theorem dX8_boxesOf_7 : decode cX8_boxesOf 7 = .ok (.getfield 206, 3) := by decide +kernel
theorem dX8_boxesOf_10 : decode cX8_boxesOf 10 = .ok (.imul, 1) := by decide +kernel
theorem dX8_boxesOf_11 : decode cX8_boxesOf 11 = .ok (.iload_n 1, 1) := by decide +kernel
theorem dX8_boxesOf_12 : decode cX8_boxesOf 12 = .ok (.iadd, 1) := by decide +kernel
theorem dX8_boxesOf_13 : decode cX8_boxesOf 13 = .ok (.iaload, 1) := by decide +kernel
theorem dX8_boxesOf_14 : decode cX8_boxesOf 14 = .ok (.ireturn, 1) := by decide +kernel
def mX8_boxesOf : MM := (yX8_boxesOf, cX8_boxesOf, 2, Option.some Jvm.ClassFile.FieldType.int, { frames := 0, cells := 0, slots := 0, locals := 0 })
def fX8_boxesOf (σ0 : SS) (a1 : Int32) : Option Int32 :=
  grd (inb (((12 : Int32) * (gI σ0 73 11)) + a1) 24) <|
  some (gI σ0 77 (Int32.toNatClampNeg (((12 : Int32) * (gI σ0 73 11)) + a1)))

set_option maxRecDepth 20000 in
theorem sX8_boxesOf {g : GG} {σ0 : SS} {a1 : Int32} {r : Int32} (hr : fX8_boxesOf σ0 a1 = some r)  : Ct g mX8_boxesOf [.ref (ad g 73), .int a1] NF σ0 (some (.int r)) NF σ0 := by
  refine Ct.of (by decide +kernel) (nle rfl) fun hw0 => ?_
  have hw := hw0 rfl
  unfold fX8_boxesOf at hr
  change RR g mX8_boxesOf (FinR g mX8_boxesOf (some (.int r)) NF σ0) zF 0 [(0, .ref (ad g 73)), (1, .int a1)] [] σ0
  refine r_aload_n (pc := 0) (j := 0) dX8_boxesOf_0 rfl rfl ?_
  refine gf8_15 (pc := 1) tw_5_109 hw dX8_boxesOf_1 ?_
  refine r_bipush (pc := 4) (v := (12 : Int32)) dX8_boxesOf_4 rfl ?_
  refine r_aload_n (pc := 6) (j := 0) dX8_boxesOf_6 rfl rfl ?_
  refine gf8_11 (pc := 7) tw_5_105 rfl dX8_boxesOf_7 ?_
  refine r_imul (pc := 10) dX8_boxesOf_10 ?_
  refine r_iload_n (pc := 11) (j := 1) dX8_boxesOf_11 rfl rfl ?_
  refine r_iadd (pc := 12) dX8_boxesOf_12 ?_
  obtain ⟨h1, hr⟩ := grd_inv hr
  refine x_iald (pc := 13) (k := (Int32.toNatClampNeg (((12 : Int32) * (gI σ0 73 11)) + a1))) rfl h1 rfl dX8_boxesOf_13 ?_
  exact l_opi hr (r_iret (pc := 14) (v := (gI σ0 77 (Int32.toNatClampNeg (((12 : Int32) * (gI σ0 73 11)) + a1)))) rfl rfl ⟨Nat.le_refl _, Nat.le_refl _⟩ dX8_boxesOf_14)

theorem kX8_boxesOf {g : GG} {σ0 : SS} {a1 : Int32} {v : Int32} {M : MM} {F : State → Array Value → List Frame → State → Prop} {pc index : Nat} {ls : List (Nat × Value)} {rest : List Value} (hf : fX8_boxesOf σ0 a1 = some v)  (hl : Cond.methodLink M.1.cls index yX8_boxesOf ∈ lw_gt) (hR : mX8_boxesOf.2.2.2.2.frames + 1 ≤ M.2.2.2.2.frames ∧ 8 + (mX8_boxesOf.2.2.1 + 11) + mX8_boxesOf.2.2.2.2.locals ≤ M.2.2.2.2.locals) (hrest : (rest.map fun v => v.category).sum ≤ 8) (hd : decode M.2.1 pc = .ok (.invokevirtual index, 3)) (k : RR g M F zF (pc + 3) ls (.int v :: rest) σ0) : RR g M F zF pc ls (.int a1 :: .ref (ad g 73) :: rest) σ0 :=
  r_callV (N := mX8_boxesOf) (nn := 1) (o1 := some (.int v)) (sX8_boxesOf hf ) (rfl : shp 73 = (8, 0)) (by decide) (shp_le (rfl : shp 73 = (8, 0)) (nle rfl)) (ci := 8) rfl rfl tw_7_30 tw_1_10 hl tw_7_29 tp_63 ⟨by decide, by decide, rfl⟩ hR rfl hrest hd ⟨Nat.zero_le _, Nat.zero_le _⟩ rfl (fun h => k)

theorem dX8_allBoxes_0 : decode cX8_allBoxes 0 = .ok (.iconst 0, 1) := by decide +kernel
theorem dX8_allBoxes_1 : decode cX8_allBoxes 1 = .ok (.istore_n 1, 1) := by decide +kernel
theorem dX8_allBoxes_2 : decode cX8_allBoxes 2 = .ok (.iconst 0, 1) := by decide +kernel
theorem dX8_allBoxes_3 : decode cX8_allBoxes 3 = .ok (.istore_n 2, 1) := by decide +kernel
theorem dX8_allBoxes_4 : decode cX8_allBoxes 4 = .ok (.iload_n 2, 1) := by decide +kernel
theorem dX8_allBoxes_5 : decode cX8_allBoxes 5 = .ok (.aload_n 0, 1) := by decide +kernel
theorem dX8_allBoxes_6 : decode cX8_allBoxes 6 = .ok (.invokevirtual 266, 3) := by decide +kernel
theorem dX8_allBoxes_9 : decode cX8_allBoxes 9 = .ok (.if_icmp .ge 17, 3) := by decide +kernel
theorem dX8_allBoxes_12 : decode cX8_allBoxes 12 = .ok (.iload_n 1, 1) := by decide +kernel
theorem dX8_allBoxes_13 : decode cX8_allBoxes 13 = .ok (.aload_n 0, 1) := by decide +kernel
theorem dX8_allBoxes_14 : decode cX8_allBoxes 14 = .ok (.iload_n 2, 1) := by decide +kernel
theorem dX8_allBoxes_15 : decode cX8_allBoxes 15 = .ok (.invokevirtual 272, 3) := by decide +kernel
theorem dX8_allBoxes_18 : decode cX8_allBoxes 18 = .ok (.iadd, 1) := by decide +kernel
theorem dX8_allBoxes_19 : decode cX8_allBoxes 19 = .ok (.istore_n 1, 1) := by decide +kernel
theorem dX8_allBoxes_20 : decode cX8_allBoxes 20 = .ok (.iinc 2 1, 3) := by decide +kernel
theorem dX8_allBoxes_23 : decode cX8_allBoxes 23 = .ok (.goto (-19), 3) := by decide +kernel
theorem dX8_allBoxes_26 : decode cX8_allBoxes 26 = .ok (.iload_n 1, 1) := by decide +kernel
theorem dX8_allBoxes_27 : decode cX8_allBoxes 27 = .ok (.ireturn, 1) := by decide +kernel
def mX8_allBoxes : MM := (yX8_allBoxes, cX8_allBoxes, 3, Option.some Jvm.ClassFile.FieldType.int, { frames := 2, cells := 0, slots := 0, locals := 41 })
def X8_allBoxes_L4 (σ_ : SS)   : Nat → Int32 → Int32 → Option Int32 :=
  lp (fun _ _ => none) fun rec v1_ v2_ =>
    bnd1 (fX8_questions σ_) fun v1 =>
    if v1 ≤ v2_ then (
      some v1_
      ) else (
      bnd1 (fX8_boxesOf σ_ v2_) fun v4 =>
      vthen (v1_ + v4) fun v7 =>
      rec v7 (v2_ + (1 : Int32))
      )

def fX8_allBoxes (σ0 : SS)  : Option Int32 :=
  X8_allBoxes_L4 σ0
  fuel (0 : Int32) (0 : Int32)

set_option maxRecDepth 20000 in
theorem sX8_allBoxes_L4 {g : GG} {r : Int32} {σ_ : SS} {σ0 : SS}   
    (hw_ : WT σ_)
    (h0_ : σ_ = σ0)
    (n : Nat) : ∀ (v1_ : Int32) (v2_ : Int32), X8_allBoxes_L4 σ_ n v1_ v2_ = some r → RR g mX8_allBoxes (FinR g mX8_allBoxes (some (.int r)) NF σ0) zF 4 [(0, .ref (ad g 73)), (1, .int v1_), (2, .int v2_)] [] σ_ := by
  unfold X8_allBoxes_L4
  refine lp_ind (P := fun (rec : Int32 → Int32 → Option Int32) => ∀ (v1_ : Int32) (v2_ : Int32), rec v1_ v2_ = some r → RR g mX8_allBoxes (FinR g mX8_allBoxes (some (.int r)) NF σ0) zF 4 [(0, .ref (ad g 73)), (1, .int v1_), (2, .int v2_)] [] σ_) ?_ ?_ n
  · intro v1_ v2_ hr; cases hr
  intro rec ih v1_ v2_ hr
  subst h0_
  refine r_iload_n (pc := 4) (j := 2) dX8_allBoxes_4 rfl rfl ?_
  refine r_aload_n (pc := 5) (j := 0) dX8_allBoxes_5 rfl rfl ?_
  obtain ⟨v1, hv1, hr⟩ := bnd1_inv hr
  refine kX8_questions (pc := 6) hv1 tw_6_145 ⟨nle rfl, nle rfl⟩ (nle rfl) dX8_allBoxes_6 ?_
  refine r_icmp_ge (pc := 9) (tgt := 26) dX8_allBoxes_9 rfl (fun hc => ?_) (fun hc => ?_)
  · replace hr := ite_t hc hr
    refine r_iload_n (pc := 26) (j := 1) dX8_allBoxes_26 rfl rfl ?_
    exact l_opi hr (r_iret (pc := 27) (v := v1_) rfl rfl ⟨Nat.le_refl _, Nat.le_refl _⟩ dX8_allBoxes_27)
  replace hr := ite_f hc hr
  refine r_iload_n (pc := 12) (j := 1) dX8_allBoxes_12 rfl rfl ?_
  refine r_aload_n (pc := 13) (j := 0) dX8_allBoxes_13 rfl rfl ?_
  refine r_iload_n (pc := 14) (j := 2) dX8_allBoxes_14 rfl rfl ?_
  obtain ⟨v4, hv4, hr⟩ := bnd1_inv hr
  refine kX8_boxesOf (pc := 15) hv4 tw_7_27 ⟨nle rfl, nle rfl⟩ (nle rfl) dX8_allBoxes_15 ?_
  refine r_iadd (pc := 18) dX8_allBoxes_18 ?_
  refine r_topi fun v7 ev7 => ?_
  replace hr := vthen_inv hr v7 ev7
  refine r_istore_n (pc := 19) (ls1 := [(1, .int v7), (0, .ref (ad g 73)), (2, .int v2_)]) dX8_allBoxes_19 rfl (nle rfl) rfl ?_
  refine r_iinc (pc := 20) (j := 2) (v := (v2_ + (1 : Int32))) (ls1 := [(2, .int (v2_ + (1 : Int32))), (1, .int v7), (0, .ref (ad g 73))]) dX8_allBoxes_20 rfl rfl (nle rfl) rfl ?_
  refine r_goto (pc := 23) (tgt := 4) dX8_allBoxes_23 rfl ?_
  exact r_pick (ls1 := [(0, .ref (ad g 73)), (1, .int v7), (2, .int (v2_ + (1 : Int32)))]) [2, 1, 0] rfl (ih v7 (v2_ + (1 : Int32)) hr)

set_option maxRecDepth 20000 in
theorem sX8_allBoxes {g : GG} {σ0 : SS}  {r : Int32} (hr : fX8_allBoxes σ0 = some r)  : Ct g mX8_allBoxes [.ref (ad g 73)] NF σ0 (some (.int r)) NF σ0 := by
  refine Ct.of (by decide +kernel) (nle rfl) fun hw0 => ?_
  have hw := hw0 rfl
  unfold fX8_allBoxes at hr
  change RR g mX8_allBoxes (FinR g mX8_allBoxes (some (.int r)) NF σ0) zF 0 [(0, .ref (ad g 73))] [] σ0
  refine r_iconst (pc := 0) (v := (0 : Int32)) dX8_allBoxes_0 rfl ?_
  refine r_istore_n (pc := 1) (ls1 := [(1, .int (0 : Int32)), (0, .ref (ad g 73))]) dX8_allBoxes_1 rfl (nle rfl) rfl ?_
  refine r_iconst (pc := 2) (v := (0 : Int32)) dX8_allBoxes_2 rfl ?_
  refine r_istore_n (pc := 3) (ls1 := [(2, .int (0 : Int32)), (1, .int (0 : Int32)), (0, .ref (ad g 73))]) dX8_allBoxes_3 rfl (nle rfl) rfl ?_
  refine r_pick (ls1 := [(0, .ref (ad g 73)), (1, .int (0 : Int32)), (2, .int (0 : Int32))]) [2, 1, 0] rfl ?_
  refine sX8_allBoxes_L4  hw rfl  fuel (0 : Int32) (0 : Int32) hr

theorem kX8_allBoxes {g : GG} {σ0 : SS}  {v : Int32} {M : MM} {F : State → Array Value → List Frame → State → Prop} {pc index : Nat} {ls : List (Nat × Value)} {rest : List Value} (hf : fX8_allBoxes σ0 = some v)  (hl : Cond.methodLink M.1.cls index yX8_allBoxes ∈ lw_gt) (hR : mX8_allBoxes.2.2.2.2.frames + 1 ≤ M.2.2.2.2.frames ∧ 8 + (mX8_allBoxes.2.2.1 + 11) + mX8_allBoxes.2.2.2.2.locals ≤ M.2.2.2.2.locals) (hrest : (rest.map fun v => v.category).sum ≤ 8) (hd : decode M.2.1 pc = .ok (.invokevirtual index, 3)) (k : RR g M F zF (pc + 3) ls (.int v :: rest) σ0) : RR g M F zF pc ls (.ref (ad g 73) :: rest) σ0 :=
  r_callV (N := mX8_allBoxes) (nn := 0) (o1 := some (.int v)) (sX8_allBoxes hf ) (rfl : shp 73 = (8, 0)) (by decide) (shp_le (rfl : shp 73 = (8, 0)) (nle rfl)) (ci := 8) rfl rfl tw_7_26 tw_1_10 hl tw_7_25 tp_62 ⟨by decide, by decide, rfl⟩ hR rfl hrest hd ⟨Nat.zero_le _, Nat.zero_le _⟩ rfl (fun h => k)

theorem dX8_all_0 : decode cX8_all 0 = .ok (.aload_n 0, 1) := by decide +kernel
theorem dX8_all_1 : decode cX8_all 1 = .ok (.getfield 132, 3) := by decide +kernel
theorem dX8_all_4 : decode cX8_all 4 = .ok (.aload_n 0, 1) := by decide +kernel
theorem dX8_all_5 : decode cX8_all 5 = .ok (.getfield 136, 3) := by decide +kernel
theorem dX8_all_8 : decode cX8_all 8 = .ok (.imul, 1) := by decide +kernel
theorem dX8_all_9 : decode cX8_all 9 = .ok (.ireturn, 1) := by decide +kernel
def mX8_all : MM := (yX8_all, cX8_all, 1, Option.some Jvm.ClassFile.FieldType.int, { frames := 0, cells := 0, slots := 0, locals := 0 })
def fX8_all (σ0 : SS)  : Int32 :=
  ((gI σ0 73 29) * (gI σ0 73 30))

set_option maxRecDepth 20000 in
theorem sX8_all {g : GG} {σ0 : SS}  {r : Int32} (hr : fX8_all σ0 = r)  : Ct g mX8_all [.ref (ad g 73)] NF σ0 (some (.int r)) NF σ0 := by
  refine Ct.of (by decide +kernel) (nle rfl) fun hw0 => ?_
  have hw := hw0 rfl
  unfold fX8_all at hr
  change RR g mX8_all (FinR g mX8_all (some (.int r)) NF σ0) zF 0 [(0, .ref (ad g 73))] [] σ0
  refine r_aload_n (pc := 0) (j := 0) dX8_all_0 rfl rfl ?_
  refine gf8_29 (pc := 1) tw_5_123 rfl dX8_all_1 ?_
  refine r_aload_n (pc := 4) (j := 0) dX8_all_4 rfl rfl ?_
  refine gf8_30 (pc := 5) tw_5_124 rfl dX8_all_5 ?_
  refine r_imul (pc := 8) dX8_all_8 ?_
  exact l_pi hr (r_iret (pc := 9) (v := ((gI σ0 73 29) * (gI σ0 73 30))) rfl rfl ⟨Nat.le_refl _, Nat.le_refl _⟩ dX8_all_9)

theorem kX8_all {g : GG} {σ0 : SS}  {v : Int32} {M : MM} {F : State → Array Value → List Frame → State → Prop} {pc index : Nat} {ls : List (Nat × Value)} {rest : List Value} (hf : fX8_all σ0 = v)  (hl : Cond.methodLink M.1.cls index yX8_all ∈ lw_gt) (hR : mX8_all.2.2.2.2.frames + 1 ≤ M.2.2.2.2.frames ∧ 8 + (mX8_all.2.2.1 + 11) + mX8_all.2.2.2.2.locals ≤ M.2.2.2.2.locals) (hrest : (rest.map fun v => v.category).sum ≤ 8) (hd : decode M.2.1 pc = .ok (.invokevirtual index, 3)) (k : RR g M F zF (pc + 3) ls (.int v :: rest) σ0) : RR g M F zF pc ls (.ref (ad g 73) :: rest) σ0 :=
  r_callV (N := mX8_all) (nn := 0) (o1 := some (.int v)) (sX8_all hf ) (rfl : shp 73 = (8, 0)) (by decide) (shp_le (rfl : shp 73 = (8, 0)) (nle rfl)) (ci := 8) rfl rfl tw_6_218 tw_1_10 hl tw_6_217 tp_57 ⟨by decide, by decide, rfl⟩ hR rfl hrest hd ⟨Nat.zero_le _, Nat.zero_le _⟩ rfl (fun h => k)

theorem dX8_inked_0 : decode cX8_inked 0 = .ok (.iconst 0, 1) := by decide +kernel
theorem dX8_inked_1 : decode cX8_inked 1 = .ok (.istore_n 1, 1) := by decide +kernel
theorem dX8_inked_2 : decode cX8_inked 2 = .ok (.iconst 0, 1) := by decide +kernel
theorem dX8_inked_3 : decode cX8_inked 3 = .ok (.istore_n 2, 1) := by decide +kernel
theorem dX8_inked_4 : decode cX8_inked 4 = .ok (.iload_n 2, 1) := by decide +kernel
theorem dX8_inked_5 : decode cX8_inked 5 = .ok (.aload_n 0, 1) := by decide +kernel
theorem dX8_inked_6 : decode cX8_inked 6 = .ok (.invokevirtual 275, 3) := by decide +kernel
theorem dX8_inked_9 : decode cX8_inked 9 = .ok (.if_icmp .ge 32, 3) := by decide +kernel
theorem dX8_inked_12 : decode cX8_inked 12 = .ok (.iload_n 1, 1) := by decide +kernel
theorem dX8_inked_13 : decode cX8_inked 13 = .ok (.aload_n 0, 1) := by decide +kernel
theorem dX8_inked_14 : decode cX8_inked 14 = .ok (.getfield 38, 3) := by decide +kernel
theorem dX8_inked_17 : decode cX8_inked 17 = .ok (.iload_n 2, 1) := by decide +kernel
theorem dX8_inked_18 : decode cX8_inked 18 = .ok (.iaload, 1) := by decide +kernel
theorem dX8_inked_19 : decode cX8_inked 19 = .ok (.aload_n 0, 1) := by decide +kernel
theorem dX8_inked_20 : decode cX8_inked 20 = .ok (.getfield 53, 3) := by decide +kernel
theorem dX8_inked_23 : decode cX8_inked 23 = .ok (.iconst 0, 1) := by decide +kernel
theorem dX8_inked_24 : decode cX8_inked 24 = .ok (.iaload, 1) := by decide +kernel
theorem dX8_inked_25 : decode cX8_inked 25 = .ok (.if_icmp .ge 7, 3) := by decide +kernel
theorem dX8_inked_28 : decode cX8_inked 28 = .ok (.iconst 0, 1) := by decide +kernel
theorem dX8_inked_29 : decode cX8_inked 29 = .ok (.goto 4, 3) := by decide +kernel
theorem dX8_inked_32 : decode cX8_inked 32 = .ok (.iconst 1, 1) := by decide +kernel
theorem dX8_inked_33 : decode cX8_inked 33 = .ok (.iadd, 1) := by decide +kernel
theorem dX8_inked_34 : decode cX8_inked 34 = .ok (.istore_n 1, 1) := by decide +kernel
theorem dX8_inked_35 : decode cX8_inked 35 = .ok (.iinc 2 1, 3) := by decide +kernel
theorem dX8_inked_38 : decode cX8_inked 38 = .ok (.goto (-34), 3) := by decide +kernel
theorem dX8_inked_41 : decode cX8_inked 41 = .ok (.iload_n 1, 1) := by decide +kernel
theorem dX8_inked_42 : decode cX8_inked 42 = .ok (.ireturn, 1) := by decide +kernel
def mX8_inked : MM := (yX8_inked, cX8_inked, 3, Option.some Jvm.ClassFile.FieldType.int, { frames := 1, cells := 0, slots := 0, locals := 20 })
def X8_inked_L4 (σ_ : SS)   : Nat → Int32 → Int32 → Option Int32 :=
  lp (fun _ _ => none) fun rec v1_ v2_ =>
    if (fX8_all σ_) ≤ v2_ then (
      some v1_
      ) else (
      grd (inb v2_ 1600) <|
      if (gI σ_ 88 0) ≤ (gI σ_ 83 (Int32.toNatClampNeg v2_)) then (
        vthen (v1_ + (1 : Int32)) fun v2 =>
        rec v2 (v2_ + (1 : Int32))
        ) else (
        vthen (v1_ + (0 : Int32)) fun v3 =>
        rec v3 (v2_ + (1 : Int32))
        )
      )

def fX8_inked (σ0 : SS)  : Option Int32 :=
  X8_inked_L4 σ0
  fuel (0 : Int32) (0 : Int32)

set_option maxRecDepth 20000 in
theorem sX8_inked_L4 {g : GG} {r : Int32} {σ_ : SS} {σ0 : SS}   
    (hw_ : WT σ_)
    (h0_ : σ_ = σ0)
    (n : Nat) : ∀ (v1_ : Int32) (v2_ : Int32), X8_inked_L4 σ_ n v1_ v2_ = some r → RR g mX8_inked (FinR g mX8_inked (some (.int r)) NF σ0) zF 4 [(0, .ref (ad g 73)), (1, .int v1_), (2, .int v2_)] [] σ_ := by
  unfold X8_inked_L4
  refine lp_ind (P := fun (rec : Int32 → Int32 → Option Int32) => ∀ (v1_ : Int32) (v2_ : Int32), rec v1_ v2_ = some r → RR g mX8_inked (FinR g mX8_inked (some (.int r)) NF σ0) zF 4 [(0, .ref (ad g 73)), (1, .int v1_), (2, .int v2_)] [] σ_) ?_ ?_ n
  · intro v1_ v2_ hr; cases hr
  intro rec ih v1_ v2_ hr
  subst h0_
  refine r_iload_n (pc := 4) (j := 2) dX8_inked_4 rfl rfl ?_
  refine r_aload_n (pc := 5) (j := 0) dX8_inked_5 rfl rfl ?_
  refine kX8_all (pc := 6) (hf := rfl) tw_6_215 ⟨nle rfl, nle rfl⟩ (nle rfl) dX8_inked_6 ?_
  refine r_icmp_ge (pc := 9) (tgt := 41) dX8_inked_9 rfl (fun hc => ?_) (fun hc => ?_)
  · replace hr := ite_t hc hr
    refine r_iload_n (pc := 41) (j := 1) dX8_inked_41 rfl rfl ?_
    exact l_opi hr (r_iret (pc := 42) (v := v1_) rfl rfl ⟨Nat.le_refl _, Nat.le_refl _⟩ dX8_inked_42)
  replace hr := ite_f hc hr
  refine r_iload_n (pc := 12) (j := 1) dX8_inked_12 rfl rfl ?_
  refine r_aload_n (pc := 13) (j := 0) dX8_inked_13 rfl rfl ?_
  refine gf8_21 (pc := 14) tw_5_115 hw_ dX8_inked_14 ?_
  refine r_iload_n (pc := 17) (j := 2) dX8_inked_17 rfl rfl ?_
  obtain ⟨h1, hr⟩ := grd_inv hr
  refine x_iald (pc := 18) (k := (Int32.toNatClampNeg v2_)) rfl h1 rfl dX8_inked_18 ?_
  refine r_aload_n (pc := 19) (j := 0) dX8_inked_19 rfl rfl ?_
  refine gf8_26 (pc := 20) tw_5_120 hw_ dX8_inked_20 ?_
  refine r_iconst (pc := 23) (v := (0 : Int32)) dX8_inked_23 rfl ?_
  refine x_iald (pc := 24) (k := 0) rfl (by decide) rfl dX8_inked_24 ?_
  refine r_icmp_ge (pc := 25) (tgt := 32) dX8_inked_25 rfl (fun hc => ?_) (fun hc => ?_)
  · replace hr := ite_t hc hr
    refine r_iconst (pc := 32) (v := (1 : Int32)) dX8_inked_32 rfl ?_
    refine r_iadd (pc := 33) dX8_inked_33 ?_
    refine r_topi fun v2 ev2 => ?_
    replace hr := vthen_inv hr v2 ev2
    refine r_istore_n (pc := 34) (ls1 := [(1, .int v2), (0, .ref (ad g 73)), (2, .int v2_)]) dX8_inked_34 rfl (nle rfl) rfl ?_
    refine r_iinc (pc := 35) (j := 2) (v := (v2_ + (1 : Int32))) (ls1 := [(2, .int (v2_ + (1 : Int32))), (1, .int v2), (0, .ref (ad g 73))]) dX8_inked_35 rfl rfl (nle rfl) rfl ?_
    refine r_goto (pc := 38) (tgt := 4) dX8_inked_38 rfl ?_
    exact r_pick (ls1 := [(0, .ref (ad g 73)), (1, .int v2), (2, .int (v2_ + (1 : Int32)))]) [2, 1, 0] rfl (ih v2 (v2_ + (1 : Int32)) hr)
  replace hr := ite_f hc hr
  refine r_iconst (pc := 28) (v := (0 : Int32)) dX8_inked_28 rfl ?_
  refine r_goto (pc := 29) (tgt := 33) dX8_inked_29 rfl ?_
  refine r_iadd (pc := 33) dX8_inked_33 ?_
  refine r_topi fun v3 ev3 => ?_
  replace hr := vthen_inv hr v3 ev3
  refine r_istore_n (pc := 34) (ls1 := [(1, .int v3), (0, .ref (ad g 73)), (2, .int v2_)]) dX8_inked_34 rfl (nle rfl) rfl ?_
  refine r_iinc (pc := 35) (j := 2) (v := (v2_ + (1 : Int32))) (ls1 := [(2, .int (v2_ + (1 : Int32))), (1, .int v3), (0, .ref (ad g 73))]) dX8_inked_35 rfl rfl (nle rfl) rfl ?_
  refine r_goto (pc := 38) (tgt := 4) dX8_inked_38 rfl ?_
  exact r_pick (ls1 := [(0, .ref (ad g 73)), (1, .int v3), (2, .int (v2_ + (1 : Int32)))]) [2, 1, 0] rfl (ih v3 (v2_ + (1 : Int32)) hr)

set_option maxRecDepth 20000 in
theorem sX8_inked {g : GG} {σ0 : SS}  {r : Int32} (hr : fX8_inked σ0 = some r)  : Ct g mX8_inked [.ref (ad g 73)] NF σ0 (some (.int r)) NF σ0 := by
  refine Ct.of (by decide +kernel) (nle rfl) fun hw0 => ?_
  have hw := hw0 rfl
  unfold fX8_inked at hr
  change RR g mX8_inked (FinR g mX8_inked (some (.int r)) NF σ0) zF 0 [(0, .ref (ad g 73))] [] σ0
  refine r_iconst (pc := 0) (v := (0 : Int32)) dX8_inked_0 rfl ?_
  refine r_istore_n (pc := 1) (ls1 := [(1, .int (0 : Int32)), (0, .ref (ad g 73))]) dX8_inked_1 rfl (nle rfl) rfl ?_
  refine r_iconst (pc := 2) (v := (0 : Int32)) dX8_inked_2 rfl ?_
  refine r_istore_n (pc := 3) (ls1 := [(2, .int (0 : Int32)), (1, .int (0 : Int32)), (0, .ref (ad g 73))]) dX8_inked_3 rfl (nle rfl) rfl ?_
  refine r_pick (ls1 := [(0, .ref (ad g 73)), (1, .int (0 : Int32)), (2, .int (0 : Int32))]) [2, 1, 0] rfl ?_
  refine sX8_inked_L4  hw rfl  fuel (0 : Int32) (0 : Int32) hr

theorem kX8_inked {g : GG} {σ0 : SS}  {v : Int32} {M : MM} {F : State → Array Value → List Frame → State → Prop} {pc index : Nat} {ls : List (Nat × Value)} {rest : List Value} (hf : fX8_inked σ0 = some v)  (hl : Cond.methodLink M.1.cls index yX8_inked ∈ lw_gt) (hR : mX8_inked.2.2.2.2.frames + 1 ≤ M.2.2.2.2.frames ∧ 8 + (mX8_inked.2.2.1 + 11) + mX8_inked.2.2.2.2.locals ≤ M.2.2.2.2.locals) (hrest : (rest.map fun v => v.category).sum ≤ 8) (hd : decode M.2.1 pc = .ok (.invokevirtual index, 3)) (k : RR g M F zF (pc + 3) ls (.int v :: rest) σ0) : RR g M F zF pc ls (.ref (ad g 73) :: rest) σ0 :=
  r_callV (N := mX8_inked) (nn := 0) (o1 := some (.int v)) (sX8_inked hf ) (rfl : shp 73 = (8, 0)) (by decide) (shp_le (rfl : shp 73 = (8, 0)) (nle rfl)) (ci := 8) rfl rfl tw_7_34 tw_1_10 hl tw_7_33 tp_64 ⟨by decide, by decide, rfl⟩ hR rfl hrest hd ⟨Nat.zero_le _, Nat.zero_le _⟩ rfl (fun h => k)

theorem dX8_darkness_0 : decode cX8_darkness 0 = .ok (.iconst 0, 1) := by decide +kernel
theorem dX8_darkness_1 : decode cX8_darkness 1 = .ok (.istore_n 1, 1) := by decide +kernel
theorem dX8_darkness_2 : decode cX8_darkness 2 = .ok (.iconst 0, 1) := by decide +kernel
theorem dX8_darkness_3 : decode cX8_darkness 3 = .ok (.istore_n 2, 1) := by decide +kernel
theorem dX8_darkness_4 : decode cX8_darkness 4 = .ok (.iload_n 2, 1) := by decide +kernel
theorem dX8_darkness_5 : decode cX8_darkness 5 = .ok (.aload_n 0, 1) := by decide +kernel
theorem dX8_darkness_6 : decode cX8_darkness 6 = .ok (.invokevirtual 275, 3) := by decide +kernel
theorem dX8_darkness_9 : decode cX8_darkness 9 = .ok (.if_icmp .ge 18, 3) := by decide +kernel
theorem dX8_darkness_12 : decode cX8_darkness 12 = .ok (.iload_n 1, 1) := by decide +kernel
theorem dX8_darkness_13 : decode cX8_darkness 13 = .ok (.aload_n 0, 1) := by decide +kernel
theorem dX8_darkness_14 : decode cX8_darkness 14 = .ok (.getfield 38, 3) := by decide +kernel
theorem dX8_darkness_17 : decode cX8_darkness 17 = .ok (.iload_n 2, 1) := by decide +kernel
theorem dX8_darkness_18 : decode cX8_darkness 18 = .ok (.iaload, 1) := by decide +kernel
theorem dX8_darkness_19 : decode cX8_darkness 19 = .ok (.iadd, 1) := by decide +kernel
theorem dX8_darkness_20 : decode cX8_darkness 20 = .ok (.istore_n 1, 1) := by decide +kernel
theorem dX8_darkness_21 : decode cX8_darkness 21 = .ok (.iinc 2 1, 3) := by decide +kernel
theorem dX8_darkness_24 : decode cX8_darkness 24 = .ok (.goto (-20), 3) := by decide +kernel
theorem dX8_darkness_27 : decode cX8_darkness 27 = .ok (.iload_n 1, 1) := by decide +kernel
theorem dX8_darkness_28 : decode cX8_darkness 28 = .ok (.ireturn, 1) := by decide +kernel
def mX8_darkness : MM := (yX8_darkness, cX8_darkness, 3, Option.some Jvm.ClassFile.FieldType.int, { frames := 1, cells := 0, slots := 0, locals := 20 })
def X8_darkness_L4 (σ_ : SS)   : Nat → Int32 → Int32 → Option Int32 :=
  lp (fun _ _ => none) fun rec v1_ v2_ =>
    if (fX8_all σ_) ≤ v2_ then (
      some v1_
      ) else (
      grd (inb v2_ 1600) <|
      vthen (v1_ + (gI σ_ 83 (Int32.toNatClampNeg v2_))) fun v2 =>
      rec v2 (v2_ + (1 : Int32))
      )

def fX8_darkness (σ0 : SS)  : Option Int32 :=
  X8_darkness_L4 σ0
  fuel (0 : Int32) (0 : Int32)

set_option maxRecDepth 20000 in
theorem sX8_darkness_L4 {g : GG} {r : Int32} {σ_ : SS} {σ0 : SS}   
    (hw_ : WT σ_)
    (h0_ : σ_ = σ0)
    (n : Nat) : ∀ (v1_ : Int32) (v2_ : Int32), X8_darkness_L4 σ_ n v1_ v2_ = some r → RR g mX8_darkness (FinR g mX8_darkness (some (.int r)) NF σ0) zF 4 [(0, .ref (ad g 73)), (1, .int v1_), (2, .int v2_)] [] σ_ := by
  unfold X8_darkness_L4
  refine lp_ind (P := fun (rec : Int32 → Int32 → Option Int32) => ∀ (v1_ : Int32) (v2_ : Int32), rec v1_ v2_ = some r → RR g mX8_darkness (FinR g mX8_darkness (some (.int r)) NF σ0) zF 4 [(0, .ref (ad g 73)), (1, .int v1_), (2, .int v2_)] [] σ_) ?_ ?_ n
  · intro v1_ v2_ hr; cases hr
  intro rec ih v1_ v2_ hr
  subst h0_
  refine r_iload_n (pc := 4) (j := 2) dX8_darkness_4 rfl rfl ?_
  refine r_aload_n (pc := 5) (j := 0) dX8_darkness_5 rfl rfl ?_
  refine kX8_all (pc := 6) (hf := rfl) tw_6_215 ⟨nle rfl, nle rfl⟩ (nle rfl) dX8_darkness_6 ?_
  refine r_icmp_ge (pc := 9) (tgt := 27) dX8_darkness_9 rfl (fun hc => ?_) (fun hc => ?_)
  · replace hr := ite_t hc hr
    refine r_iload_n (pc := 27) (j := 1) dX8_darkness_27 rfl rfl ?_
    exact l_opi hr (r_iret (pc := 28) (v := v1_) rfl rfl ⟨Nat.le_refl _, Nat.le_refl _⟩ dX8_darkness_28)
  replace hr := ite_f hc hr
  refine r_iload_n (pc := 12) (j := 1) dX8_darkness_12 rfl rfl ?_
  refine r_aload_n (pc := 13) (j := 0) dX8_darkness_13 rfl rfl ?_
  refine gf8_21 (pc := 14) tw_5_115 hw_ dX8_darkness_14 ?_
  refine r_iload_n (pc := 17) (j := 2) dX8_darkness_17 rfl rfl ?_
  obtain ⟨h1, hr⟩ := grd_inv hr
  refine x_iald (pc := 18) (k := (Int32.toNatClampNeg v2_)) rfl h1 rfl dX8_darkness_18 ?_
  refine r_iadd (pc := 19) dX8_darkness_19 ?_
  refine r_topi fun v2 ev2 => ?_
  replace hr := vthen_inv hr v2 ev2
  refine r_istore_n (pc := 20) (ls1 := [(1, .int v2), (0, .ref (ad g 73)), (2, .int v2_)]) dX8_darkness_20 rfl (nle rfl) rfl ?_
  refine r_iinc (pc := 21) (j := 2) (v := (v2_ + (1 : Int32))) (ls1 := [(2, .int (v2_ + (1 : Int32))), (1, .int v2), (0, .ref (ad g 73))]) dX8_darkness_21 rfl rfl (nle rfl) rfl ?_
  refine r_goto (pc := 24) (tgt := 4) dX8_darkness_24 rfl ?_
  exact r_pick (ls1 := [(0, .ref (ad g 73)), (1, .int v2), (2, .int (v2_ + (1 : Int32)))]) [2, 1, 0] rfl (ih v2 (v2_ + (1 : Int32)) hr)

set_option maxRecDepth 20000 in
theorem sX8_darkness {g : GG} {σ0 : SS}  {r : Int32} (hr : fX8_darkness σ0 = some r)  : Ct g mX8_darkness [.ref (ad g 73)] NF σ0 (some (.int r)) NF σ0 := by
  refine Ct.of (by decide +kernel) (nle rfl) fun hw0 => ?_
  have hw := hw0 rfl
  unfold fX8_darkness at hr
  change RR g mX8_darkness (FinR g mX8_darkness (some (.int r)) NF σ0) zF 0 [(0, .ref (ad g 73))] [] σ0
  refine r_iconst (pc := 0) (v := (0 : Int32)) dX8_darkness_0 rfl ?_
  refine r_istore_n (pc := 1) (ls1 := [(1, .int (0 : Int32)), (0, .ref (ad g 73))]) dX8_darkness_1 rfl (nle rfl) rfl ?_
  refine r_iconst (pc := 2) (v := (0 : Int32)) dX8_darkness_2 rfl ?_
  refine r_istore_n (pc := 3) (ls1 := [(2, .int (0 : Int32)), (1, .int (0 : Int32)), (0, .ref (ad g 73))]) dX8_darkness_3 rfl (nle rfl) rfl ?_
  refine r_pick (ls1 := [(0, .ref (ad g 73)), (1, .int (0 : Int32)), (2, .int (0 : Int32))]) [2, 1, 0] rfl ?_
  refine sX8_darkness_L4  hw rfl  fuel (0 : Int32) (0 : Int32) hr

theorem kX8_darkness {g : GG} {σ0 : SS}  {v : Int32} {M : MM} {F : State → Array Value → List Frame → State → Prop} {pc index : Nat} {ls : List (Nat × Value)} {rest : List Value} (hf : fX8_darkness σ0 = some v)  (hl : Cond.methodLink M.1.cls index yX8_darkness ∈ lw_gt) (hR : mX8_darkness.2.2.2.2.frames + 1 ≤ M.2.2.2.2.frames ∧ 8 + (mX8_darkness.2.2.1 + 11) + mX8_darkness.2.2.2.2.locals ≤ M.2.2.2.2.locals) (hrest : (rest.map fun v => v.category).sum ≤ 8) (hd : decode M.2.1 pc = .ok (.invokevirtual index, 3)) (k : RR g M F zF (pc + 3) ls (.int v :: rest) σ0) : RR g M F zF pc ls (.ref (ad g 73) :: rest) σ0 :=
  r_callV (N := mX8_darkness) (nn := 0) (o1 := some (.int v)) (sX8_darkness hf ) (rfl : shp 73 = (8, 0)) (by decide) (shp_le (rfl : shp 73 = (8, 0)) (nle rfl)) (ci := 8) rfl rfl tw_7_38 tw_1_10 hl tw_7_37 tp_65 ⟨by decide, by decide, rfl⟩ hR rfl hrest hd ⟨Nat.zero_le _, Nat.zero_le _⟩ rfl (fun h => k)

theorem dX8_count_0 : decode cX8_count 0 = .ok (.iload_n 1, 1) := by decide +kernel
theorem dX8_count_1 : decode cX8_count 1 = .ok (.tableswitch 116 0 10 #[59, 64, 69, 74, 79, 85, 91, 96, 101, 106, 111], 59) := by decide +kernel
theorem dX8_count_60 : decode cX8_count 60 = .ok (.aload_n 0, 1) := by decide +kernel
theorem dX8_count_61 : decode cX8_count 61 = .ok (.getfield 132, 3) := by decide +kernel
theorem dX8_count_64 : decode cX8_count 64 = .ok (.ireturn, 1) := by decide +kernel
theorem dX8_count_65 : decode cX8_count 65 = .ok (.aload_n 0, 1) := by decide +kernel
theorem dX8_count_66 : decode cX8_count 66 = .ok (.getfield 136, 3) := by decide +kernel
theorem dX8_count_69 : decode cX8_count 69 = .ok (.ireturn, 1) := by decide +kernel
theorem dX8_count_70 : decode cX8_count 70 = .ok (.aload_n 0, 1) := by decide +kernel
theorem dX8_count_71 : decode cX8_count 71 = .ok (.invokevirtual 266, 3) := by decide +kernel
theorem dX8_count_74 : decode cX8_count 74 = .ok (.ireturn, 1) := by decide +kernel
theorem dX8_count_75 : decode cX8_count 75 = .ok (.aload_n 0, 1) := by decide +kernel
theorem dX8_count_76 : decode cX8_count 76 = .ok (.invokevirtual 304, 3) := by decide +kernel
theorem dX8_count_79 : decode cX8_count 79 = .ok (.ireturn, 1) := by decide +kernel
theorem dX8_count_80 : decode cX8_count 80 = .ok (.aload_n 0, 1) := by decide +kernel
theorem dX8_count_81 : decode cX8_count 81 = .ok (.iconst 0, 1) := by decide +kernel
theorem dX8_count_82 : decode cX8_count 82 = .ok (.invokevirtual 262, 3) := by decide +kernel
theorem dX8_count_85 : decode cX8_count 85 = .ok (.ireturn, 1) := by decide +kernel
theorem dX8_count_86 : decode cX8_count 86 = .ok (.aload_n 0, 1) := by decide +kernel
theorem dX8_count_87 : decode cX8_count 87 = .ok (.iconst 1, 1) := by decide +kernel
theorem dX8_count_88 : decode cX8_count 88 = .ok (.invokevirtual 262, 3) := by decide +kernel
theorem dX8_count_91 : decode cX8_count 91 = .ok (.ireturn, 1) := by decide +kernel
theorem dX8_count_92 : decode cX8_count 92 = .ok (.aload_n 0, 1) := by decide +kernel
theorem dX8_count_93 : decode cX8_count 93 = .ok (.getfield 142, 3) := by decide +kernel
theorem dX8_count_96 : decode cX8_count 96 = .ok (.ireturn, 1) := by decide +kernel
theorem dX8_count_97 : decode cX8_count 97 = .ok (.aload_n 0, 1) := by decide +kernel
theorem dX8_count_98 : decode cX8_count 98 = .ok (.getfield 139, 3) := by decide +kernel
theorem dX8_count_101 : decode cX8_count 101 = .ok (.ireturn, 1) := by decide +kernel
theorem dX8_count_102 : decode cX8_count 102 = .ok (.aload_n 0, 1) := by decide +kernel
theorem dX8_count_103 : decode cX8_count 103 = .ok (.getfield 259, 3) := by decide +kernel
theorem dX8_count_106 : decode cX8_count 106 = .ok (.ireturn, 1) := by decide +kernel
theorem dX8_count_107 : decode cX8_count 107 = .ok (.aload_n 0, 1) := by decide +kernel
theorem dX8_count_108 : decode cX8_count 108 = .ok (.invokevirtual 307, 3) := by decide +kernel
theorem dX8_count_111 : decode cX8_count 111 = .ok (.ireturn, 1) := by decide +kernel
theorem dX8_count_112 : decode cX8_count 112 = .ok (.aload_n 0, 1) := by decide +kernel
theorem dX8_count_113 : decode cX8_count 113 = .ok (.invokevirtual 310, 3) := by decide +kernel
theorem dX8_count_116 : decode cX8_count 116 = .ok (.ireturn, 1) := by decide +kernel
theorem dX8_count_117 : decode cX8_count 117 = .ok (.iconst (-1), 1) := by decide +kernel
theorem dX8_count_118 : decode cX8_count 118 = .ok (.ireturn, 1) := by decide +kernel
def mX8_count : MM := (yX8_count, cX8_count, 2, Option.some Jvm.ClassFile.FieldType.int, { frames := 3, cells := 0, slots := 0, locals := 63 })
def fX8_count (σ0 : SS) (a1 : Int32) : Option Int32 :=
  if a1 = (0 : Int32) then (
    some (gI σ0 73 29)
    ) else
  if a1 = (1 : Int32) then (
    some (gI σ0 73 30)
    ) else
  if a1 = (2 : Int32) then (
    bnd1 (fX8_questions σ0) fun v1 =>
    some v1
    ) else
  if a1 = (3 : Int32) then (
    bnd1 (fX8_allBoxes σ0) fun v4 =>
    some v4
    ) else
  if a1 = (4 : Int32) then (
    bnd1 (fX8_headOf σ0 (0 : Int32)) fun v7 =>
    some v7
    ) else
  if a1 = (5 : Int32) then (
    bnd1 (fX8_headOf σ0 (1 : Int32)) fun v10 =>
    some v10
    ) else
  if a1 = (6 : Int32) then (
    some (gI σ0 73 1)
    ) else
  if a1 = (7 : Int32) then (
    some (gI σ0 73 31)
    ) else
  if a1 = (8 : Int32) then (
    some (gI σ0 73 65)
    ) else
  if a1 = (9 : Int32) then (
    bnd1 (fX8_inked σ0) fun v13 =>
    some v13
    ) else
  if a1 = (10 : Int32) then (
    bnd1 (fX8_darkness σ0) fun v16 =>
    some v16
    ) else
  some (-1 : Int32)

set_option maxRecDepth 20000 in
theorem sX8_count {g : GG} {σ0 : SS} {a1 : Int32} {r : Int32} (hr : fX8_count σ0 a1 = some r)  : Ct g mX8_count [.ref (ad g 73), .int a1] NF σ0 (some (.int r)) NF σ0 := by
  refine Ct.of (by decide +kernel) (nle rfl) fun hw0 => ?_
  have hw := hw0 rfl
  unfold fX8_count at hr
  change RR g mX8_count (FinR g mX8_count (some (.int r)) NF σ0) zF 0 [(0, .ref (ad g 73)), (1, .int a1)] [] σ0
  refine r_iload_n (pc := 0) (j := 1) dX8_count_0 rfl rfl ?_
  by_cases hc0 : a1 = (0 : Int32)
  · replace hr := ite_t hc0 hr
    refine r_tabIn (pc := 1) (off := 59) (tgt := 60) dX8_count_1 (by rw [hc0]; decide) (by rw [hc0]; decide) (by rw [hc0]; rfl) rfl ?_
    refine r_aload_n (pc := 60) (j := 0) dX8_count_60 rfl rfl ?_
    refine gf8_29 (pc := 61) tw_5_123 rfl dX8_count_61 ?_
    exact l_opi hr (r_iret (pc := 64) (v := (gI σ0 73 29)) rfl rfl ⟨Nat.le_refl _, Nat.le_refl _⟩ dX8_count_64)
  replace hr := ite_f hc0 hr
  by_cases hc1 : a1 = (1 : Int32)
  · replace hr := ite_t hc1 hr
    refine r_tabIn (pc := 1) (off := 64) (tgt := 65) dX8_count_1 (by rw [hc1]; decide) (by rw [hc1]; decide) (by rw [hc1]; rfl) rfl ?_
    refine r_aload_n (pc := 65) (j := 0) dX8_count_65 rfl rfl ?_
    refine gf8_30 (pc := 66) tw_5_124 rfl dX8_count_66 ?_
    exact l_opi hr (r_iret (pc := 69) (v := (gI σ0 73 30)) rfl rfl ⟨Nat.le_refl _, Nat.le_refl _⟩ dX8_count_69)
  replace hr := ite_f hc1 hr
  by_cases hc2 : a1 = (2 : Int32)
  · replace hr := ite_t hc2 hr
    refine r_tabIn (pc := 1) (off := 69) (tgt := 70) dX8_count_1 (by rw [hc2]; decide) (by rw [hc2]; decide) (by rw [hc2]; rfl) rfl ?_
    refine r_aload_n (pc := 70) (j := 0) dX8_count_70 rfl rfl ?_
    obtain ⟨v1, hv1, hr⟩ := bnd1_inv hr
    refine kX8_questions (pc := 71) hv1 tw_6_145 ⟨nle rfl, nle rfl⟩ (nle rfl) dX8_count_71 ?_
    exact l_opi hr (r_iret (pc := 74) (v := v1) rfl rfl ⟨Nat.le_refl _, Nat.le_refl _⟩ dX8_count_74)
  replace hr := ite_f hc2 hr
  by_cases hc3 : a1 = (3 : Int32)
  · replace hr := ite_t hc3 hr
    refine r_tabIn (pc := 1) (off := 74) (tgt := 75) dX8_count_1 (by rw [hc3]; decide) (by rw [hc3]; decide) (by rw [hc3]; rfl) rfl ?_
    refine r_aload_n (pc := 75) (j := 0) dX8_count_75 rfl rfl ?_
    obtain ⟨v4, hv4, hr⟩ := bnd1_inv hr
    refine kX8_allBoxes (pc := 76) hv4 tw_7_23 ⟨nle rfl, nle rfl⟩ (nle rfl) dX8_count_76 ?_
    exact l_opi hr (r_iret (pc := 79) (v := v4) rfl rfl ⟨Nat.le_refl _, Nat.le_refl _⟩ dX8_count_79)
  replace hr := ite_f hc3 hr
  by_cases hc4 : a1 = (4 : Int32)
  · replace hr := ite_t hc4 hr
    refine r_tabIn (pc := 1) (off := 79) (tgt := 80) dX8_count_1 (by rw [hc4]; decide) (by rw [hc4]; decide) (by rw [hc4]; rfl) rfl ?_
    refine r_aload_n (pc := 80) (j := 0) dX8_count_80 rfl rfl ?_
    refine r_iconst (pc := 81) (v := (0 : Int32)) dX8_count_81 rfl ?_
    obtain ⟨v7, hv7, hr⟩ := bnd1_inv hr
    refine kX8_headOf (pc := 82) hv7 tw_6_149 ⟨nle rfl, nle rfl⟩ (nle rfl) dX8_count_82 ?_
    exact l_opi hr (r_iret (pc := 85) (v := v7) rfl rfl ⟨Nat.le_refl _, Nat.le_refl _⟩ dX8_count_85)
  replace hr := ite_f hc4 hr
  by_cases hc5 : a1 = (5 : Int32)
  · replace hr := ite_t hc5 hr
    refine r_tabIn (pc := 1) (off := 85) (tgt := 86) dX8_count_1 (by rw [hc5]; decide) (by rw [hc5]; decide) (by rw [hc5]; rfl) rfl ?_
    refine r_aload_n (pc := 86) (j := 0) dX8_count_86 rfl rfl ?_
    refine r_iconst (pc := 87) (v := (1 : Int32)) dX8_count_87 rfl ?_
    obtain ⟨v10, hv10, hr⟩ := bnd1_inv hr
    refine kX8_headOf (pc := 88) hv10 tw_6_149 ⟨nle rfl, nle rfl⟩ (nle rfl) dX8_count_88 ?_
    exact l_opi hr (r_iret (pc := 91) (v := v10) rfl rfl ⟨Nat.le_refl _, Nat.le_refl _⟩ dX8_count_91)
  replace hr := ite_f hc5 hr
  by_cases hc6 : a1 = (6 : Int32)
  · replace hr := ite_t hc6 hr
    refine r_tabIn (pc := 1) (off := 91) (tgt := 92) dX8_count_1 (by rw [hc6]; decide) (by rw [hc6]; decide) (by rw [hc6]; rfl) rfl ?_
    refine r_aload_n (pc := 92) (j := 0) dX8_count_92 rfl rfl ?_
    refine gf8_1 (pc := 93) tw_5_95 rfl dX8_count_93 ?_
    exact l_opi hr (r_iret (pc := 96) (v := (gI σ0 73 1)) rfl rfl ⟨Nat.le_refl _, Nat.le_refl _⟩ dX8_count_96)
  replace hr := ite_f hc6 hr
  by_cases hc7 : a1 = (7 : Int32)
  · replace hr := ite_t hc7 hr
    refine r_tabIn (pc := 1) (off := 96) (tgt := 97) dX8_count_1 (by rw [hc7]; decide) (by rw [hc7]; decide) (by rw [hc7]; rfl) rfl ?_
    refine r_aload_n (pc := 97) (j := 0) dX8_count_97 rfl rfl ?_
    refine gf8_31 (pc := 98) tw_5_125 rfl dX8_count_98 ?_
    exact l_opi hr (r_iret (pc := 101) (v := (gI σ0 73 31)) rfl rfl ⟨Nat.le_refl _, Nat.le_refl _⟩ dX8_count_101)
  replace hr := ite_f hc7 hr
  by_cases hc8 : a1 = (8 : Int32)
  · replace hr := ite_t hc8 hr
    refine r_tabIn (pc := 1) (off := 101) (tgt := 102) dX8_count_1 (by rw [hc8]; decide) (by rw [hc8]; decide) (by rw [hc8]; rfl) rfl ?_
    refine r_aload_n (pc := 102) (j := 0) dX8_count_102 rfl rfl ?_
    refine gf8_65 (pc := 103) tw_5_159 rfl dX8_count_103 ?_
    exact l_opi hr (r_iret (pc := 106) (v := (gI σ0 73 65)) rfl rfl ⟨Nat.le_refl _, Nat.le_refl _⟩ dX8_count_106)
  replace hr := ite_f hc8 hr
  by_cases hc9 : a1 = (9 : Int32)
  · replace hr := ite_t hc9 hr
    refine r_tabIn (pc := 1) (off := 106) (tgt := 107) dX8_count_1 (by rw [hc9]; decide) (by rw [hc9]; decide) (by rw [hc9]; rfl) rfl ?_
    refine r_aload_n (pc := 107) (j := 0) dX8_count_107 rfl rfl ?_
    obtain ⟨v13, hv13, hr⟩ := bnd1_inv hr
    refine kX8_inked (pc := 108) hv13 tw_7_31 ⟨nle rfl, nle rfl⟩ (nle rfl) dX8_count_108 ?_
    exact l_opi hr (r_iret (pc := 111) (v := v13) rfl rfl ⟨Nat.le_refl _, Nat.le_refl _⟩ dX8_count_111)
  replace hr := ite_f hc9 hr
  by_cases hc10 : a1 = (10 : Int32)
  · replace hr := ite_t hc10 hr
    refine r_tabIn (pc := 1) (off := 111) (tgt := 112) dX8_count_1 (by rw [hc10]; decide) (by rw [hc10]; decide) (by rw [hc10]; rfl) rfl ?_
    refine r_aload_n (pc := 112) (j := 0) dX8_count_112 rfl rfl ?_
    obtain ⟨v16, hv16, hr⟩ := bnd1_inv hr
    refine kX8_darkness (pc := 113) hv16 tw_7_35 ⟨nle rfl, nle rfl⟩ (nle rfl) dX8_count_113 ?_
    exact l_opi hr (r_iret (pc := 116) (v := v16) rfl rfl ⟨Nat.le_refl _, Nat.le_refl _⟩ dX8_count_116)
  replace hr := ite_f hc10 hr
  refine r_tabOut (pc := 1) (tgt := 117) dX8_count_1 (tab_out (by decide) (by decide) fun k h1 h2 => ?_) rfl ?_
  · rcases (show k = 0 ∨ k = 1 ∨ k = 2 ∨ k = 3 ∨ k = 4 ∨ k = 5 ∨ k = 6 ∨ k = 7 ∨ k = 8 ∨ k = 9 ∨ k = 10 by omega) with rfl | rfl | rfl | rfl | rfl | rfl | rfl | rfl | rfl | rfl | rfl
    · exact hc0
    · exact hc1
    · exact hc2
    · exact hc3
    · exact hc4
    · exact hc5
    · exact hc6
    · exact hc7
    · exact hc8
    · exact hc9
    · exact hc10
  refine r_iconst (pc := 117) (v := (-1 : Int32)) dX8_count_117 rfl ?_
  exact l_opi hr (r_iret (pc := 118) (v := (-1 : Int32)) rfl rfl ⟨Nat.le_refl _, Nat.le_refl _⟩ dX8_count_118)

theorem kX8_count {g : GG} {σ0 : SS} {a1 : Int32} {v : Int32} {M : MM} {F : State → Array Value → List Frame → State → Prop} {pc index : Nat} {ls : List (Nat × Value)} {rest : List Value} (hf : fX8_count σ0 a1 = some v)  (hl : Cond.methodLink M.1.cls index yX8_count ∈ lw_gt) (hR : mX8_count.2.2.2.2.frames + 1 ≤ M.2.2.2.2.frames ∧ 8 + (mX8_count.2.2.1 + 11) + mX8_count.2.2.2.2.locals ≤ M.2.2.2.2.locals) (hrest : (rest.map fun v => v.category).sum ≤ 8) (hd : decode M.2.1 pc = .ok (.invokevirtual index, 3)) (k : RR g M F zF (pc + 3) ls (.int v :: rest) σ0) : RR g M F zF pc ls (.int a1 :: .ref (ad g 73) :: rest) σ0 :=
  r_callV (N := mX8_count) (nn := 1) (o1 := some (.int v)) (sX8_count hf ) (rfl : shp 73 = (8, 0)) (by decide) (shp_le (rfl : shp 73 = (8, 0)) (nle rfl)) (ci := 8) rfl rfl tw_7_22 tw_1_10 hl tw_7_20 tw_7_21 ⟨by decide, by decide, rfl⟩ hR rfl hrest hd ⟨Nat.zero_le _, Nat.zero_le _⟩ rfl (fun h => k)

theorem dX1_hasQuestion_0 : decode cX1_hasQuestion 0 = .ok (.iload_n 1, 1) := by decide +kernel
theorem dX1_hasQuestion_1 : decode cX1_hasQuestion 1 = .ok (.ifCond .lt 15, 3) := by decide +kernel
theorem dX1_hasQuestion_4 : decode cX1_hasQuestion 4 = .ok (.iload_n 1, 1) := by decide +kernel
theorem dX1_hasQuestion_5 : decode cX1_hasQuestion 5 = .ok (.aload_n 0, 1) := by decide +kernel
theorem dX1_hasQuestion_6 : decode cX1_hasQuestion 6 = .ok (.getfield 51, 3) := by decide +kernel
theorem dX1_hasQuestion_9 : decode cX1_hasQuestion 9 = .ok (.if_icmp .ge 7, 3) := by decide +kernel
theorem dX1_hasQuestion_12 : decode cX1_hasQuestion 12 = .ok (.iconst 1, 1) := by decide +kernel
theorem dX1_hasQuestion_13 : decode cX1_hasQuestion 13 = .ok (.goto 4, 3) := by decide +kernel
theorem dX1_hasQuestion_16 : decode cX1_hasQuestion 16 = .ok (.iconst 0, 1) := by decide +kernel
theorem dX1_hasQuestion_17 : decode cX1_hasQuestion 17 = .ok (.ireturn, 1) := by decide +kernel
def mX1_hasQuestion : MM := (yX1_hasQuestion, cX1_hasQuestion, 2, Option.some Jvm.ClassFile.FieldType.boolean, { frames := 0, cells := 0, slots := 0, locals := 0 })
def fX1_hasQuestion (σ0 : SS) (a0 : Nat) (a1 : Int32) : Bool :=
  vthen (fun (_u : Unit) =>
    false
    ) fun j16 =>
  if a1 < 0 then (
    j16 ()
    ) else (
    if (gI σ0 a0 5) ≤ a1 then (
      j16 ()
      ) else (
      true
      )
    )

set_option maxRecDepth 20000 in
theorem sX1_hasQuestion {g : GG} {σ0 : SS} {a0 : Nat} {a1 : Int32} {r : Bool} (hr : fX1_hasQuestion σ0 a0 a1 = r) (hs0 : shp a0 = (1, 0)) : Ct g mX1_hasQuestion [.ref (ad g a0), .int a1] NF σ0 (some (.int (b2i r))) NF σ0 := by
  refine Ct.of (by decide +kernel) (nle rfl) fun hw0 => ?_
  have hw := hw0 rfl
  unfold fX1_hasQuestion at hr
  change RR g mX1_hasQuestion (FinR g mX1_hasQuestion (some (.int (b2i r))) NF σ0) zF 0 [(0, .ref (ad g a0)), (1, .int a1)] [] σ0
  refine r_iload_n (pc := 0) (j := 1) dX1_hasQuestion_0 rfl rfl ?_
  obtain ⟨j16, ej16, hr⟩ := vth_ex hr
  have hj16 : j16 () = r → RR g mX1_hasQuestion (FinR g mX1_hasQuestion (some (.int (b2i r))) NF σ0) zF 16 [] [] σ0 := by
    intro  hr
    replace hr := (congrFun ej16 ()).symm.trans hr
    refine r_iconst (pc := 16) (v := (0 : Int32)) dX1_hasQuestion_16 rfl ?_
    exact l_pz hr (r_zret (pc := 17) (v := b2i false) (ty := .boolean) rfl (b2i_nar _) rfl ⟨Nat.le_refl _, Nat.le_refl _⟩ dX1_hasQuestion_17)
  refine r_if_lt (pc := 1) (tgt := 16) dX1_hasQuestion_1 rfl (fun hc => ?_) (fun hc => ?_)
  · replace hr := ite_t hc hr
    exact r_pick (ls1 := []) [] rfl (hj16  hr)
  replace hr := ite_f hc hr
  refine r_iload_n (pc := 4) (j := 1) dX1_hasQuestion_4 rfl rfl ?_
  refine r_aload_n (pc := 5) (j := 0) dX1_hasQuestion_5 rfl rfl ?_
  refine gf1_5 (pc := 6) tw_1_78 hs0 dX1_hasQuestion_6 ?_
  refine r_icmp_ge (pc := 9) (tgt := 16) dX1_hasQuestion_9 rfl (fun hc => ?_) (fun hc => ?_)
  · replace hr := ite_t hc hr
    exact r_pick (ls1 := []) [] rfl (hj16  hr)
  replace hr := ite_f hc hr
  refine r_iconst (pc := 12) (v := (1 : Int32)) dX1_hasQuestion_12 rfl ?_
  refine r_goto (pc := 13) (tgt := 17) dX1_hasQuestion_13 rfl ?_
  exact l_pz hr (r_zret (pc := 17) (v := b2i true) (ty := .boolean) rfl (b2i_nar _) rfl ⟨Nat.le_refl _, Nat.le_refl _⟩ dX1_hasQuestion_17)

theorem kX1_hasQuestion {g : GG} {σ0 : SS} {a0 : Nat} {a1 : Int32} {v : Bool} {M : MM} {F : State → Array Value → List Frame → State → Prop} {pc index : Nat} {ls : List (Nat × Value)} {rest : List Value} (hf : fX1_hasQuestion σ0 a0 a1 = v) (hs0 : shp a0 = (1, 0)) (hl : Cond.methodLink M.1.cls index yX1_hasQuestion ∈ lw_gt) (hR : mX1_hasQuestion.2.2.2.2.frames + 1 ≤ M.2.2.2.2.frames ∧ 8 + (mX1_hasQuestion.2.2.1 + 11) + mX1_hasQuestion.2.2.2.2.locals ≤ M.2.2.2.2.locals) (hrest : (rest.map fun v => v.category).sum ≤ 8) (hd : decode M.2.1 pc = .ok (.invokevirtual index, 3)) (k : RR g M F zF (pc + 3) ls (.int (b2i v) :: rest) σ0) : RR g M F zF pc ls (.int a1 :: .ref (ad g a0) :: rest) σ0 :=
  r_callV (N := mX1_hasQuestion) (nn := 1) (o1 := some (.int (b2i v))) (sX1_hasQuestion hf hs0) hs0 (by decide) (shp_le hs0 (nle rfl)) (ci := 1) rfl rfl tw_3_90 tw_1_3 hl tw_3_88 tw_3_89 ⟨by decide, by decide, rfl⟩ hR rfl hrest hd ⟨Nat.zero_le _, Nat.zero_le _⟩ rfl (fun h => k)

theorem dX1_hasBox_0 : decode cX1_hasBox 0 = .ok (.aload_n 0, 1) := by decide +kernel
theorem dX1_hasBox_1 : decode cX1_hasBox 1 = .ok (.iload_n 1, 1) := by decide +kernel
theorem dX1_hasBox_2 : decode cX1_hasBox 2 = .ok (.invokevirtual 57, 3) := by decide +kernel
theorem dX1_hasBox_5 : decode cX1_hasBox 5 = .ok (.ifCond .eq 21, 3) := by decide +kernel
theorem dX1_hasBox_8 : decode cX1_hasBox 8 = .ok (.iload_n 2, 1) := by decide +kernel
theorem dX1_hasBox_9 : decode cX1_hasBox 9 = .ok (.ifCond .lt 17, 3) := by decide +kernel
theorem dX1_hasBox_12 : decode cX1_hasBox 12 = .ok (.iload_n 2, 1) := by decide +kernel
theorem dX1_hasBox_13 : decode cX1_hasBox 13 = .ok (.aload_n 0, 1) := by decide +kernel
theorem dX1_hasBox_14 : decode cX1_hasBox 14 = .ok (.getfield 19, 3) := by decide +kernel
theorem dX1_hasBox_17 : decode cX1_hasBox 17 = .ok (.iload_n 1, 1) := by decide +kernel
theorem dX1_hasBox_18 : decode cX1_hasBox 18 = .ok (.iaload, 1) := by decide +kernel
theorem dX1_hasBox_19 : decode cX1_hasBox 19 = .ok (.if_icmp .ge 7, 3) := by decide +kernel
theorem dX1_hasBox_22 : decode cX1_hasBox 22 = .ok (.iconst 1, 1) := by decide +kernel
theorem dX1_hasBox_23 : decode cX1_hasBox 23 = .ok (.goto 4, 3) := by decide +kernel
theorem dX1_hasBox_26 : decode cX1_hasBox 26 = .ok (.iconst 0, 1) := by decide +kernel
theorem dX1_hasBox_27 : decode cX1_hasBox 27 = .ok (.ireturn, 1) := by decide +kernel
def mX1_hasBox : MM := (yX1_hasBox, cX1_hasBox, 3, Option.some Jvm.ClassFile.FieldType.boolean, { frames := 1, cells := 0, slots := 0, locals := 21 })
def fX1_hasBox (σ0 : SS) (a0 : Nat) (a1 : Int32) (a2 : Int32) : Option Bool :=
  vthen (fun (_u : Unit) =>
    some false
    ) fun j26 =>
  if (fX1_hasQuestion σ0 a0 a1) = true then (
    if a2 < 0 then (
      j26 ()
      ) else (
      grd (inb a1 12) <|
      if (gI σ0 (a0 + 3) (Int32.toNatClampNeg a1)) ≤ a2 then (
        j26 ()
        ) else (
        some true
        )
      )
    ) else (
    j26 ()
    )

set_option maxRecDepth 20000 in
theorem sX1_hasBox {g : GG} {σ0 : SS} {a0 : Nat} {a1 : Int32} {a2 : Int32} {r : Bool} (hr : fX1_hasBox σ0 a0 a1 a2 = some r) (hs0 : shp a0 = (1, 0)) : Ct g mX1_hasBox [.ref (ad g a0), .int a1, .int a2] NF σ0 (some (.int (b2i r))) NF σ0 := by
  refine Ct.of (by decide +kernel) (nle rfl) fun hw0 => ?_
  have hw := hw0 rfl
  unfold fX1_hasBox at hr
  change RR g mX1_hasBox (FinR g mX1_hasBox (some (.int (b2i r))) NF σ0) zF 0 [(0, .ref (ad g a0)), (1, .int a1), (2, .int a2)] [] σ0
  refine r_aload_n (pc := 0) (j := 0) dX1_hasBox_0 rfl rfl ?_
  refine r_iload_n (pc := 1) (j := 1) dX1_hasBox_1 rfl rfl ?_
  refine kX1_hasQuestion (pc := 2) (hf := rfl) hs0 tw_3_95 ⟨nle rfl, nle rfl⟩ (nle rfl) dX1_hasBox_2 ?_
  obtain ⟨j26, ej26, hr⟩ := vth_ex hr
  have hj26 : j26 () = some r → RR g mX1_hasBox (FinR g mX1_hasBox (some (.int (b2i r))) NF σ0) zF 26 [] [] σ0 := by
    intro  hr
    replace hr := (congrFun ej26 ()).symm.trans hr
    refine r_iconst (pc := 26) (v := (0 : Int32)) dX1_hasBox_26 rfl ?_
    exact l_opz hr (r_zret (pc := 27) (v := b2i false) (ty := .boolean) rfl (b2i_nar _) rfl ⟨Nat.le_refl _, Nat.le_refl _⟩ dX1_hasBox_27)
  refine r_ifB_eq (pc := 5) (tgt := 26) dX1_hasBox_5 rfl (fun hc => ?_) (fun hc => ?_)
  · replace hr := ite_f hc hr
    exact r_pick (ls1 := []) [] rfl (hj26  hr)
  replace hr := ite_t hc hr
  refine r_iload_n (pc := 8) (j := 2) dX1_hasBox_8 rfl rfl ?_
  refine r_if_lt (pc := 9) (tgt := 26) dX1_hasBox_9 rfl (fun hc => ?_) (fun hc => ?_)
  · replace hr := ite_t hc hr
    exact r_pick (ls1 := []) [] rfl (hj26  hr)
  replace hr := ite_f hc hr
  refine r_iload_n (pc := 12) (j := 2) dX1_hasBox_12 rfl rfl ?_
  refine r_aload_n (pc := 13) (j := 0) dX1_hasBox_13 rfl rfl ?_
  refine gf1_9 (pc := 14) tw_1_91 hw hs0 dX1_hasBox_14 ?_
  refine r_iload_n (pc := 17) (j := 1) dX1_hasBox_17 rfl rfl ?_
  obtain ⟨h1, hr⟩ := grd_inv hr
  refine x_iald (pc := 18) (k := (Int32.toNatClampNeg a1)) (sh1_9 hs0) h1 rfl dX1_hasBox_18 ?_
  refine r_icmp_ge (pc := 19) (tgt := 26) dX1_hasBox_19 rfl (fun hc => ?_) (fun hc => ?_)
  · replace hr := ite_t hc hr
    exact r_pick (ls1 := []) [] rfl (hj26  hr)
  replace hr := ite_f hc hr
  refine r_iconst (pc := 22) (v := (1 : Int32)) dX1_hasBox_22 rfl ?_
  refine r_goto (pc := 23) (tgt := 27) dX1_hasBox_23 rfl ?_
  exact l_opz hr (r_zret (pc := 27) (v := b2i true) (ty := .boolean) rfl (b2i_nar _) rfl ⟨Nat.le_refl _, Nat.le_refl _⟩ dX1_hasBox_27)

theorem kX1_hasBox {g : GG} {σ0 : SS} {a0 : Nat} {a1 : Int32} {a2 : Int32} {v : Bool} {M : MM} {F : State → Array Value → List Frame → State → Prop} {pc index : Nat} {ls : List (Nat × Value)} {rest : List Value} (hf : fX1_hasBox σ0 a0 a1 a2 = some v) (hs0 : shp a0 = (1, 0)) (hl : Cond.methodLink M.1.cls index yX1_hasBox ∈ lw_gt) (hR : mX1_hasBox.2.2.2.2.frames + 1 ≤ M.2.2.2.2.frames ∧ 8 + (mX1_hasBox.2.2.1 + 11) + mX1_hasBox.2.2.2.2.locals ≤ M.2.2.2.2.locals) (hrest : (rest.map fun v => v.category).sum ≤ 8) (hd : decode M.2.1 pc = .ok (.invokevirtual index, 3)) (k : RR g M F zF (pc + 3) ls (.int (b2i v) :: rest) σ0) : RR g M F zF pc ls (.int a2 :: .int a1 :: .ref (ad g a0) :: rest) σ0 :=
  r_callV (N := mX1_hasBox) (nn := 2) (o1 := some (.int (b2i v))) (sX1_hasBox hf hs0) hs0 (by decide) (shp_le hs0 (nle rfl)) (ci := 1) rfl rfl tw_3_94 tw_1_3 hl tw_3_92 tw_3_93 ⟨by decide, by decide, rfl⟩ hR rfl hrest hd ⟨Nat.zero_le _, Nat.zero_le _⟩ rfl (fun h => k)

theorem dX7_question_0 : decode cX7_question 0 = .ok (.aload_n 0, 1) := by decide +kernel
theorem dX7_question_1 : decode cX7_question 1 = .ok (.getfield 32, 3) := by decide +kernel
theorem dX7_question_4 : decode cX7_question 4 = .ok (.iload_n 1, 1) := by decide +kernel
theorem dX7_question_5 : decode cX7_question 5 = .ok (.invokevirtual 121, 3) := by decide +kernel
theorem dX7_question_8 : decode cX7_question 8 = .ok (.ifCond .ne 5, 3) := by decide +kernel
theorem dX7_question_11 : decode cX7_question 11 = .ok (.iconst (-1), 1) := by decide +kernel
theorem dX7_question_12 : decode cX7_question 12 = .ok (.ireturn, 1) := by decide +kernel
theorem dX7_question_13 : decode cX7_question 13 = .ok (.iload_n 2, 1) := by decide +kernel
theorem dX7_question_14 : decode cX7_question 14 = .ok (.tableswitch 78 0 3 #[30, 48, 58, 68], 30) := by decide +kernel
theorem dX7_question_44 : decode cX7_question 44 = .ok (.aload_n 0, 1) := by decide +kernel
theorem dX7_question_45 : decode cX7_question 45 = .ok (.getfield 32, 3) := by decide +kernel
theorem dX7_question_48 : decode cX7_question 48 = .ok (.getfield 125, 3) := by decide +kernel
theorem dX7_question_51 : decode cX7_question 51 = .ok (.iload_n 1, 1) := by decide +kernel
theorem dX7_question_52 : decode cX7_question 52 = .ok (.baload, 1) := by decide +kernel
theorem dX7_question_53 : decode cX7_question 53 = .ok (.ifCond .eq 7, 3) := by decide +kernel
theorem dX7_question_56 : decode cX7_question 56 = .ok (.iconst 2, 1) := by decide +kernel
theorem dX7_question_57 : decode cX7_question 57 = .ok (.goto 4, 3) := by decide +kernel
theorem dX7_question_60 : decode cX7_question 60 = .ok (.iconst 1, 1) := by decide +kernel
theorem dX7_question_61 : decode cX7_question 61 = .ok (.ireturn, 1) := by decide +kernel
theorem dX7_question_62 : decode cX7_question 62 = .ok (.aload_n 0, 1) := by decide +kernel
theorem dX7_question_63 : decode cX7_question 63 = .ok (.getfield 32, 3) := by decide +kernel
theorem dX7_question_66 : decode cX7_question 66 = .ok (.getfield 129, 3) := by decide +kernel
theorem dX7_question_69 : decode cX7_question 69 = .ok (.iload_n 1, 1) := by decide +kernel
theorem dX7_question_70 : decode cX7_question 70 = .ok (.iaload, 1) := by decide +kernel
theorem dX7_question_71 : decode cX7_question 71 = .ok (.ireturn, 1) := by decide +kernel
theorem dX7_question_72 : decode cX7_question 72 = .ok (.aload_n 0, 1) := by decide +kernel
theorem dX7_question_73 : decode cX7_question 73 = .ok (.getfield 32, 3) := by decide +kernel
theorem dX7_question_76 : decode cX7_question 76 = .ok (.getfield 132, 3) := by decide +kernel
theorem dX7_question_79 : decode cX7_question 79 = .ok (.iload_n 1, 1) := by decide +kernel
theorem dX7_question_80 : decode cX7_question 80 = .ok (.iaload, 1) := by decide +kernel
theorem dX7_question_81 : decode cX7_question 81 = .ok (.ireturn, 1) := by decide +kernel
theorem dX7_question_82 : decode cX7_question 82 = .ok (.aload_n 0, 1) := by decide +kernel
theorem dX7_question_83 : decode cX7_question 83 = .ok (.getfield 32, 3) := by decide +kernel
theorem dX7_question_86 : decode cX7_question 86 = .ok (.getfield 135, 3) := by decide +kernel
theorem dX7_question_89 : decode cX7_question 89 = .ok (.iload_n 1, 1) := by decide +kernel
theorem dX7_question_90 : decode cX7_question 90 = .ok (.iaload, 1) := by decide +kernel
theorem dX7_question_91 : decode cX7_question 91 = .ok (.ireturn, 1) := by decide +kernel
theorem dX7_question_92 : decode cX7_question 92 = .ok (.iload_n 2, 1) := by decide +kernel
theorem dX7_question_93 : decode cX7_question 93 = .ok (.bipush 10, 2) := by decide +kernel
theorem dX7_question_95 : decode cX7_question 95 = .ok (.if_icmp .lt 47, 3) := by decide +kernel
theorem dX7_question_98 : decode cX7_question 98 = .ok (.iload_n 2, 1) := by decide +kernel
theorem dX7_question_99 : decode cX7_question 99 = .ok (.bipush 20, 2) := by decide +kernel
theorem dX7_question_101 : decode cX7_question 101 = .ok (.if_icmp .ge 41, 3) := by decide +kernel
theorem dX7_question_104 : decode cX7_question 104 = .ok (.aload_n 0, 1) := by decide +kernel
theorem dX7_question_105 : decode cX7_question 105 = .ok (.getfield 32, 3) := by decide +kernel
theorem dX7_question_108 : decode cX7_question 108 = .ok (.iload_n 1, 1) := by decide +kernel
theorem dX7_question_109 : decode cX7_question 109 = .ok (.iload_n 2, 1) := by decide +kernel
theorem dX7_question_110 : decode cX7_question 110 = .ok (.bipush 10, 2) := by decide +kernel
theorem dX7_question_112 : decode cX7_question 112 = .ok (.isub, 1) := by decide +kernel
theorem dX7_question_113 : decode cX7_question 113 = .ok (.invokevirtual 138, 3) := by decide +kernel
theorem dX7_question_116 : decode cX7_question 116 = .ok (.ifCond .eq 26, 3) := by decide +kernel
theorem dX7_question_119 : decode cX7_question 119 = .ok (.aload_n 0, 1) := by decide +kernel
theorem dX7_question_120 : decode cX7_question 120 = .ok (.getfield 32, 3) := by decide +kernel
theorem dX7_question_123 : decode cX7_question 123 = .ok (.getfield 142, 3) := by decide +kernel
theorem dX7_question_126 : decode cX7_question 126 = .ok (.aload_n 0, 1) := by decide +kernel
theorem dX7_question_127 : decode cX7_question 127 = .ok (.getfield 32, 3) := by decide +kernel
theorem dX7_question_130 : decode cX7_question 130 = .ok (.getfield 145, 3) := by decide +kernel
theorem dX7_question_133 : decode cX7_question 133 = .ok (.iload_n 1, 1) := by decide +kernel
theorem dX7_question_134 : decode cX7_question 134 = .ok (.iaload, 1) := by decide +kernel
theorem dX7_question_135 : decode cX7_question 135 = .ok (.iload_n 2, 1) := by decide +kernel
theorem dX7_question_136 : decode cX7_question 136 = .ok (.iadd, 1) := by decide +kernel
theorem dX7_question_137 : decode cX7_question 137 = .ok (.bipush 10, 2) := by decide +kernel
theorem dX7_question_139 : decode cX7_question 139 = .ok (.isub, 1) := by decide +kernel
theorem dX7_question_140 : decode cX7_question 140 = .ok (.iaload, 1) := by decide +kernel
theorem dX7_question_141 : decode cX7_question 141 = .ok (.ireturn, 1) := by decide +kernel
theorem dX7_question_142 : decode cX7_question 142 = .ok (.iload_n 2, 1) := by decide +kernel
theorem dX7_question_143 : decode cX7_question 143 = .ok (.bipush 20, 2) := by decide +kernel
theorem dX7_question_145 : decode cX7_question 145 = .ok (.if_icmp .lt 47, 3) := by decide +kernel
theorem dX7_question_148 : decode cX7_question 148 = .ok (.iload_n 2, 1) := by decide +kernel
theorem dX7_question_149 : decode cX7_question 149 = .ok (.bipush 30, 2) := by decide +kernel
theorem dX7_question_151 : decode cX7_question 151 = .ok (.if_icmp .ge 41, 3) := by decide +kernel
theorem dX7_question_154 : decode cX7_question 154 = .ok (.aload_n 0, 1) := by decide +kernel
theorem dX7_question_155 : decode cX7_question 155 = .ok (.getfield 32, 3) := by decide +kernel
theorem dX7_question_158 : decode cX7_question 158 = .ok (.iload_n 1, 1) := by decide +kernel
theorem dX7_question_159 : decode cX7_question 159 = .ok (.iload_n 2, 1) := by decide +kernel
theorem dX7_question_160 : decode cX7_question 160 = .ok (.bipush 20, 2) := by decide +kernel
theorem dX7_question_162 : decode cX7_question 162 = .ok (.isub, 1) := by decide +kernel
theorem dX7_question_163 : decode cX7_question 163 = .ok (.invokevirtual 138, 3) := by decide +kernel
theorem dX7_question_166 : decode cX7_question 166 = .ok (.ifCond .eq 26, 3) := by decide +kernel
theorem dX7_question_169 : decode cX7_question 169 = .ok (.aload_n 0, 1) := by decide +kernel
theorem dX7_question_170 : decode cX7_question 170 = .ok (.getfield 32, 3) := by decide +kernel
theorem dX7_question_173 : decode cX7_question 173 = .ok (.getfield 148, 3) := by decide +kernel
theorem dX7_question_176 : decode cX7_question 176 = .ok (.aload_n 0, 1) := by decide +kernel
theorem dX7_question_177 : decode cX7_question 177 = .ok (.getfield 32, 3) := by decide +kernel
theorem dX7_question_180 : decode cX7_question 180 = .ok (.getfield 145, 3) := by decide +kernel
theorem dX7_question_183 : decode cX7_question 183 = .ok (.iload_n 1, 1) := by decide +kernel
theorem dX7_question_184 : decode cX7_question 184 = .ok (.iaload, 1) := by decide +kernel
theorem dX7_question_185 : decode cX7_question 185 = .ok (.iload_n 2, 1) := by decide +kernel
theorem dX7_question_186 : decode cX7_question 186 = .ok (.iadd, 1) := by decide +kernel
theorem dX7_question_187 : decode cX7_question 187 = .ok (.bipush 20, 2) := by decide +kernel
theorem dX7_question_189 : decode cX7_question 189 = .ok (.isub, 1) := by decide +kernel
theorem dX7_question_190 : decode cX7_question 190 = .ok (.iaload, 1) := by decide +kernel
theorem dX7_question_191 : decode cX7_question 191 = .ok (.ireturn, 1) := by decide +kernel
theorem dX7_question_192 : decode cX7_question 192 = .ok (.iconst (-1), 1) := by decide +kernel
theorem dX7_question_193 : decode cX7_question 193 = .ok (.ireturn, 1) := by decide +kernel
def mX7_question : MM := (yX7_question, cX7_question, 3, Option.some Jvm.ClassFile.FieldType.int, { frames := 2, cells := 0, slots := 0, locals := 43 })
def fX7_question (σ0 : SS) (a1 : Int32) (a2 : Int32) : Option Int32 :=
  if (fX1_hasQuestion σ0 (gR σ0 1 5) a1) = true then (
    if a2 = (0 : Int32) then (
      grd (inb a1 12) <|
      if (gI σ0 ((gR σ0 1 5) + 1) (Int32.toNatClampNeg a1)) = 0 then (
        some (1 : Int32)
        ) else (
        some (2 : Int32)
        )
      ) else
    if a2 = (1 : Int32) then (
      grd (inb a1 12) <|
      some (gI σ0 ((gR σ0 1 5) + 3) (Int32.toNatClampNeg a1))
      ) else
    if a2 = (2 : Int32) then (
      grd (inb a1 12) <|
      some (gI σ0 ((gR σ0 1 5) + 4) (Int32.toNatClampNeg a1))
      ) else
    if a2 = (3 : Int32) then (
      grd (inb a1 12) <|
      some (gI σ0 ((gR σ0 1 5) + 5) (Int32.toNatClampNeg a1))
      ) else
    vthen (fun (_u : Unit) =>
      if a2 < (20 : Int32) then (
        some (-1 : Int32)
        ) else (
        if (30 : Int32) ≤ a2 then (
          some (-1 : Int32)
          ) else (
          bnd1 (fX1_hasBox σ0 (gR σ0 1 5) a1 (a2 - (20 : Int32))) fun b6 =>
          if b6 = true then (
            grd (inb a1 12) <|
            grd (inb (((gI σ0 ((gR σ0 1 5) + 2) (Int32.toNatClampNeg a1)) + a2) - (20 : Int32)) 72) <|
            some (gI σ0 ((gR σ0 1 5) + 7) (Int32.toNatClampNeg (((gI σ0 ((gR σ0 1 5) + 2) (Int32.toNatClampNeg a1)) + a2) - (20 : Int32))))
            ) else (
            some (-1 : Int32)
            )
          )
        )
      ) fun j142 =>
    if a2 < (10 : Int32) then (
      j142 ()
      ) else (
      if (20 : Int32) ≤ a2 then (
        j142 ()
        ) else (
        bnd1 (fX1_hasBox σ0 (gR σ0 1 5) a1 (a2 - (10 : Int32))) fun b11 =>
        if b11 = true then (
          grd (inb a1 12) <|
          grd (inb (((gI σ0 ((gR σ0 1 5) + 2) (Int32.toNatClampNeg a1)) + a2) - (10 : Int32)) 72) <|
          some (gI σ0 ((gR σ0 1 5) + 6) (Int32.toNatClampNeg (((gI σ0 ((gR σ0 1 5) + 2) (Int32.toNatClampNeg a1)) + a2) - (10 : Int32))))
          ) else (
          j142 ()
          )
        )
      )
    ) else (
    some (-1 : Int32)
    )

set_option maxRecDepth 20000 in
theorem sX7_question {g : GG} {σ0 : SS} {a1 : Int32} {a2 : Int32} {r : Int32} (hr : fX7_question σ0 a1 a2 = some r)  : Ct g mX7_question [.ref (ad g 1), .int a1, .int a2] NF σ0 (some (.int r)) NF σ0 := by
  refine Ct.of (by decide +kernel) (nle rfl) fun hw0 => ?_
  have hw := hw0 rfl
  unfold fX7_question at hr
  change RR g mX7_question (FinR g mX7_question (some (.int r)) NF σ0) zF 0 [(0, .ref (ad g 1)), (1, .int a1), (2, .int a2)] [] σ0
  refine r_aload_n (pc := 0) (j := 0) dX7_question_0 rfl rfl ?_
  refine gf7_5 (pc := 1) tw_2_114 hw dX7_question_1 ?_
  refine r_iload_n (pc := 4) (j := 1) dX7_question_4 rfl rfl ?_
  refine kX1_hasQuestion (pc := 5) (hf := rfl) (wt_fo hw).1 tw_3_87 ⟨nle rfl, nle rfl⟩ (nle rfl) dX7_question_5 ?_
  refine r_ifB_ne (pc := 8) (tgt := 13) dX7_question_8 rfl (fun hc => ?_) (fun hc => ?_)
  · replace hr := ite_t hc hr
    refine r_iload_n (pc := 13) (j := 2) dX7_question_13 rfl rfl ?_
    by_cases hc0 : a2 = (0 : Int32)
    · replace hr := ite_t hc0 hr
      refine r_tabIn (pc := 14) (off := 30) (tgt := 44) dX7_question_14 (by rw [hc0]; decide) (by rw [hc0]; decide) (by rw [hc0]; rfl) rfl ?_
      refine r_aload_n (pc := 44) (j := 0) dX7_question_44 rfl rfl ?_
      refine gf7_5 (pc := 45) tw_2_114 hw dX7_question_45 ?_
      refine gf1_7 (pc := 48) tw_1_86 hw (wt_fo hw).1 dX7_question_48 ?_
      refine r_iload_n (pc := 51) (j := 1) dX7_question_51 rfl rfl ?_
      obtain ⟨h1, hr⟩ := grd_inv hr
      refine x_zald (pc := 52) (k := (Int32.toNatClampNeg a1)) (sh1_7 (wt_fo hw).1) h1 rfl dX7_question_52 ?_
      refine r_if_eq (pc := 53) (tgt := 60) dX7_question_53 rfl (fun hc => ?_) (fun hc => ?_)
      · replace hr := ite_t hc hr
        refine r_iconst (pc := 60) (v := (1 : Int32)) dX7_question_60 rfl ?_
        exact l_opi hr (r_iret (pc := 61) (v := (1 : Int32)) rfl rfl ⟨Nat.le_refl _, Nat.le_refl _⟩ dX7_question_61)
      replace hr := ite_f hc hr
      refine r_iconst (pc := 56) (v := (2 : Int32)) dX7_question_56 rfl ?_
      refine r_goto (pc := 57) (tgt := 61) dX7_question_57 rfl ?_
      exact l_opi hr (r_iret (pc := 61) (v := (2 : Int32)) rfl rfl ⟨Nat.le_refl _, Nat.le_refl _⟩ dX7_question_61)
    replace hr := ite_f hc0 hr
    by_cases hc1 : a2 = (1 : Int32)
    · replace hr := ite_t hc1 hr
      refine r_tabIn (pc := 14) (off := 48) (tgt := 62) dX7_question_14 (by rw [hc1]; decide) (by rw [hc1]; decide) (by rw [hc1]; rfl) rfl ?_
      refine r_aload_n (pc := 62) (j := 0) dX7_question_62 rfl rfl ?_
      refine gf7_5 (pc := 63) tw_2_114 hw dX7_question_63 ?_
      refine gf1_9 (pc := 66) tw_1_92 hw (wt_fo hw).1 dX7_question_66 ?_
      refine r_iload_n (pc := 69) (j := 1) dX7_question_69 rfl rfl ?_
      obtain ⟨h2, hr⟩ := grd_inv hr
      refine x_iald (pc := 70) (k := (Int32.toNatClampNeg a1)) (sh1_9 (wt_fo hw).1) h2 rfl dX7_question_70 ?_
      exact l_opi hr (r_iret (pc := 71) (v := (gI σ0 ((gR σ0 1 5) + 3) (Int32.toNatClampNeg a1))) rfl rfl ⟨Nat.le_refl _, Nat.le_refl _⟩ dX7_question_71)
    replace hr := ite_f hc1 hr
    by_cases hc2 : a2 = (2 : Int32)
    · replace hr := ite_t hc2 hr
      refine r_tabIn (pc := 14) (off := 58) (tgt := 72) dX7_question_14 (by rw [hc2]; decide) (by rw [hc2]; decide) (by rw [hc2]; rfl) rfl ?_
      refine r_aload_n (pc := 72) (j := 0) dX7_question_72 rfl rfl ?_
      refine gf7_5 (pc := 73) tw_2_114 hw dX7_question_73 ?_
      refine gf1_10 (pc := 76) tw_1_96 hw (wt_fo hw).1 dX7_question_76 ?_
      refine r_iload_n (pc := 79) (j := 1) dX7_question_79 rfl rfl ?_
      obtain ⟨h3, hr⟩ := grd_inv hr
      refine x_iald (pc := 80) (k := (Int32.toNatClampNeg a1)) (sh1_10 (wt_fo hw).1) h3 rfl dX7_question_80 ?_
      exact l_opi hr (r_iret (pc := 81) (v := (gI σ0 ((gR σ0 1 5) + 4) (Int32.toNatClampNeg a1))) rfl rfl ⟨Nat.le_refl _, Nat.le_refl _⟩ dX7_question_81)
    replace hr := ite_f hc2 hr
    by_cases hc3 : a2 = (3 : Int32)
    · replace hr := ite_t hc3 hr
      refine r_tabIn (pc := 14) (off := 68) (tgt := 82) dX7_question_14 (by rw [hc3]; decide) (by rw [hc3]; decide) (by rw [hc3]; rfl) rfl ?_
      refine r_aload_n (pc := 82) (j := 0) dX7_question_82 rfl rfl ?_
      refine gf7_5 (pc := 83) tw_2_114 hw dX7_question_83 ?_
      refine gf1_11 (pc := 86) tw_1_101 hw (wt_fo hw).1 dX7_question_86 ?_
      refine r_iload_n (pc := 89) (j := 1) dX7_question_89 rfl rfl ?_
      obtain ⟨h4, hr⟩ := grd_inv hr
      refine x_iald (pc := 90) (k := (Int32.toNatClampNeg a1)) (sh1_11 (wt_fo hw).1) h4 rfl dX7_question_90 ?_
      exact l_opi hr (r_iret (pc := 91) (v := (gI σ0 ((gR σ0 1 5) + 5) (Int32.toNatClampNeg a1))) rfl rfl ⟨Nat.le_refl _, Nat.le_refl _⟩ dX7_question_91)
    replace hr := ite_f hc3 hr
    refine r_tabOut (pc := 14) (tgt := 92) dX7_question_14 (tab_out (by decide) (by decide) fun k h1 h2 => ?_) rfl ?_
    · rcases (show k = 0 ∨ k = 1 ∨ k = 2 ∨ k = 3 by omega) with rfl | rfl | rfl | rfl
      · exact hc0
      · exact hc1
      · exact hc2
      · exact hc3
    refine r_iload_n (pc := 92) (j := 2) dX7_question_92 rfl rfl ?_
    refine r_bipush (pc := 93) (v := (10 : Int32)) dX7_question_93 rfl ?_
    obtain ⟨j142, ej142, hr⟩ := vth_ex hr
    have hj142 : j142 () = some r → RR g mX7_question (FinR g mX7_question (some (.int r)) NF σ0) zF 142 [(0, .ref (ad g 1)), (1, .int a1), (2, .int a2)] [] σ0 := by
      intro  hr
      replace hr := (congrFun ej142 ()).symm.trans hr
      refine r_iload_n (pc := 142) (j := 2) dX7_question_142 rfl rfl ?_
      refine r_bipush (pc := 143) (v := (20 : Int32)) dX7_question_143 rfl ?_
      refine r_icmp_lt (pc := 145) (tgt := 192) dX7_question_145 rfl (fun hc => ?_) (fun hc => ?_)
      · replace hr := ite_t hc hr
        refine r_iconst (pc := 192) (v := (-1 : Int32)) dX7_question_192 rfl ?_
        exact l_opi hr (r_iret (pc := 193) (v := (-1 : Int32)) rfl rfl ⟨Nat.le_refl _, Nat.le_refl _⟩ dX7_question_193)
      replace hr := ite_f hc hr
      refine r_iload_n (pc := 148) (j := 2) dX7_question_148 rfl rfl ?_
      refine r_bipush (pc := 149) (v := (30 : Int32)) dX7_question_149 rfl ?_
      refine r_icmp_ge (pc := 151) (tgt := 192) dX7_question_151 rfl (fun hc => ?_) (fun hc => ?_)
      · replace hr := ite_t hc hr
        refine r_iconst (pc := 192) (v := (-1 : Int32)) dX7_question_192 rfl ?_
        exact l_opi hr (r_iret (pc := 193) (v := (-1 : Int32)) rfl rfl ⟨Nat.le_refl _, Nat.le_refl _⟩ dX7_question_193)
      replace hr := ite_f hc hr
      refine r_aload_n (pc := 154) (j := 0) dX7_question_154 rfl rfl ?_
      refine gf7_5 (pc := 155) tw_2_114 hw dX7_question_155 ?_
      refine r_iload_n (pc := 158) (j := 1) dX7_question_158 rfl rfl ?_
      refine r_iload_n (pc := 159) (j := 2) dX7_question_159 rfl rfl ?_
      refine r_bipush (pc := 160) (v := (20 : Int32)) dX7_question_160 rfl ?_
      refine r_isub (pc := 162) dX7_question_162 ?_
      obtain ⟨b6, hb6, hr⟩ := bnd1_inv hr
      refine kX1_hasBox (pc := 163) hb6 (wt_fo hw).1 tw_3_91 ⟨nle rfl, nle rfl⟩ (nle rfl) dX7_question_163 ?_
      refine r_ifB_eq (pc := 166) (tgt := 192) dX7_question_166 rfl (fun hc => ?_) (fun hc => ?_)
      · replace hr := ite_f hc hr
        refine r_iconst (pc := 192) (v := (-1 : Int32)) dX7_question_192 rfl ?_
        exact l_opi hr (r_iret (pc := 193) (v := (-1 : Int32)) rfl rfl ⟨Nat.le_refl _, Nat.le_refl _⟩ dX7_question_193)
      replace hr := ite_t hc hr
      refine r_aload_n (pc := 169) (j := 0) dX7_question_169 rfl rfl ?_
      refine gf7_5 (pc := 170) tw_2_114 hw dX7_question_170 ?_
      refine gf1_13 (pc := 173) tw_1_109 hw (wt_fo hw).1 dX7_question_173 ?_
      refine r_aload_n (pc := 176) (j := 0) dX7_question_176 rfl rfl ?_
      refine gf7_5 (pc := 177) tw_2_114 hw dX7_question_177 ?_
      refine gf1_8 (pc := 180) tw_1_89 hw (wt_fo hw).1 dX7_question_180 ?_
      refine r_iload_n (pc := 183) (j := 1) dX7_question_183 rfl rfl ?_
      obtain ⟨h8, hr⟩ := grd_inv hr
      refine x_iald (pc := 184) (k := (Int32.toNatClampNeg a1)) (sh1_8 (wt_fo hw).1) h8 rfl dX7_question_184 ?_
      refine r_iload_n (pc := 185) (j := 2) dX7_question_185 rfl rfl ?_
      refine r_iadd (pc := 186) dX7_question_186 ?_
      refine r_bipush (pc := 187) (v := (20 : Int32)) dX7_question_187 rfl ?_
      refine r_isub (pc := 189) dX7_question_189 ?_
      obtain ⟨h9, hr⟩ := grd_inv hr
      refine x_iald (pc := 190) (k := (Int32.toNatClampNeg (((gI σ0 ((gR σ0 1 5) + 2) (Int32.toNatClampNeg a1)) + a2) - (20 : Int32)))) (sh1_13 (wt_fo hw).1) h9 rfl dX7_question_190 ?_
      exact l_opi hr (r_iret (pc := 191) (v := (gI σ0 ((gR σ0 1 5) + 7) (Int32.toNatClampNeg (((gI σ0 ((gR σ0 1 5) + 2) (Int32.toNatClampNeg a1)) + a2) - (20 : Int32))))) rfl rfl ⟨Nat.le_refl _, Nat.le_refl _⟩ dX7_question_191)
    refine r_icmp_lt (pc := 95) (tgt := 142) dX7_question_95 rfl (fun hc => ?_) (fun hc => ?_)
    · replace hr := ite_t hc hr
      exact r_pick (ls1 := [(0, .ref (ad g 1)), (1, .int a1), (2, .int a2)]) [0, 1, 2] rfl (hj142  hr)
    replace hr := ite_f hc hr
    refine r_iload_n (pc := 98) (j := 2) dX7_question_98 rfl rfl ?_
    refine r_bipush (pc := 99) (v := (20 : Int32)) dX7_question_99 rfl ?_
    refine r_icmp_ge (pc := 101) (tgt := 142) dX7_question_101 rfl (fun hc => ?_) (fun hc => ?_)
    · replace hr := ite_t hc hr
      exact r_pick (ls1 := [(0, .ref (ad g 1)), (1, .int a1), (2, .int a2)]) [0, 1, 2] rfl (hj142  hr)
    replace hr := ite_f hc hr
    refine r_aload_n (pc := 104) (j := 0) dX7_question_104 rfl rfl ?_
    refine gf7_5 (pc := 105) tw_2_114 hw dX7_question_105 ?_
    refine r_iload_n (pc := 108) (j := 1) dX7_question_108 rfl rfl ?_
    refine r_iload_n (pc := 109) (j := 2) dX7_question_109 rfl rfl ?_
    refine r_bipush (pc := 110) (v := (10 : Int32)) dX7_question_110 rfl ?_
    refine r_isub (pc := 112) dX7_question_112 ?_
    obtain ⟨b11, hb11, hr⟩ := bnd1_inv hr
    refine kX1_hasBox (pc := 113) hb11 (wt_fo hw).1 tw_3_91 ⟨nle rfl, nle rfl⟩ (nle rfl) dX7_question_113 ?_
    refine r_ifB_eq (pc := 116) (tgt := 142) dX7_question_116 rfl (fun hc => ?_) (fun hc => ?_)
    · replace hr := ite_f hc hr
      exact r_pick (ls1 := [(0, .ref (ad g 1)), (1, .int a1), (2, .int a2)]) [0, 1, 2] rfl (hj142  hr)
    replace hr := ite_t hc hr
    refine r_aload_n (pc := 119) (j := 0) dX7_question_119 rfl rfl ?_
    refine gf7_5 (pc := 120) tw_2_114 hw dX7_question_120 ?_
    refine gf1_12 (pc := 123) tw_1_106 hw (wt_fo hw).1 dX7_question_123 ?_
    refine r_aload_n (pc := 126) (j := 0) dX7_question_126 rfl rfl ?_
    refine gf7_5 (pc := 127) tw_2_114 hw dX7_question_127 ?_
    refine gf1_8 (pc := 130) tw_1_89 hw (wt_fo hw).1 dX7_question_130 ?_
    refine r_iload_n (pc := 133) (j := 1) dX7_question_133 rfl rfl ?_
    obtain ⟨h13, hr⟩ := grd_inv hr
    refine x_iald (pc := 134) (k := (Int32.toNatClampNeg a1)) (sh1_8 (wt_fo hw).1) h13 rfl dX7_question_134 ?_
    refine r_iload_n (pc := 135) (j := 2) dX7_question_135 rfl rfl ?_
    refine r_iadd (pc := 136) dX7_question_136 ?_
    refine r_bipush (pc := 137) (v := (10 : Int32)) dX7_question_137 rfl ?_
    refine r_isub (pc := 139) dX7_question_139 ?_
    obtain ⟨h14, hr⟩ := grd_inv hr
    refine x_iald (pc := 140) (k := (Int32.toNatClampNeg (((gI σ0 ((gR σ0 1 5) + 2) (Int32.toNatClampNeg a1)) + a2) - (10 : Int32)))) (sh1_12 (wt_fo hw).1) h14 rfl dX7_question_140 ?_
    exact l_opi hr (r_iret (pc := 141) (v := (gI σ0 ((gR σ0 1 5) + 6) (Int32.toNatClampNeg (((gI σ0 ((gR σ0 1 5) + 2) (Int32.toNatClampNeg a1)) + a2) - (10 : Int32))))) rfl rfl ⟨Nat.le_refl _, Nat.le_refl _⟩ dX7_question_141)
  replace hr := ite_f hc hr
  refine r_iconst (pc := 11) (v := (-1 : Int32)) dX7_question_11 rfl ?_
  exact l_opi hr (r_iret (pc := 12) (v := (-1 : Int32)) rfl rfl ⟨Nat.le_refl _, Nat.le_refl _⟩ dX7_question_12)

theorem kX7_question {g : GG} {σ0 : SS} {a1 : Int32} {a2 : Int32} {v : Int32} {M : MM} {F : State → Array Value → List Frame → State → Prop} {pc index : Nat} {ls : List (Nat × Value)} {rest : List Value} (hf : fX7_question σ0 a1 a2 = some v)  (hl : Cond.methodLink M.1.cls index yX7_question ∈ lw_gt) (hR : mX7_question.2.2.2.2.frames + 1 ≤ M.2.2.2.2.frames ∧ 8 + (mX7_question.2.2.1 + 11) + mX7_question.2.2.2.2.locals ≤ M.2.2.2.2.locals) (hrest : (rest.map fun v => v.category).sum ≤ 8) (hd : decode M.2.1 pc = .ok (.invokevirtual index, 3)) (k : RR g M F zF (pc + 3) ls (.int v :: rest) σ0) : RR g M F zF pc ls (.int a2 :: .int a1 :: .ref (ad g 1) :: rest) σ0 :=
  r_callV (N := mX7_question) (nn := 2) (o1 := some (.int v)) (sX7_question hf ) (rfl : shp 1 = (7, 0)) (by decide) (shp_le (rfl : shp 1 = (7, 0)) (nle rfl)) (ci := 7) rfl rfl tw_3_86 tw_1_1 hl tw_3_84 tw_3_85 ⟨by decide, by decide, rfl⟩ hR rfl hrest hd ⟨Nat.zero_le _, Nat.zero_le _⟩ rfl (fun h => k)

theorem dX8_isQuestion_0 : decode cX8_isQuestion 0 = .ok (.iload_n 1, 1) := by decide +kernel
theorem dX8_isQuestion_1 : decode cX8_isQuestion 1 = .ok (.iconst 0, 1) := by decide +kernel
theorem dX8_isQuestion_2 : decode cX8_isQuestion 2 = .ok (.aload_n 0, 1) := by decide +kernel
theorem dX8_isQuestion_3 : decode cX8_isQuestion 3 = .ok (.invokevirtual 266, 3) := by decide +kernel
theorem dX8_isQuestion_6 : decode cX8_isQuestion 6 = .ok (.iconst 1, 1) := by decide +kernel
theorem dX8_isQuestion_7 : decode cX8_isQuestion 7 = .ok (.isub, 1) := by decide +kernel
theorem dX8_isQuestion_8 : decode cX8_isQuestion 8 = .ok (.invokestatic 165, 3) := by decide +kernel
theorem dX8_isQuestion_11 : decode cX8_isQuestion 11 = .ok (.ireturn, 1) := by decide +kernel
def mX8_isQuestion : MM := (yX8_isQuestion, cX8_isQuestion, 2, Option.some Jvm.ClassFile.FieldType.boolean, { frames := 2, cells := 0, slots := 0, locals := 41 })
def fX8_isQuestion (σ0 : SS) (a1 : Int32) : Option Bool :=
  bnd1 (fX8_questions σ0) fun v1 =>
  some (fX8_in σ0 a1 (0 : Int32) (v1 - (1 : Int32)))

set_option maxRecDepth 20000 in
theorem sX8_isQuestion {g : GG} {σ0 : SS} {a1 : Int32} {r : Bool} (hr : fX8_isQuestion σ0 a1 = some r)  : Ct g mX8_isQuestion [.ref (ad g 73), .int a1] NF σ0 (some (.int (b2i r))) NF σ0 := by
  refine Ct.of (by decide +kernel) (nle rfl) fun hw0 => ?_
  have hw := hw0 rfl
  unfold fX8_isQuestion at hr
  change RR g mX8_isQuestion (FinR g mX8_isQuestion (some (.int (b2i r))) NF σ0) zF 0 [(0, .ref (ad g 73)), (1, .int a1)] [] σ0
  refine r_iload_n (pc := 0) (j := 1) dX8_isQuestion_0 rfl rfl ?_
  refine r_iconst (pc := 1) (v := (0 : Int32)) dX8_isQuestion_1 rfl ?_
  refine r_aload_n (pc := 2) (j := 0) dX8_isQuestion_2 rfl rfl ?_
  obtain ⟨v1, hv1, hr⟩ := bnd1_inv hr
  refine kX8_questions (pc := 3) hv1 tw_6_145 ⟨nle rfl, nle rfl⟩ (nle rfl) dX8_isQuestion_3 ?_
  refine r_iconst (pc := 6) (v := (1 : Int32)) dX8_isQuestion_6 rfl ?_
  refine r_isub (pc := 7) dX8_isQuestion_7 ?_
  refine kX8_in (pc := 8) (hf := rfl) tw_6_65 ⟨nle rfl, nle rfl⟩ (nle rfl) dX8_isQuestion_8 ?_
  exact l_opz hr (r_zret (pc := 11) (v := b2i (fX8_in σ0 a1 (0 : Int32) (v1 - (1 : Int32)))) (ty := .boolean) rfl (b2i_nar _) rfl ⟨Nat.le_refl _, Nat.le_refl _⟩ dX8_isQuestion_11)

theorem kX8_isQuestion {g : GG} {σ0 : SS} {a1 : Int32} {v : Bool} {M : MM} {F : State → Array Value → List Frame → State → Prop} {pc index : Nat} {ls : List (Nat × Value)} {rest : List Value} (hf : fX8_isQuestion σ0 a1 = some v)  (hl : Cond.methodLink M.1.cls index yX8_isQuestion ∈ lw_gt) (hR : mX8_isQuestion.2.2.2.2.frames + 1 ≤ M.2.2.2.2.frames ∧ 8 + (mX8_isQuestion.2.2.1 + 11) + mX8_isQuestion.2.2.2.2.locals ≤ M.2.2.2.2.locals) (hrest : (rest.map fun v => v.category).sum ≤ 8) (hd : decode M.2.1 pc = .ok (.invokevirtual index, 3)) (k : RR g M F zF (pc + 3) ls (.int (b2i v) :: rest) σ0) : RR g M F zF pc ls (.int a1 :: .ref (ad g 73) :: rest) σ0 :=
  r_callV (N := mX8_isQuestion) (nn := 1) (o1 := some (.int (b2i v))) (sX8_isQuestion hf ) (rfl : shp 73 = (8, 0)) (by decide) (shp_le (rfl : shp 73 = (8, 0)) (nle rfl)) (ci := 8) rfl rfl tw_6_144 tw_1_10 hl tw_6_143 tp_48 ⟨by decide, by decide, rfl⟩ hR rfl hrest hd ⟨Nat.zero_le _, Nat.zero_le _⟩ rfl (fun h => k)

theorem dX8_question_0 : decode cX8_question 0 = .ok (.aload_n 0, 1) := by decide +kernel
theorem dX8_question_1 : decode cX8_question 1 = .ok (.iload_n 1, 1) := by decide +kernel
theorem dX8_question_2 : decode cX8_question 2 = .ok (.invokevirtual 269, 3) := by decide +kernel
theorem dX8_question_5 : decode cX8_question 5 = .ok (.ifCond .ne 5, 3) := by decide +kernel
theorem dX8_question_8 : decode cX8_question 8 = .ok (.iconst (-1), 1) := by decide +kernel
theorem dX8_question_9 : decode cX8_question 9 = .ok (.ireturn, 1) := by decide +kernel
theorem dX8_question_10 : decode cX8_question 10 = .ok (.bipush 12, 2) := by decide +kernel
theorem dX8_question_12 : decode cX8_question 12 = .ok (.aload_n 0, 1) := by decide +kernel
theorem dX8_question_13 : decode cX8_question 13 = .ok (.getfield 206, 3) := by decide +kernel
theorem dX8_question_16 : decode cX8_question 16 = .ok (.imul, 1) := by decide +kernel
theorem dX8_question_17 : decode cX8_question 17 = .ok (.iload_n 1, 1) := by decide +kernel
theorem dX8_question_18 : decode cX8_question 18 = .ok (.iadd, 1) := by decide +kernel
theorem dX8_question_19 : decode cX8_question 19 = .ok (.istore_n 3, 1) := by decide +kernel
theorem dX8_question_20 : decode cX8_question 20 = .ok (.iload_n 2, 1) := by decide +kernel
theorem dX8_question_21 : decode cX8_question 21 = .ok (.bipush 10, 2) := by decide +kernel
theorem dX8_question_23 : decode cX8_question 23 = .ok (.bipush 9, 2) := by decide +kernel
theorem dX8_question_25 : decode cX8_question 25 = .ok (.aload_n 0, 1) := by decide +kernel
theorem dX8_question_26 : decode cX8_question 26 = .ok (.getfield 20, 3) := by decide +kernel
theorem dX8_question_29 : decode cX8_question 29 = .ok (.iload_n 3, 1) := by decide +kernel
theorem dX8_question_30 : decode cX8_question 30 = .ok (.iaload, 1) := by decide +kernel
theorem dX8_question_31 : decode cX8_question 31 = .ok (.iadd, 1) := by decide +kernel
theorem dX8_question_32 : decode cX8_question 32 = .ok (.invokestatic 165, 3) := by decide +kernel
theorem dX8_question_35 : decode cX8_question 35 = .ok (.ifCond .eq 18, 3) := by decide +kernel
theorem dX8_question_38 : decode cX8_question 38 = .ok (.aload_n 0, 1) := by decide +kernel
theorem dX8_question_39 : decode cX8_question 39 = .ok (.getfield 29, 3) := by decide +kernel
theorem dX8_question_42 : decode cX8_question 42 = .ok (.bipush 6, 2) := by decide +kernel
theorem dX8_question_44 : decode cX8_question 44 = .ok (.iload_n 3, 1) := by decide +kernel
theorem dX8_question_45 : decode cX8_question 45 = .ok (.imul, 1) := by decide +kernel
theorem dX8_question_46 : decode cX8_question 46 = .ok (.iload_n 2, 1) := by decide +kernel
theorem dX8_question_47 : decode cX8_question 47 = .ok (.iadd, 1) := by decide +kernel
theorem dX8_question_48 : decode cX8_question 48 = .ok (.bipush 10, 2) := by decide +kernel
theorem dX8_question_50 : decode cX8_question 50 = .ok (.isub, 1) := by decide +kernel
theorem dX8_question_51 : decode cX8_question 51 = .ok (.iaload, 1) := by decide +kernel
theorem dX8_question_52 : decode cX8_question 52 = .ok (.ireturn, 1) := by decide +kernel
theorem dX8_question_53 : decode cX8_question 53 = .ok (.iload_n 2, 1) := by decide +kernel
theorem dX8_question_54 : decode cX8_question 54 = .ok (.bipush 20, 2) := by decide +kernel
theorem dX8_question_56 : decode cX8_question 56 = .ok (.bipush 19, 2) := by decide +kernel
theorem dX8_question_58 : decode cX8_question 58 = .ok (.aload_n 0, 1) := by decide +kernel
theorem dX8_question_59 : decode cX8_question 59 = .ok (.getfield 20, 3) := by decide +kernel
theorem dX8_question_62 : decode cX8_question 62 = .ok (.iload_n 3, 1) := by decide +kernel
theorem dX8_question_63 : decode cX8_question 63 = .ok (.iaload, 1) := by decide +kernel
theorem dX8_question_64 : decode cX8_question 64 = .ok (.iadd, 1) := by decide +kernel
theorem dX8_question_65 : decode cX8_question 65 = .ok (.invokestatic 165, 3) := by decide +kernel
theorem dX8_question_68 : decode cX8_question 68 = .ok (.ifCond .eq 18, 3) := by decide +kernel
theorem dX8_question_71 : decode cX8_question 71 = .ok (.aload_n 0, 1) := by decide +kernel
theorem dX8_question_72 : decode cX8_question 72 = .ok (.getfield 32, 3) := by decide +kernel
theorem dX8_question_75 : decode cX8_question 75 = .ok (.bipush 6, 2) := by decide +kernel
theorem dX8_question_77 : decode cX8_question 77 = .ok (.iload_n 3, 1) := by decide +kernel
theorem dX8_question_78 : decode cX8_question 78 = .ok (.imul, 1) := by decide +kernel
theorem dX8_question_79 : decode cX8_question 79 = .ok (.iload_n 2, 1) := by decide +kernel
theorem dX8_question_80 : decode cX8_question 80 = .ok (.iadd, 1) := by decide +kernel
theorem dX8_question_81 : decode cX8_question 81 = .ok (.bipush 20, 2) := by decide +kernel
theorem dX8_question_83 : decode cX8_question 83 = .ok (.isub, 1) := by decide +kernel
theorem dX8_question_84 : decode cX8_question 84 = .ok (.iaload, 1) := by decide +kernel
theorem dX8_question_85 : decode cX8_question 85 = .ok (.ireturn, 1) := by decide +kernel
theorem dX8_question_86 : decode cX8_question 86 = .ok (.iload_n 2, 1) := by decide +kernel
theorem dX8_question_87 : decode cX8_question 87 = .ok (.tableswitch 57 0 3 #[29, 36, 43, 50], 29) := by decide +kernel
theorem dX8_question_116 : decode cX8_question 116 = .ok (.aload_n 0, 1) := by decide +kernel
theorem dX8_question_117 : decode cX8_question 117 = .ok (.getfield 17, 3) := by decide +kernel
theorem dX8_question_120 : decode cX8_question 120 = .ok (.iload_n 3, 1) := by decide +kernel
theorem dX8_question_121 : decode cX8_question 121 = .ok (.iaload, 1) := by decide +kernel
theorem dX8_question_122 : decode cX8_question 122 = .ok (.ireturn, 1) := by decide +kernel
theorem dX8_question_123 : decode cX8_question 123 = .ok (.aload_n 0, 1) := by decide +kernel
theorem dX8_question_124 : decode cX8_question 124 = .ok (.getfield 20, 3) := by decide +kernel
theorem dX8_question_127 : decode cX8_question 127 = .ok (.iload_n 3, 1) := by decide +kernel
theorem dX8_question_128 : decode cX8_question 128 = .ok (.iaload, 1) := by decide +kernel
theorem dX8_question_129 : decode cX8_question 129 = .ok (.ireturn, 1) := by decide +kernel
theorem dX8_question_130 : decode cX8_question 130 = .ok (.aload_n 0, 1) := by decide +kernel
theorem dX8_question_131 : decode cX8_question 131 = .ok (.getfield 23, 3) := by decide +kernel
theorem dX8_question_134 : decode cX8_question 134 = .ok (.iload_n 3, 1) := by decide +kernel
theorem dX8_question_135 : decode cX8_question 135 = .ok (.iaload, 1) := by decide +kernel
theorem dX8_question_136 : decode cX8_question 136 = .ok (.ireturn, 1) := by decide +kernel
theorem dX8_question_137 : decode cX8_question 137 = .ok (.aload_n 0, 1) := by decide +kernel
theorem dX8_question_138 : decode cX8_question 138 = .ok (.getfield 26, 3) := by decide +kernel
theorem dX8_question_141 : decode cX8_question 141 = .ok (.iload_n 3, 1) := by decide +kernel
theorem dX8_question_142 : decode cX8_question 142 = .ok (.iaload, 1) := by decide +kernel
theorem dX8_question_143 : decode cX8_question 143 = .ok (.ireturn, 1) := by decide +kernel
theorem dX8_question_144 : decode cX8_question 144 = .ok (.iconst (-1), 1) := by decide +kernel
theorem dX8_question_145 : decode cX8_question 145 = .ok (.ireturn, 1) := by decide +kernel
def mX8_question : MM := (yX8_question, cX8_question, 4, Option.some Jvm.ClassFile.FieldType.int, { frames := 3, cells := 0, slots := 0, locals := 62 })
def fX8_question (σ0 : SS) (a1 : Int32) (a2 : Int32) : Option Int32 :=
  bnd1 (fX8_isQuestion σ0 a1) fun b2 =>
  if b2 = true then (
    vthen (((12 : Int32) * (gI σ0 73 11)) + a1) fun v4 =>
    grd (inb v4 24) <|
    if (fX8_in σ0 a2 (10 : Int32) ((9 : Int32) + (gI σ0 77 (Int32.toNatClampNeg v4)))) = true then (
      grd (inb ((((6 : Int32) * v4) + a2) - (10 : Int32)) 144) <|
      some (gI σ0 80 (Int32.toNatClampNeg ((((6 : Int32) * v4) + a2) - (10 : Int32))))
      ) else (
      if (fX8_in σ0 a2 (20 : Int32) ((19 : Int32) + (gI σ0 77 (Int32.toNatClampNeg v4)))) = true then (
        grd (inb ((((6 : Int32) * v4) + a2) - (20 : Int32)) 144) <|
        some (gI σ0 81 (Int32.toNatClampNeg ((((6 : Int32) * v4) + a2) - (20 : Int32))))
        ) else (
        if a2 = (0 : Int32) then (
          some (gI σ0 76 (Int32.toNatClampNeg v4))
          ) else
        if a2 = (1 : Int32) then (
          some (gI σ0 77 (Int32.toNatClampNeg v4))
          ) else
        if a2 = (2 : Int32) then (
          some (gI σ0 78 (Int32.toNatClampNeg v4))
          ) else
        if a2 = (3 : Int32) then (
          some (gI σ0 79 (Int32.toNatClampNeg v4))
          ) else
        some (-1 : Int32)
        )
      )
    ) else (
    some (-1 : Int32)
    )

set_option maxRecDepth 20000 in
theorem sX8_question {g : GG} {σ0 : SS} {a1 : Int32} {a2 : Int32} {r : Int32} (hr : fX8_question σ0 a1 a2 = some r)  : Ct g mX8_question [.ref (ad g 73), .int a1, .int a2] NF σ0 (some (.int r)) NF σ0 := by
  refine Ct.of (by decide +kernel) (nle rfl) fun hw0 => ?_
  have hw := hw0 rfl
  unfold fX8_question at hr
  change RR g mX8_question (FinR g mX8_question (some (.int r)) NF σ0) zF 0 [(0, .ref (ad g 73)), (1, .int a1), (2, .int a2)] [] σ0
  refine r_aload_n (pc := 0) (j := 0) dX8_question_0 rfl rfl ?_
  refine r_iload_n (pc := 1) (j := 1) dX8_question_1 rfl rfl ?_
  obtain ⟨b2, hb2, hr⟩ := bnd1_inv hr
  refine kX8_isQuestion (pc := 2) hb2 tw_6_141 ⟨nle rfl, nle rfl⟩ (nle rfl) dX8_question_2 ?_
  refine r_ifB_ne (pc := 5) (tgt := 10) dX8_question_5 rfl (fun hc => ?_) (fun hc => ?_)
  · replace hr := ite_t hc hr
    refine r_bipush (pc := 10) (v := (12 : Int32)) dX8_question_10 rfl ?_
    refine r_aload_n (pc := 12) (j := 0) dX8_question_12 rfl rfl ?_
    refine gf8_11 (pc := 13) tw_5_105 rfl dX8_question_13 ?_
    refine r_imul (pc := 16) dX8_question_16 ?_
    refine r_iload_n (pc := 17) (j := 1) dX8_question_17 rfl rfl ?_
    refine r_iadd (pc := 18) dX8_question_18 ?_
    refine r_topi fun v4 ev4 => ?_
    replace hr := vthen_inv hr v4 ev4
    refine r_istore_n (pc := 19) (ls1 := [(3, .int v4), (0, .ref (ad g 73)), (1, .int a1), (2, .int a2)]) dX8_question_19 rfl (nle rfl) rfl ?_
    refine r_iload_n (pc := 20) (j := 3) dX8_question_20 rfl rfl ?_
    refine r_bipush (pc := 21) (v := (10 : Int32)) dX8_question_21 rfl ?_
    refine r_bipush (pc := 23) (v := (9 : Int32)) dX8_question_23 rfl ?_
    refine r_aload_n (pc := 25) (j := 1) dX8_question_25 rfl rfl ?_
    refine gf8_15 (pc := 26) tw_5_109 hw dX8_question_26 ?_
    refine r_iload_n (pc := 29) (j := 0) dX8_question_29 rfl rfl ?_
    obtain ⟨h5, hr⟩ := grd_inv hr
    refine x_iald (pc := 30) (k := (Int32.toNatClampNeg v4)) rfl h5 rfl dX8_question_30 ?_
    refine r_iadd (pc := 31) dX8_question_31 ?_
    refine kX8_in (pc := 32) (hf := rfl) tw_6_65 ⟨nle rfl, nle rfl⟩ (nle rfl) dX8_question_32 ?_
    refine r_ifB_eq (pc := 35) (tgt := 53) dX8_question_35 rfl (fun hc => ?_) (fun hc => ?_)
    · replace hr := ite_f hc hr
      refine r_iload_n (pc := 53) (j := 3) dX8_question_53 rfl rfl ?_
      refine r_bipush (pc := 54) (v := (20 : Int32)) dX8_question_54 rfl ?_
      refine r_bipush (pc := 56) (v := (19 : Int32)) dX8_question_56 rfl ?_
      refine r_aload_n (pc := 58) (j := 1) dX8_question_58 rfl rfl ?_
      refine gf8_15 (pc := 59) tw_5_109 hw dX8_question_59 ?_
      refine r_iload_n (pc := 62) (j := 0) dX8_question_62 rfl rfl ?_
      refine x_iald (pc := 63) (k := (Int32.toNatClampNeg v4)) rfl h5 rfl dX8_question_63 ?_
      refine r_iadd (pc := 64) dX8_question_64 ?_
      refine kX8_in (pc := 65) (hf := rfl) tw_6_65 ⟨nle rfl, nle rfl⟩ (nle rfl) dX8_question_65 ?_
      refine r_ifB_eq (pc := 68) (tgt := 86) dX8_question_68 rfl (fun hc => ?_) (fun hc => ?_)
      · replace hr := ite_f hc hr
        refine r_iload_n (pc := 86) (j := 3) dX8_question_86 rfl rfl ?_
        by_cases hc0 : a2 = (0 : Int32)
        · replace hr := ite_t hc0 hr
          refine r_tabIn (pc := 87) (off := 29) (tgt := 116) dX8_question_87 (by rw [hc0]; decide) (by rw [hc0]; decide) (by rw [hc0]; rfl) rfl ?_
          refine r_aload_n (pc := 116) (j := 1) dX8_question_116 rfl rfl ?_
          refine gf8_14 (pc := 117) tw_5_108 hw dX8_question_117 ?_
          refine r_iload_n (pc := 120) (j := 0) dX8_question_120 rfl rfl ?_
          refine x_iald (pc := 121) (k := (Int32.toNatClampNeg v4)) rfl h5 rfl dX8_question_121 ?_
          exact l_opi hr (r_iret (pc := 122) (v := (gI σ0 76 (Int32.toNatClampNeg v4))) rfl rfl ⟨Nat.le_refl _, Nat.le_refl _⟩ dX8_question_122)
        replace hr := ite_f hc0 hr
        by_cases hc1 : a2 = (1 : Int32)
        · replace hr := ite_t hc1 hr
          refine r_tabIn (pc := 87) (off := 36) (tgt := 123) dX8_question_87 (by rw [hc1]; decide) (by rw [hc1]; decide) (by rw [hc1]; rfl) rfl ?_
          refine r_aload_n (pc := 123) (j := 1) dX8_question_123 rfl rfl ?_
          refine gf8_15 (pc := 124) tw_5_109 hw dX8_question_124 ?_
          refine r_iload_n (pc := 127) (j := 0) dX8_question_127 rfl rfl ?_
          refine x_iald (pc := 128) (k := (Int32.toNatClampNeg v4)) rfl h5 rfl dX8_question_128 ?_
          exact l_opi hr (r_iret (pc := 129) (v := (gI σ0 77 (Int32.toNatClampNeg v4))) rfl rfl ⟨Nat.le_refl _, Nat.le_refl _⟩ dX8_question_129)
        replace hr := ite_f hc1 hr
        by_cases hc2 : a2 = (2 : Int32)
        · replace hr := ite_t hc2 hr
          refine r_tabIn (pc := 87) (off := 43) (tgt := 130) dX8_question_87 (by rw [hc2]; decide) (by rw [hc2]; decide) (by rw [hc2]; rfl) rfl ?_
          refine r_aload_n (pc := 130) (j := 1) dX8_question_130 rfl rfl ?_
          refine gf8_16 (pc := 131) tw_5_110 hw dX8_question_131 ?_
          refine r_iload_n (pc := 134) (j := 0) dX8_question_134 rfl rfl ?_
          refine x_iald (pc := 135) (k := (Int32.toNatClampNeg v4)) rfl h5 rfl dX8_question_135 ?_
          exact l_opi hr (r_iret (pc := 136) (v := (gI σ0 78 (Int32.toNatClampNeg v4))) rfl rfl ⟨Nat.le_refl _, Nat.le_refl _⟩ dX8_question_136)
        replace hr := ite_f hc2 hr
        by_cases hc3 : a2 = (3 : Int32)
        · replace hr := ite_t hc3 hr
          refine r_tabIn (pc := 87) (off := 50) (tgt := 137) dX8_question_87 (by rw [hc3]; decide) (by rw [hc3]; decide) (by rw [hc3]; rfl) rfl ?_
          refine r_aload_n (pc := 137) (j := 1) dX8_question_137 rfl rfl ?_
          refine gf8_17 (pc := 138) tw_5_111 hw dX8_question_138 ?_
          refine r_iload_n (pc := 141) (j := 0) dX8_question_141 rfl rfl ?_
          refine x_iald (pc := 142) (k := (Int32.toNatClampNeg v4)) rfl h5 rfl dX8_question_142 ?_
          exact l_opi hr (r_iret (pc := 143) (v := (gI σ0 79 (Int32.toNatClampNeg v4))) rfl rfl ⟨Nat.le_refl _, Nat.le_refl _⟩ dX8_question_143)
        replace hr := ite_f hc3 hr
        refine r_tabOut (pc := 87) (tgt := 144) dX8_question_87 (tab_out (by decide) (by decide) fun k h1 h2 => ?_) rfl ?_
        · rcases (show k = 0 ∨ k = 1 ∨ k = 2 ∨ k = 3 by omega) with rfl | rfl | rfl | rfl
          · exact hc0
          · exact hc1
          · exact hc2
          · exact hc3
        refine r_iconst (pc := 144) (v := (-1 : Int32)) dX8_question_144 rfl ?_
        exact l_opi hr (r_iret (pc := 145) (v := (-1 : Int32)) rfl rfl ⟨Nat.le_refl _, Nat.le_refl _⟩ dX8_question_145)
      replace hr := ite_t hc hr
      refine r_aload_n (pc := 71) (j := 1) dX8_question_71 rfl rfl ?_
      refine gf8_19 (pc := 72) tw_5_113 hw dX8_question_72 ?_
      refine r_bipush (pc := 75) (v := (6 : Int32)) dX8_question_75 rfl ?_
      refine r_iload_n (pc := 77) (j := 0) dX8_question_77 rfl rfl ?_
      refine r_imul (pc := 78) dX8_question_78 ?_
      refine r_iload_n (pc := 79) (j := 3) dX8_question_79 rfl rfl ?_
      refine r_iadd (pc := 80) dX8_question_80 ?_
      refine r_bipush (pc := 81) (v := (20 : Int32)) dX8_question_81 rfl ?_
      refine r_isub (pc := 83) dX8_question_83 ?_
      obtain ⟨h6, hr⟩ := grd_inv hr
      refine x_iald (pc := 84) (k := (Int32.toNatClampNeg ((((6 : Int32) * v4) + a2) - (20 : Int32)))) rfl h6 rfl dX8_question_84 ?_
      exact l_opi hr (r_iret (pc := 85) (v := (gI σ0 81 (Int32.toNatClampNeg ((((6 : Int32) * v4) + a2) - (20 : Int32))))) rfl rfl ⟨Nat.le_refl _, Nat.le_refl _⟩ dX8_question_85)
    replace hr := ite_t hc hr
    refine r_aload_n (pc := 38) (j := 1) dX8_question_38 rfl rfl ?_
    refine gf8_18 (pc := 39) tw_5_112 hw dX8_question_39 ?_
    refine r_bipush (pc := 42) (v := (6 : Int32)) dX8_question_42 rfl ?_
    refine r_iload_n (pc := 44) (j := 0) dX8_question_44 rfl rfl ?_
    refine r_imul (pc := 45) dX8_question_45 ?_
    refine r_iload_n (pc := 46) (j := 3) dX8_question_46 rfl rfl ?_
    refine r_iadd (pc := 47) dX8_question_47 ?_
    refine r_bipush (pc := 48) (v := (10 : Int32)) dX8_question_48 rfl ?_
    refine r_isub (pc := 50) dX8_question_50 ?_
    obtain ⟨h7, hr⟩ := grd_inv hr
    refine x_iald (pc := 51) (k := (Int32.toNatClampNeg ((((6 : Int32) * v4) + a2) - (10 : Int32)))) rfl h7 rfl dX8_question_51 ?_
    exact l_opi hr (r_iret (pc := 52) (v := (gI σ0 80 (Int32.toNatClampNeg ((((6 : Int32) * v4) + a2) - (10 : Int32))))) rfl rfl ⟨Nat.le_refl _, Nat.le_refl _⟩ dX8_question_52)
  replace hr := ite_f hc hr
  refine r_iconst (pc := 8) (v := (-1 : Int32)) dX8_question_8 rfl ?_
  exact l_opi hr (r_iret (pc := 9) (v := (-1 : Int32)) rfl rfl ⟨Nat.le_refl _, Nat.le_refl _⟩ dX8_question_9)

theorem kX8_question {g : GG} {σ0 : SS} {a1 : Int32} {a2 : Int32} {v : Int32} {M : MM} {F : State → Array Value → List Frame → State → Prop} {pc index : Nat} {ls : List (Nat × Value)} {rest : List Value} (hf : fX8_question σ0 a1 a2 = some v)  (hl : Cond.methodLink M.1.cls index yX8_question ∈ lw_gt) (hR : mX8_question.2.2.2.2.frames + 1 ≤ M.2.2.2.2.frames ∧ 8 + (mX8_question.2.2.1 + 11) + mX8_question.2.2.2.2.locals ≤ M.2.2.2.2.locals) (hrest : (rest.map fun v => v.category).sum ≤ 8) (hd : decode M.2.1 pc = .ok (.invokevirtual index, 3)) (k : RR g M F zF (pc + 3) ls (.int v :: rest) σ0) : RR g M F zF pc ls (.int a2 :: .int a1 :: .ref (ad g 73) :: rest) σ0 :=
  r_callV (N := mX8_question) (nn := 2) (o1 := some (.int v)) (sX8_question hf ) (rfl : shp 73 = (8, 0)) (by decide) (shp_le (rfl : shp 73 = (8, 0)) (nle rfl)) (ci := 8) rfl rfl tw_6_140 tw_1_10 hl tw_6_138 tw_6_139 ⟨by decide, by decide, rfl⟩ hR rfl hrest hd ⟨Nat.zero_le _, Nat.zero_le _⟩ rfl (fun h => k)

theorem dX7_set_0 : decode cX7_set 0 = .ok (.iload_n 1, 1) := by decide +kernel
theorem dX7_set_1 : decode cX7_set 1 = .ok (.ifCond .lt 27, 3) := by decide +kernel
theorem dX7_set_4 : decode cX7_set 4 = .ok (.iload_n 1, 1) := by decide +kernel
theorem dX7_set_5 : decode cX7_set 5 = .ok (.bipush 7, 2) := by decide +kernel
theorem dX7_set_7 : decode cX7_set 7 = .ok (.if_icmp .ge 21, 3) := by decide +kernel
theorem dX7_set_10 : decode cX7_set 10 = .ok (.iload_n 2, 1) := by decide +kernel
theorem dX7_set_11 : decode cX7_set 11 = .ok (.getstatic 151, 3) := by decide +kernel
theorem dX7_set_14 : decode cX7_set 14 = .ok (.iload_n 1, 1) := by decide +kernel
theorem dX7_set_15 : decode cX7_set 15 = .ok (.iaload, 1) := by decide +kernel
theorem dX7_set_16 : decode cX7_set 16 = .ok (.if_icmp .lt 12, 3) := by decide +kernel
theorem dX7_set_19 : decode cX7_set 19 = .ok (.iload_n 2, 1) := by decide +kernel
theorem dX7_set_20 : decode cX7_set 20 = .ok (.getstatic 154, 3) := by decide +kernel
theorem dX7_set_23 : decode cX7_set 23 = .ok (.iload_n 1, 1) := by decide +kernel
theorem dX7_set_24 : decode cX7_set 24 = .ok (.iaload, 1) := by decide +kernel
theorem dX7_set_25 : decode cX7_set 25 = .ok (.if_icmp .le 5, 3) := by decide +kernel
theorem dX7_set_28 : decode cX7_set 28 = .ok (.iconst (-1), 1) := by decide +kernel
theorem dX7_set_29 : decode cX7_set 29 = .ok (.ireturn, 1) := by decide +kernel
theorem dX7_set_30 : decode cX7_set 30 = .ok (.aload_n 0, 1) := by decide +kernel
theorem dX7_set_31 : decode cX7_set 31 = .ok (.getfield 62, 3) := by decide +kernel
theorem dX7_set_34 : decode cX7_set 34 = .ok (.getfield 111, 3) := by decide +kernel
theorem dX7_set_37 : decode cX7_set 37 = .ok (.iload_n 1, 1) := by decide +kernel
theorem dX7_set_38 : decode cX7_set 38 = .ok (.iaload, 1) := by decide +kernel
theorem dX7_set_39 : decode cX7_set 39 = .ok (.istore_n 3, 1) := by decide +kernel
theorem dX7_set_40 : decode cX7_set 40 = .ok (.aload_n 0, 1) := by decide +kernel
theorem dX7_set_41 : decode cX7_set 41 = .ok (.getfield 62, 3) := by decide +kernel
theorem dX7_set_44 : decode cX7_set 44 = .ok (.getfield 111, 3) := by decide +kernel
theorem dX7_set_47 : decode cX7_set 47 = .ok (.iload_n 1, 1) := by decide +kernel
theorem dX7_set_48 : decode cX7_set 48 = .ok (.iload_n 2, 1) := by decide +kernel
theorem dX7_set_49 : decode cX7_set 49 = .ok (.iastore, 1) := by decide +kernel
theorem dX7_set_50 : decode cX7_set 50 = .ok (.iload_n 3, 1) := by decide +kernel
theorem dX7_set_51 : decode cX7_set 51 = .ok (.ireturn, 1) := by decide +kernel
def mX7_set : MM := (yX7_set, cX7_set, 4, Option.some Jvm.ClassFile.FieldType.int, { frames := 0, cells := 0, slots := 0, locals := 0 })
def fX7_set (σ : SS) (a1 : Int32) (a2 : Int32) : Option (Int32 × SS) :=
  if a1 < 0 then (
    some ((-1 : Int32), σ)
    ) else (
    if (7 : Int32) ≤ a1 then (
      some ((-1 : Int32), σ)
      ) else (
      grd (inb a1 7) <|
      if a2 < (roV 1001 (Int32.toNatClampNeg a1)) then (
        some ((-1 : Int32), σ)
        ) else (
        if a2 ≤ (roV 1002 (Int32.toNatClampNeg a1)) then (
          vthen (gI σ 32 (Int32.toNatClampNeg a1)) fun v2 =>
          vthen (sI σ 32 (Int32.toNatClampNeg a1) a2) fun σ3 =>
          some (v2, σ3)
          ) else (
          some ((-1 : Int32), σ)
          )
        )
      )
    )

set_option maxRecDepth 20000 in
theorem sX7_set {g : GG} {σ : SS} {a1 : Int32} {a2 : Int32} {r : Int32 × SS} (hr : fX7_set σ a1 a2 = some r)  : Ct g mX7_set [.ref (ad g 1), .int a1, .int a2] NF σ (some (.int r.1)) NF r.2 := by
  refine Ct.of (by decide +kernel) (nle rfl) fun hw0 => ?_
  have hw := hw0 rfl
  unfold fX7_set at hr
  change RR g mX7_set (FinR g mX7_set (some (.int r.1)) NF r.2) zF 0 [(0, .ref (ad g 1)), (1, .int a1), (2, .int a2)] [] σ
  refine r_iload_n (pc := 0) (j := 1) dX7_set_0 rfl rfl ?_
  refine r_if_lt (pc := 1) (tgt := 28) dX7_set_1 rfl (fun hc => ?_) (fun hc => ?_)
  · replace hr := ite_t hc hr
    refine r_iconst (pc := 28) (v := (-1 : Int32)) dX7_set_28 rfl ?_
    exact l_osi hr (r_iret (pc := 29) (v := (-1 : Int32)) rfl rfl ⟨Nat.le_refl _, Nat.le_refl _⟩ dX7_set_29)
  replace hr := ite_f hc hr
  refine r_iload_n (pc := 4) (j := 1) dX7_set_4 rfl rfl ?_
  refine r_bipush (pc := 5) (v := (7 : Int32)) dX7_set_5 rfl ?_
  refine r_icmp_ge (pc := 7) (tgt := 28) dX7_set_7 rfl (fun hc => ?_) (fun hc => ?_)
  · replace hr := ite_t hc hr
    refine r_iconst (pc := 28) (v := (-1 : Int32)) dX7_set_28 rfl ?_
    exact l_osi hr (r_iret (pc := 29) (v := (-1 : Int32)) rfl rfl ⟨Nat.le_refl _, Nat.le_refl _⟩ dX7_set_29)
  replace hr := ite_f hc hr
  refine r_iload_n (pc := 10) (j := 2) dX7_set_10 rfl rfl ?_
  refine r_gets (pc := 11) z_1001 tw_3_100 dX7_set_11 ?_
  refine r_iload_n (pc := 14) (j := 1) dX7_set_14 rfl rfl ?_
  obtain ⟨h1, hr⟩ := grd_inv hr
  refine x_ti (pc := 15) (j := (Int32.toNatClampNeg a1)) t_1001 h1 rfl dX7_set_15 ?_
  refine r_icmp_lt (pc := 16) (tgt := 28) dX7_set_16 rfl (fun hc => ?_) (fun hc => ?_)
  · replace hr := ite_t hc hr
    refine r_iconst (pc := 28) (v := (-1 : Int32)) dX7_set_28 rfl ?_
    exact l_osi hr (r_iret (pc := 29) (v := (-1 : Int32)) rfl rfl ⟨Nat.le_refl _, Nat.le_refl _⟩ dX7_set_29)
  replace hr := ite_f hc hr
  refine r_iload_n (pc := 19) (j := 2) dX7_set_19 rfl rfl ?_
  refine r_gets (pc := 20) z_1002 tw_3_102 dX7_set_20 ?_
  refine r_iload_n (pc := 23) (j := 1) dX7_set_23 rfl rfl ?_
  refine x_ti (pc := 24) (j := (Int32.toNatClampNeg a1)) t_1002 h1 rfl dX7_set_24 ?_
  refine r_icmp_le (pc := 25) (tgt := 30) dX7_set_25 rfl (fun hc => ?_) (fun hc => ?_)
  · replace hr := ite_t hc hr
    refine r_aload_n (pc := 30) (j := 0) dX7_set_30 rfl rfl ?_
    refine gf7_12 (pc := 31) tw_2_121 hw dX7_set_31 ?_
    refine gf3_0 (pc := 34) tw_2_23 hw dX7_set_34 ?_
    refine r_iload_n (pc := 37) (j := 1) dX7_set_37 rfl rfl ?_
    refine x_iald (pc := 38) (k := (Int32.toNatClampNeg a1)) rfl h1 rfl dX7_set_38 ?_
    refine r_topi fun v2 ev2 => ?_
    replace hr := vthen_inv hr v2 ev2
    refine r_istore_n (pc := 39) (ls1 := [(3, .int v2), (0, .ref (ad g 1)), (1, .int a1), (2, .int a2)]) dX7_set_39 rfl (nle rfl) rfl ?_
    refine r_aload_n (pc := 40) (j := 1) dX7_set_40 rfl rfl ?_
    refine gf7_12 (pc := 41) tw_2_121 hw dX7_set_41 ?_
    refine gf3_0 (pc := 44) tw_2_23 hw dX7_set_44 ?_
    refine r_iload_n (pc := 47) (j := 2) dX7_set_47 rfl rfl ?_
    refine r_iload_n (pc := 48) (j := 3) dX7_set_48 rfl rfl ?_
    refine x_iast (pc := 49) (j := (Int32.toNatClampNeg a1)) rfl h1 rfl dX7_set_49 fun σ3 eσ3 => ?_
    replace hr := vthen_inv hr σ3 eσ3
    have hσ3 := wtI eσ3 hw
    refine r_iload_n (pc := 50) (j := 0) dX7_set_50 rfl rfl ?_
    exact l_osi hr (r_iret (pc := 51) (v := v2) rfl rfl ⟨Nat.le_refl _, Nat.le_refl _⟩ dX7_set_51)
  replace hr := ite_f hc hr
  refine r_iconst (pc := 28) (v := (-1 : Int32)) dX7_set_28 rfl ?_
  exact l_osi hr (r_iret (pc := 29) (v := (-1 : Int32)) rfl rfl ⟨Nat.le_refl _, Nat.le_refl _⟩ dX7_set_29)

theorem kX7_set {g : GG} {σ : SS} {a1 : Int32} {a2 : Int32} {v : Int32} {σ2 : SS} {M : MM} {F : State → Array Value → List Frame → State → Prop} {pc index : Nat} {ls : List (Nat × Value)} {rest : List Value} (hf : fX7_set σ a1 a2 = some (v, σ2))  (hl : Cond.methodLink M.1.cls index yX7_set ∈ lw_gt) (hR : mX7_set.2.2.2.2.frames + 1 ≤ M.2.2.2.2.frames ∧ 8 + (mX7_set.2.2.1 + 11) + mX7_set.2.2.2.2.locals ≤ M.2.2.2.2.locals) (hrest : (rest.map fun v => v.category).sum ≤ 8) (hd : decode M.2.1 pc = .ok (.invokevirtual index, 3)) (k : WT σ2 → RR g M F zF (pc + 3) ls (.int v :: rest) σ2) : RR g M F zF pc ls (.int a2 :: .int a1 :: .ref (ad g 1) :: rest) σ :=
  r_callV (N := mX7_set) (nn := 2) (o1 := some (.int v)) (sX7_set hf ) (rfl : shp 1 = (7, 0)) (by decide) (shp_le (rfl : shp 1 = (7, 0)) (nle rfl)) (ci := 7) rfl rfl tw_3_99 tw_1_1 hl tw_3_97 tw_3_98 ⟨by decide, by decide, rfl⟩ hR rfl hrest hd ⟨Nat.zero_le _, Nat.zero_le _⟩ rfl (fun h => k (h rfl))

theorem dX8_set_0 : decode cX8_set 0 = .ok (.iload_n 1, 1) := by decide +kernel
theorem dX8_set_1 : decode cX8_set 1 = .ok (.iconst 4, 1) := by decide +kernel
theorem dX8_set_2 : decode cX8_set 2 = .ok (.if_icmp .ge 7, 3) := by decide +kernel
theorem dX8_set_5 : decode cX8_set 5 = .ok (.iconst 1, 1) := by decide +kernel
theorem dX8_set_6 : decode cX8_set 6 = .ok (.goto 4, 3) := by decide +kernel
theorem dX8_set_9 : decode cX8_set 9 = .ok (.iconst 0, 1) := by decide +kernel
theorem dX8_set_10 : decode cX8_set 10 = .ok (.istore_n 3, 1) := by decide +kernel
theorem dX8_set_11 : decode cX8_set 11 = .ok (.iload_n 1, 1) := by decide +kernel
theorem dX8_set_12 : decode cX8_set 12 = .ok (.ifCond .ne 8, 3) := by decide +kernel
theorem dX8_set_15 : decode cX8_set 15 = .ok (.bipush 9, 2) := by decide +kernel
theorem dX8_set_17 : decode cX8_set 17 = .ok (.goto 32, 3) := by decide +kernel
theorem dX8_set_20 : decode cX8_set 20 = .ok (.iload_n 1, 1) := by decide +kernel
theorem dX8_set_21 : decode cX8_set 21 = .ok (.iconst 1, 1) := by decide +kernel
theorem dX8_set_22 : decode cX8_set 22 = .ok (.if_icmp .eq 9, 3) := by decide +kernel
theorem dX8_set_25 : decode cX8_set 25 = .ok (.iload_n 1, 1) := by decide +kernel
theorem dX8_set_26 : decode cX8_set 26 = .ok (.bipush 6, 2) := by decide +kernel
theorem dX8_set_28 : decode cX8_set 28 = .ok (.if_icmp .ne 8, 3) := by decide +kernel
theorem dX8_set_31 : decode cX8_set 31 = .ok (.bipush 20, 2) := by decide +kernel
theorem dX8_set_33 : decode cX8_set 33 = .ok (.goto 16, 3) := by decide +kernel
theorem dX8_set_36 : decode cX8_set 36 = .ok (.iload_n 1, 1) := by decide +kernel
theorem dX8_set_37 : decode cX8_set 37 = .ok (.iconst 2, 1) := by decide +kernel
theorem dX8_set_38 : decode cX8_set 38 = .ok (.if_icmp .ne 8, 3) := by decide +kernel
theorem dX8_set_41 : decode cX8_set 41 = .ok (.bipush 60, 2) := by decide +kernel
theorem dX8_set_43 : decode cX8_set 43 = .ok (.goto 6, 3) := by decide +kernel
theorem dX8_set_46 : decode cX8_set 46 = .ok (.sipush 200, 3) := by decide +kernel
theorem dX8_set_49 : decode cX8_set 49 = .ok (.istore 4, 2) := by decide +kernel
theorem dX8_set_51 : decode cX8_set 51 = .ok (.iload_n 1, 1) := by decide +kernel
theorem dX8_set_52 : decode cX8_set 52 = .ok (.iconst 0, 1) := by decide +kernel
theorem dX8_set_53 : decode cX8_set 53 = .ok (.bipush 6, 2) := by decide +kernel
theorem dX8_set_55 : decode cX8_set 55 = .ok (.invokestatic 165, 3) := by decide +kernel
theorem dX8_set_58 : decode cX8_set 58 = .ok (.ifCond .eq 13, 3) := by decide +kernel
theorem dX8_set_61 : decode cX8_set 61 = .ok (.iload_n 2, 1) := by decide +kernel
theorem dX8_set_62 : decode cX8_set 62 = .ok (.iload_n 3, 1) := by decide +kernel
theorem dX8_set_63 : decode cX8_set 63 = .ok (.iload 4, 2) := by decide +kernel
theorem dX8_set_65 : decode cX8_set 65 = .ok (.invokestatic 165, 3) := by decide +kernel
theorem dX8_set_68 : decode cX8_set 68 = .ok (.ifCond .ne 5, 3) := by decide +kernel
theorem dX8_set_71 : decode cX8_set 71 = .ok (.iconst (-1), 1) := by decide +kernel
theorem dX8_set_72 : decode cX8_set 72 = .ok (.ireturn, 1) := by decide +kernel
theorem dX8_set_73 : decode cX8_set 73 = .ok (.aload_n 0, 1) := by decide +kernel
theorem dX8_set_74 : decode cX8_set 74 = .ok (.getfield 53, 3) := by decide +kernel
theorem dX8_set_77 : decode cX8_set 77 = .ok (.iload_n 1, 1) := by decide +kernel
theorem dX8_set_78 : decode cX8_set 78 = .ok (.iaload, 1) := by decide +kernel
theorem dX8_set_79 : decode cX8_set 79 = .ok (.istore 5, 2) := by decide +kernel
theorem dX8_set_81 : decode cX8_set 81 = .ok (.aload_n 0, 1) := by decide +kernel
theorem dX8_set_82 : decode cX8_set 82 = .ok (.getfield 53, 3) := by decide +kernel
theorem dX8_set_85 : decode cX8_set 85 = .ok (.iload_n 1, 1) := by decide +kernel
theorem dX8_set_86 : decode cX8_set 86 = .ok (.iload_n 2, 1) := by decide +kernel
theorem dX8_set_87 : decode cX8_set 87 = .ok (.iastore, 1) := by decide +kernel
theorem dX8_set_88 : decode cX8_set 88 = .ok (.iload 5, 2) := by decide +kernel
theorem dX8_set_90 : decode cX8_set 90 = .ok (.ireturn, 1) := by decide +kernel
def mX8_set : MM := (yX8_set, cX8_set, 6, Option.some Jvm.ClassFile.FieldType.int, { frames := 1, cells := 0, slots := 0, locals := 22 })
def fX8_set (σ : SS) (a1 : Int32) (a2 : Int32) : Option (Int32 × SS) :=
  vthen (fun (s1 : Int32) =>
    vthen (fun (s2 : Int32) =>
      if (fX8_in σ a1 (0 : Int32) (6 : Int32)) = true then (
        if (fX8_in σ a2 s1 s2) = true then (
          grd (inb a1 7) <|
          vthen (gI σ 88 (Int32.toNatClampNeg a1)) fun v4 =>
          vthen (sI σ 88 (Int32.toNatClampNeg a1) a2) fun σ5 =>
          some (v4, σ5)
          ) else (
          some ((-1 : Int32), σ)
          )
        ) else (
        some ((-1 : Int32), σ)
        )
      ) fun j49 =>
    if a1 = 0 then (
      j49 (9 : Int32)
      ) else (
      if a1 = (1 : Int32) then (
        j49 (20 : Int32)
        ) else (
        if a1 = (6 : Int32) then (
          j49 (20 : Int32)
          ) else (
          if a1 = (2 : Int32) then (
            j49 (60 : Int32)
            ) else (
            j49 (200 : Int32)
            )
          )
        )
      )
    ) fun j10 =>
  if (4 : Int32) ≤ a1 then (
    j10 (0 : Int32)
    ) else (
    j10 (1 : Int32)
    )

set_option maxRecDepth 20000 in
theorem sX8_set {g : GG} {σ : SS} {a1 : Int32} {a2 : Int32} {r : Int32 × SS} (hr : fX8_set σ a1 a2 = some r)  : Ct g mX8_set [.ref (ad g 73), .int a1, .int a2] NF σ (some (.int r.1)) NF r.2 := by
  refine Ct.of (by decide +kernel) (nle rfl) fun hw0 => ?_
  have hw := hw0 rfl
  unfold fX8_set at hr
  change RR g mX8_set (FinR g mX8_set (some (.int r.1)) NF r.2) zF 0 [(0, .ref (ad g 73)), (1, .int a1), (2, .int a2)] [] σ
  refine r_iload_n (pc := 0) (j := 1) dX8_set_0 rfl rfl ?_
  refine r_iconst (pc := 1) (v := (4 : Int32)) dX8_set_1 rfl ?_
  obtain ⟨j10, ej10, hr⟩ := vth_ex hr
  have hj10 : ∀ (s1 : Int32), j10 s1 = some r → RR g mX8_set (FinR g mX8_set (some (.int r.1)) NF r.2) zF 10 [(0, .ref (ad g 73)), (1, .int a1), (2, .int a2)] [.int s1] σ := by
    intro s1 hr
    replace hr := (congrFun ej10 s1).symm.trans hr
    refine r_istore_n (pc := 10) (ls1 := [(3, .int s1), (0, .ref (ad g 73)), (1, .int a1), (2, .int a2)]) dX8_set_10 rfl (nle rfl) rfl ?_
    refine r_iload_n (pc := 11) (j := 2) dX8_set_11 rfl rfl ?_
    obtain ⟨j49, ej49, hr⟩ := vth_ex hr
    have hj49 : ∀ (s2 : Int32), j49 s2 = some r → RR g mX8_set (FinR g mX8_set (some (.int r.1)) NF r.2) zF 49 [(0, .ref (ad g 73)), (1, .int a1), (2, .int a2), (3, .int s1)] [.int s2] σ := by
      intro s2 hr
      replace hr := (congrFun ej49 s2).symm.trans hr
      refine r_istore (pc := 49) (ls1 := [(4, .int s2), (0, .ref (ad g 73)), (1, .int a1), (2, .int a2), (3, .int s1)]) dX8_set_49 (nle rfl) rfl ?_
      refine r_iload_n (pc := 51) (j := 2) dX8_set_51 rfl rfl ?_
      refine r_iconst (pc := 52) (v := (0 : Int32)) dX8_set_52 rfl ?_
      refine r_bipush (pc := 53) (v := (6 : Int32)) dX8_set_53 rfl ?_
      refine kX8_in (pc := 55) (hf := rfl) tw_6_65 ⟨nle rfl, nle rfl⟩ (nle rfl) dX8_set_55 ?_
      refine r_ifB_eq (pc := 58) (tgt := 71) dX8_set_58 rfl (fun hc => ?_) (fun hc => ?_)
      · replace hr := ite_f hc hr
        refine r_iconst (pc := 71) (v := (-1 : Int32)) dX8_set_71 rfl ?_
        exact l_osi hr (r_iret (pc := 72) (v := (-1 : Int32)) rfl rfl ⟨Nat.le_refl _, Nat.le_refl _⟩ dX8_set_72)
      replace hr := ite_t hc hr
      refine r_iload_n (pc := 61) (j := 3) dX8_set_61 rfl rfl ?_
      refine r_iload_n (pc := 62) (j := 4) dX8_set_62 rfl rfl ?_
      refine r_iload (pc := 63) (j := 0) dX8_set_63 rfl ?_
      refine kX8_in (pc := 65) (hf := rfl) tw_6_65 ⟨nle rfl, nle rfl⟩ (nle rfl) dX8_set_65 ?_
      refine r_ifB_ne (pc := 68) (tgt := 73) dX8_set_68 rfl (fun hc => ?_) (fun hc => ?_)
      · replace hr := ite_t hc hr
        refine r_aload_n (pc := 73) (j := 1) dX8_set_73 rfl rfl ?_
        refine gf8_26 (pc := 74) tw_5_120 hw dX8_set_74 ?_
        refine r_iload_n (pc := 77) (j := 2) dX8_set_77 rfl rfl ?_
        obtain ⟨h3, hr⟩ := grd_inv hr
        refine x_iald (pc := 78) (k := (Int32.toNatClampNeg a1)) rfl h3 rfl dX8_set_78 ?_
        refine r_topi fun v4 ev4 => ?_
        replace hr := vthen_inv hr v4 ev4
        refine r_istore (pc := 79) (ls1 := [(5, .int v4), (4, .int s2), (0, .ref (ad g 73)), (1, .int a1), (2, .int a2), (3, .int s1)]) dX8_set_79 (nle rfl) rfl ?_
        refine r_aload_n (pc := 81) (j := 2) dX8_set_81 rfl rfl ?_
        refine gf8_26 (pc := 82) tw_5_120 hw dX8_set_82 ?_
        refine r_iload_n (pc := 85) (j := 3) dX8_set_85 rfl rfl ?_
        refine r_iload_n (pc := 86) (j := 4) dX8_set_86 rfl rfl ?_
        refine x_iast (pc := 87) (j := (Int32.toNatClampNeg a1)) rfl h3 rfl dX8_set_87 fun σ5 eσ5 => ?_
        replace hr := vthen_inv hr σ5 eσ5
        have hσ5 := wtI eσ5 hw
        refine r_iload (pc := 88) (j := 0) dX8_set_88 rfl ?_
        exact l_osi hr (r_iret (pc := 90) (v := v4) rfl rfl ⟨Nat.le_refl _, Nat.le_refl _⟩ dX8_set_90)
      replace hr := ite_f hc hr
      refine r_iconst (pc := 71) (v := (-1 : Int32)) dX8_set_71 rfl ?_
      exact l_osi hr (r_iret (pc := 72) (v := (-1 : Int32)) rfl rfl ⟨Nat.le_refl _, Nat.le_refl _⟩ dX8_set_72)
    refine r_if_ne (pc := 12) (tgt := 20) dX8_set_12 rfl (fun hc => ?_) (fun hc => ?_)
    · replace hr := ite_f hc hr
      refine r_iload_n (pc := 20) (j := 2) dX8_set_20 rfl rfl ?_
      refine r_iconst (pc := 21) (v := (1 : Int32)) dX8_set_21 rfl ?_
      refine r_icmp_eq (pc := 22) (tgt := 31) dX8_set_22 rfl (fun hc => ?_) (fun hc => ?_)
      · replace hr := ite_t hc hr
        refine r_bipush (pc := 31) (v := (20 : Int32)) dX8_set_31 rfl ?_
        refine r_goto (pc := 33) (tgt := 49) dX8_set_33 rfl ?_
        exact r_pick (ls1 := [(0, .ref (ad g 73)), (1, .int a1), (2, .int a2), (3, .int s1)]) [1, 2, 3, 0] rfl (hj49 (20 : Int32) hr)
      replace hr := ite_f hc hr
      refine r_iload_n (pc := 25) (j := 2) dX8_set_25 rfl rfl ?_
      refine r_bipush (pc := 26) (v := (6 : Int32)) dX8_set_26 rfl ?_
      refine r_icmp_ne (pc := 28) (tgt := 36) dX8_set_28 rfl (fun hc => ?_) (fun hc => ?_)
      · replace hr := ite_f hc hr
        refine r_iload_n (pc := 36) (j := 2) dX8_set_36 rfl rfl ?_
        refine r_iconst (pc := 37) (v := (2 : Int32)) dX8_set_37 rfl ?_
        refine r_icmp_ne (pc := 38) (tgt := 46) dX8_set_38 rfl (fun hc => ?_) (fun hc => ?_)
        · replace hr := ite_f hc hr
          refine r_sipush (pc := 46) (v := (200 : Int32)) dX8_set_46 rfl ?_
          exact r_pick (ls1 := [(0, .ref (ad g 73)), (1, .int a1), (2, .int a2), (3, .int s1)]) [1, 2, 3, 0] rfl (hj49 (200 : Int32) hr)
        replace hr := ite_t hc hr
        refine r_bipush (pc := 41) (v := (60 : Int32)) dX8_set_41 rfl ?_
        refine r_goto (pc := 43) (tgt := 49) dX8_set_43 rfl ?_
        exact r_pick (ls1 := [(0, .ref (ad g 73)), (1, .int a1), (2, .int a2), (3, .int s1)]) [1, 2, 3, 0] rfl (hj49 (60 : Int32) hr)
      replace hr := ite_t hc hr
      refine r_bipush (pc := 31) (v := (20 : Int32)) dX8_set_31 rfl ?_
      refine r_goto (pc := 33) (tgt := 49) dX8_set_33 rfl ?_
      exact r_pick (ls1 := [(0, .ref (ad g 73)), (1, .int a1), (2, .int a2), (3, .int s1)]) [1, 2, 3, 0] rfl (hj49 (20 : Int32) hr)
    replace hr := ite_t hc hr
    refine r_bipush (pc := 15) (v := (9 : Int32)) dX8_set_15 rfl ?_
    refine r_goto (pc := 17) (tgt := 49) dX8_set_17 rfl ?_
    exact r_pick (ls1 := [(0, .ref (ad g 73)), (1, .int a1), (2, .int a2), (3, .int s1)]) [1, 2, 3, 0] rfl (hj49 (9 : Int32) hr)
  refine r_icmp_ge (pc := 2) (tgt := 9) dX8_set_2 rfl (fun hc => ?_) (fun hc => ?_)
  · replace hr := ite_t hc hr
    refine r_iconst (pc := 9) (v := (0 : Int32)) dX8_set_9 rfl ?_
    exact r_pick (ls1 := [(0, .ref (ad g 73)), (1, .int a1), (2, .int a2)]) [0, 1, 2] rfl (hj10 (0 : Int32) hr)
  replace hr := ite_f hc hr
  refine r_iconst (pc := 5) (v := (1 : Int32)) dX8_set_5 rfl ?_
  refine r_goto (pc := 6) (tgt := 10) dX8_set_6 rfl ?_
  exact r_pick (ls1 := [(0, .ref (ad g 73)), (1, .int a1), (2, .int a2)]) [0, 1, 2] rfl (hj10 (1 : Int32) hr)

theorem kX8_set {g : GG} {σ : SS} {a1 : Int32} {a2 : Int32} {v : Int32} {σ2 : SS} {M : MM} {F : State → Array Value → List Frame → State → Prop} {pc index : Nat} {ls : List (Nat × Value)} {rest : List Value} (hf : fX8_set σ a1 a2 = some (v, σ2))  (hl : Cond.methodLink M.1.cls index yX8_set ∈ lw_gt) (hR : mX8_set.2.2.2.2.frames + 1 ≤ M.2.2.2.2.frames ∧ 8 + (mX8_set.2.2.1 + 11) + mX8_set.2.2.2.2.locals ≤ M.2.2.2.2.locals) (hrest : (rest.map fun v => v.category).sum ≤ 8) (hd : decode M.2.1 pc = .ok (.invokevirtual index, 3)) (k : WT σ2 → RR g M F zF (pc + 3) ls (.int v :: rest) σ2) : RR g M F zF pc ls (.int a2 :: .int a1 :: .ref (ad g 73) :: rest) σ :=
  r_callV (N := mX8_set) (nn := 2) (o1 := some (.int v)) (sX8_set hf ) (rfl : shp 73 = (8, 0)) (by decide) (shp_le (rfl : shp 73 = (8, 0)) (nle rfl)) (ci := 8) rfl rfl tw_6_156 tw_1_10 hl tw_6_154 tw_6_155 ⟨by decide, by decide, rfl⟩ hR rfl hrest hd ⟨Nat.zero_le _, Nat.zero_le _⟩ rfl (fun h => k (h rfl))

theorem dX7_blank_0 : decode cX7_blank 0 = .ok (.iload_n 1, 1) := by decide +kernel
theorem dX7_blank_1 : decode cX7_blank 1 = .ok (.bipush 8, 2) := by decide +kernel
theorem dX7_blank_3 : decode cX7_blank 3 = .ok (.if_icmp .lt 21, 3) := by decide +kernel
theorem dX7_blank_6 : decode cX7_blank 6 = .ok (.iload_n 1, 1) := by decide +kernel
theorem dX7_blank_7 : decode cX7_blank 7 = .ok (.bipush 40, 2) := by decide +kernel
theorem dX7_blank_9 : decode cX7_blank 9 = .ok (.if_icmp .gt 15, 3) := by decide +kernel
theorem dX7_blank_12 : decode cX7_blank 12 = .ok (.iload_n 2, 1) := by decide +kernel
theorem dX7_blank_13 : decode cX7_blank 13 = .ok (.bipush 8, 2) := by decide +kernel
theorem dX7_blank_15 : decode cX7_blank 15 = .ok (.if_icmp .lt 9, 3) := by decide +kernel
theorem dX7_blank_18 : decode cX7_blank 18 = .ok (.iload_n 2, 1) := by decide +kernel
theorem dX7_blank_19 : decode cX7_blank 19 = .ok (.bipush 40, 2) := by decide +kernel
theorem dX7_blank_21 : decode cX7_blank 21 = .ok (.if_icmp .le 5, 3) := by decide +kernel
theorem dX7_blank_24 : decode cX7_blank 24 = .ok (.iconst 0, 1) := by decide +kernel
theorem dX7_blank_25 : decode cX7_blank 25 = .ok (.ireturn, 1) := by decide +kernel
theorem dX7_blank_26 : decode cX7_blank 26 = .ok (.aload_n 0, 1) := by decide +kernel
theorem dX7_blank_27 : decode cX7_blank 27 = .ok (.getfield 18, 3) := by decide +kernel
theorem dX7_blank_30 : decode cX7_blank 30 = .ok (.iload_n 1, 1) := by decide +kernel
theorem dX7_blank_31 : decode cX7_blank 31 = .ok (.iload_n 2, 1) := by decide +kernel
theorem dX7_blank_32 : decode cX7_blank 32 = .ok (.invokevirtual 73, 3) := by decide +kernel
theorem dX7_blank_35 : decode cX7_blank 35 = .ok (.iconst 1, 1) := by decide +kernel
theorem dX7_blank_36 : decode cX7_blank 36 = .ok (.ireturn, 1) := by decide +kernel
def mX7_blank : MM := (yX7_blank, cX7_blank, 3, Option.some Jvm.ClassFile.FieldType.boolean, { frames := 2, cells := 0, slots := 0, locals := 45 })
def fX7_blank (σ : SS) (a1 : Int32) (a2 : Int32) : Option (Bool × SS) :=
  if a1 < (8 : Int32) then (
    some (false, σ)
    ) else (
    if (40 : Int32) < a1 then (
      some (false, σ)
      ) else (
      if a2 < (8 : Int32) then (
        some (false, σ)
        ) else (
        if a2 ≤ (40 : Int32) then (
          bnd1 (fX6_empty σ (gR σ 1 2) a1 a2) fun σ1 =>
          some (true, σ1)
          ) else (
          some (false, σ)
          )
        )
      )
    )

set_option maxRecDepth 20000 in
theorem sX7_blank {g : GG} {σ : SS} {a1 : Int32} {a2 : Int32} {r : Bool × SS} (hr : fX7_blank σ a1 a2 = some r)  : Ct g mX7_blank [.ref (ad g 1), .int a1, .int a2] NF σ (some (.int (b2i r.1))) NF r.2 := by
  refine Ct.of (by decide +kernel) (nle rfl) fun hw0 => ?_
  have hw := hw0 rfl
  unfold fX7_blank at hr
  change RR g mX7_blank (FinR g mX7_blank (some (.int (b2i r.1))) NF r.2) zF 0 [(0, .ref (ad g 1)), (1, .int a1), (2, .int a2)] [] σ
  refine r_iload_n (pc := 0) (j := 1) dX7_blank_0 rfl rfl ?_
  refine r_bipush (pc := 1) (v := (8 : Int32)) dX7_blank_1 rfl ?_
  refine r_icmp_lt (pc := 3) (tgt := 24) dX7_blank_3 rfl (fun hc => ?_) (fun hc => ?_)
  · replace hr := ite_t hc hr
    refine r_iconst (pc := 24) (v := (0 : Int32)) dX7_blank_24 rfl ?_
    exact l_osz hr (r_zret (pc := 25) (v := b2i false) (ty := .boolean) rfl (b2i_nar _) rfl ⟨Nat.le_refl _, Nat.le_refl _⟩ dX7_blank_25)
  replace hr := ite_f hc hr
  refine r_iload_n (pc := 6) (j := 1) dX7_blank_6 rfl rfl ?_
  refine r_bipush (pc := 7) (v := (40 : Int32)) dX7_blank_7 rfl ?_
  refine r_icmp_gt (pc := 9) (tgt := 24) dX7_blank_9 rfl (fun hc => ?_) (fun hc => ?_)
  · replace hr := ite_t hc hr
    refine r_iconst (pc := 24) (v := (0 : Int32)) dX7_blank_24 rfl ?_
    exact l_osz hr (r_zret (pc := 25) (v := b2i false) (ty := .boolean) rfl (b2i_nar _) rfl ⟨Nat.le_refl _, Nat.le_refl _⟩ dX7_blank_25)
  replace hr := ite_f hc hr
  refine r_iload_n (pc := 12) (j := 2) dX7_blank_12 rfl rfl ?_
  refine r_bipush (pc := 13) (v := (8 : Int32)) dX7_blank_13 rfl ?_
  refine r_icmp_lt (pc := 15) (tgt := 24) dX7_blank_15 rfl (fun hc => ?_) (fun hc => ?_)
  · replace hr := ite_t hc hr
    refine r_iconst (pc := 24) (v := (0 : Int32)) dX7_blank_24 rfl ?_
    exact l_osz hr (r_zret (pc := 25) (v := b2i false) (ty := .boolean) rfl (b2i_nar _) rfl ⟨Nat.le_refl _, Nat.le_refl _⟩ dX7_blank_25)
  replace hr := ite_f hc hr
  refine r_iload_n (pc := 18) (j := 2) dX7_blank_18 rfl rfl ?_
  refine r_bipush (pc := 19) (v := (40 : Int32)) dX7_blank_19 rfl ?_
  refine r_icmp_le (pc := 21) (tgt := 26) dX7_blank_21 rfl (fun hc => ?_) (fun hc => ?_)
  · replace hr := ite_t hc hr
    refine r_aload_n (pc := 26) (j := 0) dX7_blank_26 rfl rfl ?_
    refine gf7_2 (pc := 27) tw_2_111 hw dX7_blank_27 ?_
    refine r_iload_n (pc := 30) (j := 1) dX7_blank_30 rfl rfl ?_
    refine r_iload_n (pc := 31) (j := 2) dX7_blank_31 rfl rfl ?_
    obtain ⟨σ1, eσ1, hr⟩ := bnd1_inv hr
    refine kX6_empty (pc := 32) eσ1 (wt_sc hw).1 tw_2_102 ⟨nle rfl, nle rfl⟩ (nle rfl) dX7_blank_32 fun hσ1 => ?_
    refine r_iconst (pc := 35) (v := (1 : Int32)) dX7_blank_35 rfl ?_
    exact l_osz hr (r_zret (pc := 36) (v := b2i true) (ty := .boolean) rfl (b2i_nar _) rfl ⟨Nat.le_refl _, Nat.le_refl _⟩ dX7_blank_36)
  replace hr := ite_f hc hr
  refine r_iconst (pc := 24) (v := (0 : Int32)) dX7_blank_24 rfl ?_
  exact l_osz hr (r_zret (pc := 25) (v := b2i false) (ty := .boolean) rfl (b2i_nar _) rfl ⟨Nat.le_refl _, Nat.le_refl _⟩ dX7_blank_25)

theorem kX7_blank {g : GG} {σ : SS} {a1 : Int32} {a2 : Int32} {v : Bool} {σ2 : SS} {M : MM} {F : State → Array Value → List Frame → State → Prop} {pc index : Nat} {ls : List (Nat × Value)} {rest : List Value} (hf : fX7_blank σ a1 a2 = some (v, σ2))  (hl : Cond.methodLink M.1.cls index yX7_blank ∈ lw_gt) (hR : mX7_blank.2.2.2.2.frames + 1 ≤ M.2.2.2.2.frames ∧ 8 + (mX7_blank.2.2.1 + 11) + mX7_blank.2.2.2.2.locals ≤ M.2.2.2.2.locals) (hrest : (rest.map fun v => v.category).sum ≤ 8) (hd : decode M.2.1 pc = .ok (.invokevirtual index, 3)) (k : WT σ2 → RR g M F zF (pc + 3) ls (.int (b2i v) :: rest) σ2) : RR g M F zF pc ls (.int a2 :: .int a1 :: .ref (ad g 1) :: rest) σ :=
  r_callV (N := mX7_blank) (nn := 2) (o1 := some (.int (b2i v))) (sX7_blank hf ) (rfl : shp 1 = (7, 0)) (by decide) (shp_le (rfl : shp 1 = (7, 0)) (nle rfl)) (ci := 7) rfl rfl tw_3_107 tw_1_1 hl tw_3_105 tw_3_106 ⟨by decide, by decide, rfl⟩ hR rfl hrest hd ⟨Nat.zero_le _, Nat.zero_le _⟩ rfl (fun h => k (h rfl))

theorem dX8_clears_0 : decode cX8_clears 0 = .ok (.iconst 0, 1) := by decide +kernel
theorem dX8_clears_1 : decode cX8_clears 1 = .ok (.istore_n 1, 1) := by decide +kernel
theorem dX8_clears_2 : decode cX8_clears 2 = .ok (.iload_n 1, 1) := by decide +kernel
theorem dX8_clears_3 : decode cX8_clears 3 = .ok (.sipush 1600, 3) := by decide +kernel
theorem dX8_clears_6 : decode cX8_clears 6 = .ok (.if_icmp .ge 16, 3) := by decide +kernel
theorem dX8_clears_9 : decode cX8_clears 9 = .ok (.aload_n 0, 1) := by decide +kernel
theorem dX8_clears_10 : decode cX8_clears 10 = .ok (.getfield 38, 3) := by decide +kernel
theorem dX8_clears_13 : decode cX8_clears 13 = .ok (.iload_n 1, 1) := by decide +kernel
theorem dX8_clears_14 : decode cX8_clears 14 = .ok (.iconst 0, 1) := by decide +kernel
theorem dX8_clears_15 : decode cX8_clears 15 = .ok (.iastore, 1) := by decide +kernel
theorem dX8_clears_16 : decode cX8_clears 16 = .ok (.iinc 1 1, 3) := by decide +kernel
theorem dX8_clears_19 : decode cX8_clears 19 = .ok (.goto (-17), 3) := by decide +kernel
theorem dX8_clears_22 : decode cX8_clears 22 = .ok (.return_, 1) := by decide +kernel
def mX8_clears : MM := (yX8_clears, cX8_clears, 2, none, { frames := 0, cells := 0, slots := 0, locals := 0 })
def X8_clears_L2   : Nat → Int32 → SS → Option SS :=
  lp (fun _ _ => none) fun rec v1_ σ_ =>
    if (1600 : Int32) ≤ v1_ then (
      some σ_
      ) else (
      grd (inb v1_ 1600) <|
      vthen (sI σ_ 83 (Int32.toNatClampNeg v1_) (0 : Int32)) fun σ2 =>
      rec (v1_ + (1 : Int32)) σ2
      )

def fX8_clears (σ : SS)  : Option SS :=
  X8_clears_L2
  fuel (0 : Int32) σ

set_option maxRecDepth 20000 in
theorem sX8_clears_L2 {g : GG} {r : SS}   
    (n : Nat) : ∀ (v1_ : Int32) (σ_ : SS), X8_clears_L2 n v1_ σ_ = some r → WT σ_ → RR g mX8_clears (FinR g mX8_clears none NF r) zF 2 [(0, .ref (ad g 73)), (1, .int v1_)] [] σ_ := by
  unfold X8_clears_L2
  refine lp_ind (P := fun (rec : Int32 → SS → Option SS) => ∀ (v1_ : Int32) (σ_ : SS), rec v1_ σ_ = some r → WT σ_ → RR g mX8_clears (FinR g mX8_clears none NF r) zF 2 [(0, .ref (ad g 73)), (1, .int v1_)] [] σ_) ?_ ?_ n
  · intro v1_ σ_ hr; cases hr
  intro rec ih v1_ σ_ hr hw_
  refine r_iload_n (pc := 2) (j := 1) dX8_clears_2 rfl rfl ?_
  refine r_sipush (pc := 3) (v := (1600 : Int32)) dX8_clears_3 rfl ?_
  refine r_icmp_ge (pc := 6) (tgt := 22) dX8_clears_6 rfl (fun hc => ?_) (fun hc => ?_)
  · replace hr := ite_t hc hr
    exact l_ov hr (r_vret (pc := 22) rfl rfl ⟨Nat.le_refl _, Nat.le_refl _⟩ dX8_clears_22)
  replace hr := ite_f hc hr
  refine r_aload_n (pc := 9) (j := 0) dX8_clears_9 rfl rfl ?_
  refine gf8_21 (pc := 10) tw_5_115 hw_ dX8_clears_10 ?_
  refine r_iload_n (pc := 13) (j := 1) dX8_clears_13 rfl rfl ?_
  refine r_iconst (pc := 14) (v := (0 : Int32)) dX8_clears_14 rfl ?_
  obtain ⟨h1, hr⟩ := grd_inv hr
  refine x_iast (pc := 15) (j := (Int32.toNatClampNeg v1_)) rfl h1 rfl dX8_clears_15 fun σ2 eσ2 => ?_
  replace hr := vthen_inv hr σ2 eσ2
  have hσ2 := wtI eσ2 hw_
  refine r_iinc (pc := 16) (j := 1) (v := (v1_ + (1 : Int32))) (ls1 := [(1, .int (v1_ + (1 : Int32))), (0, .ref (ad g 73))]) dX8_clears_16 rfl rfl (nle rfl) rfl ?_
  refine r_goto (pc := 19) (tgt := 2) dX8_clears_19 rfl ?_
  exact r_pick (ls1 := [(0, .ref (ad g 73)), (1, .int (v1_ + (1 : Int32)))]) [1, 0] rfl (ih (v1_ + (1 : Int32)) σ2 hr hσ2)

set_option maxRecDepth 20000 in
theorem sX8_clears {g : GG} {σ : SS}  {r : SS} (hr : fX8_clears σ = some r)  : Ct g mX8_clears [.ref (ad g 73)] NF σ none NF r := by
  refine Ct.of (by decide +kernel) (nle rfl) fun hw0 => ?_
  have hw := hw0 rfl
  unfold fX8_clears at hr
  change RR g mX8_clears (FinR g mX8_clears none NF r) zF 0 [(0, .ref (ad g 73))] [] σ
  refine r_iconst (pc := 0) (v := (0 : Int32)) dX8_clears_0 rfl ?_
  refine r_istore_n (pc := 1) (ls1 := [(1, .int (0 : Int32)), (0, .ref (ad g 73))]) dX8_clears_1 rfl (nle rfl) rfl ?_
  refine r_pick (ls1 := [(0, .ref (ad g 73)), (1, .int (0 : Int32))]) [1, 0] rfl ?_
  refine sX8_clears_L2     fuel (0 : Int32) σ hr hw

theorem kX8_clears {g : GG} {σ : SS}  {σ2 : SS} {M : MM} {F : State → Array Value → List Frame → State → Prop} {pc index : Nat} {ls : List (Nat × Value)} {rest : List Value} (hf : fX8_clears σ = some σ2)  (hl : Cond.methodLink M.1.cls index yX8_clears ∈ lw_gt) (hR : mX8_clears.2.2.2.2.frames + 1 ≤ M.2.2.2.2.frames ∧ 8 + (mX8_clears.2.2.1 + 11) + mX8_clears.2.2.2.2.locals ≤ M.2.2.2.2.locals) (hrest : (rest.map fun v => v.category).sum ≤ 8) (hd : decode M.2.1 pc = .ok (.invokevirtual index, 3)) (k : WT σ2 → RR g M F zF (pc + 3) ls rest σ2) : RR g M F zF pc ls (.ref (ad g 73) :: rest) σ :=
  r_callV (N := mX8_clears) (nn := 0) (o1 := none) (sX8_clears hf ) (rfl : shp 73 = (8, 0)) (by decide) (shp_le (rfl : shp 73 = (8, 0)) (nle rfl)) (ci := 8) rfl rfl tw_6_164 tw_1_10 hl tw_6_163 tp_51 ⟨by decide, by decide, rfl⟩ hR rfl hrest hd ⟨Nat.zero_le _, Nat.zero_le _⟩ rfl (fun h => k (h rfl))

theorem dX8_blank_0 : decode cX8_blank 0 = .ok (.iload_n 1, 1) := by decide +kernel
theorem dX8_blank_1 : decode cX8_blank 1 = .ok (.bipush 8, 2) := by decide +kernel
theorem dX8_blank_3 : decode cX8_blank 3 = .ok (.bipush 40, 2) := by decide +kernel
theorem dX8_blank_5 : decode cX8_blank 5 = .ok (.invokestatic 165, 3) := by decide +kernel
theorem dX8_blank_8 : decode cX8_blank 8 = .ok (.ifCond .eq 14, 3) := by decide +kernel
theorem dX8_blank_11 : decode cX8_blank 11 = .ok (.iload_n 2, 1) := by decide +kernel
theorem dX8_blank_12 : decode cX8_blank 12 = .ok (.bipush 8, 2) := by decide +kernel
theorem dX8_blank_14 : decode cX8_blank 14 = .ok (.bipush 40, 2) := by decide +kernel
theorem dX8_blank_16 : decode cX8_blank 16 = .ok (.invokestatic 165, 3) := by decide +kernel
theorem dX8_blank_19 : decode cX8_blank 19 = .ok (.ifCond .ne 5, 3) := by decide +kernel
theorem dX8_blank_22 : decode cX8_blank 22 = .ok (.iconst 0, 1) := by decide +kernel
theorem dX8_blank_23 : decode cX8_blank 23 = .ok (.ireturn, 1) := by decide +kernel
theorem dX8_blank_24 : decode cX8_blank 24 = .ok (.aload_n 0, 1) := by decide +kernel
theorem dX8_blank_25 : decode cX8_blank 25 = .ok (.iload_n 1, 1) := by decide +kernel
theorem dX8_blank_26 : decode cX8_blank 26 = .ok (.putfield 132, 3) := by decide +kernel
theorem dX8_blank_29 : decode cX8_blank 29 = .ok (.aload_n 0, 1) := by decide +kernel
theorem dX8_blank_30 : decode cX8_blank 30 = .ok (.iload_n 2, 1) := by decide +kernel
theorem dX8_blank_31 : decode cX8_blank 31 = .ok (.putfield 136, 3) := by decide +kernel
theorem dX8_blank_34 : decode cX8_blank 34 = .ok (.aload_n 0, 1) := by decide +kernel
theorem dX8_blank_35 : decode cX8_blank 35 = .ok (.invokevirtual 278, 3) := by decide +kernel
theorem dX8_blank_38 : decode cX8_blank 38 = .ok (.iconst 1, 1) := by decide +kernel
theorem dX8_blank_39 : decode cX8_blank 39 = .ok (.ireturn, 1) := by decide +kernel
def mX8_blank : MM := (yX8_blank, cX8_blank, 3, Option.some Jvm.ClassFile.FieldType.boolean, { frames := 1, cells := 0, slots := 0, locals := 22 })
def fX8_blank (σ : SS) (a1 : Int32) (a2 : Int32) : Option (Bool × SS) :=
  if (fX8_in σ a1 (8 : Int32) (40 : Int32)) = true then (
    if (fX8_in σ a2 (8 : Int32) (40 : Int32)) = true then (
      vthen (sI σ 73 29 a1) fun σ1 =>
      vthen (sI σ1 73 30 a2) fun σ2 =>
      bnd1 (fX8_clears σ2) fun σ3 =>
      some (true, σ3)
      ) else (
      some (false, σ)
      )
    ) else (
    some (false, σ)
    )

set_option maxRecDepth 20000 in
theorem sX8_blank {g : GG} {σ : SS} {a1 : Int32} {a2 : Int32} {r : Bool × SS} (hr : fX8_blank σ a1 a2 = some r)  : Ct g mX8_blank [.ref (ad g 73), .int a1, .int a2] NF σ (some (.int (b2i r.1))) NF r.2 := by
  refine Ct.of (by decide +kernel) (nle rfl) fun hw0 => ?_
  have hw := hw0 rfl
  unfold fX8_blank at hr
  change RR g mX8_blank (FinR g mX8_blank (some (.int (b2i r.1))) NF r.2) zF 0 [(0, .ref (ad g 73)), (1, .int a1), (2, .int a2)] [] σ
  refine r_iload_n (pc := 0) (j := 1) dX8_blank_0 rfl rfl ?_
  refine r_bipush (pc := 1) (v := (8 : Int32)) dX8_blank_1 rfl ?_
  refine r_bipush (pc := 3) (v := (40 : Int32)) dX8_blank_3 rfl ?_
  refine kX8_in (pc := 5) (hf := rfl) tw_6_65 ⟨nle rfl, nle rfl⟩ (nle rfl) dX8_blank_5 ?_
  refine r_ifB_eq (pc := 8) (tgt := 22) dX8_blank_8 rfl (fun hc => ?_) (fun hc => ?_)
  · replace hr := ite_f hc hr
    refine r_iconst (pc := 22) (v := (0 : Int32)) dX8_blank_22 rfl ?_
    exact l_osz hr (r_zret (pc := 23) (v := b2i false) (ty := .boolean) rfl (b2i_nar _) rfl ⟨Nat.le_refl _, Nat.le_refl _⟩ dX8_blank_23)
  replace hr := ite_t hc hr
  refine r_iload_n (pc := 11) (j := 2) dX8_blank_11 rfl rfl ?_
  refine r_bipush (pc := 12) (v := (8 : Int32)) dX8_blank_12 rfl ?_
  refine r_bipush (pc := 14) (v := (40 : Int32)) dX8_blank_14 rfl ?_
  refine kX8_in (pc := 16) (hf := rfl) tw_6_65 ⟨nle rfl, nle rfl⟩ (nle rfl) dX8_blank_16 ?_
  refine r_ifB_ne (pc := 19) (tgt := 24) dX8_blank_19 rfl (fun hc => ?_) (fun hc => ?_)
  · replace hr := ite_t hc hr
    refine r_aload_n (pc := 24) (j := 0) dX8_blank_24 rfl rfl ?_
    refine r_iload_n (pc := 25) (j := 1) dX8_blank_25 rfl rfl ?_
    refine pf8_29 (pc := 26) tw_5_123 rfl dX8_blank_26 fun σ1 eσ1 => ?_
    replace hr := vthen_inv hr σ1 eσ1
    have hσ1 := wtI eσ1 hw
    refine r_aload_n (pc := 29) (j := 0) dX8_blank_29 rfl rfl ?_
    refine r_iload_n (pc := 30) (j := 2) dX8_blank_30 rfl rfl ?_
    refine pf8_30 (pc := 31) tw_5_124 rfl dX8_blank_31 fun σ2 eσ2 => ?_
    replace hr := vthen_inv hr σ2 eσ2
    have hσ2 := wtI eσ2 hσ1
    refine r_aload_n (pc := 34) (j := 0) dX8_blank_34 rfl rfl ?_
    obtain ⟨σ3, eσ3, hr⟩ := bnd1_inv hr
    refine kX8_clears (pc := 35) eσ3 tw_6_161 ⟨nle rfl, nle rfl⟩ (nle rfl) dX8_blank_35 fun hσ3 => ?_
    refine r_iconst (pc := 38) (v := (1 : Int32)) dX8_blank_38 rfl ?_
    exact l_osz hr (r_zret (pc := 39) (v := b2i true) (ty := .boolean) rfl (b2i_nar _) rfl ⟨Nat.le_refl _, Nat.le_refl _⟩ dX8_blank_39)
  replace hr := ite_f hc hr
  refine r_iconst (pc := 22) (v := (0 : Int32)) dX8_blank_22 rfl ?_
  exact l_osz hr (r_zret (pc := 23) (v := b2i false) (ty := .boolean) rfl (b2i_nar _) rfl ⟨Nat.le_refl _, Nat.le_refl _⟩ dX8_blank_23)

theorem kX8_blank {g : GG} {σ : SS} {a1 : Int32} {a2 : Int32} {v : Bool} {σ2 : SS} {M : MM} {F : State → Array Value → List Frame → State → Prop} {pc index : Nat} {ls : List (Nat × Value)} {rest : List Value} (hf : fX8_blank σ a1 a2 = some (v, σ2))  (hl : Cond.methodLink M.1.cls index yX8_blank ∈ lw_gt) (hR : mX8_blank.2.2.2.2.frames + 1 ≤ M.2.2.2.2.frames ∧ 8 + (mX8_blank.2.2.1 + 11) + mX8_blank.2.2.2.2.locals ≤ M.2.2.2.2.locals) (hrest : (rest.map fun v => v.category).sum ≤ 8) (hd : decode M.2.1 pc = .ok (.invokevirtual index, 3)) (k : WT σ2 → RR g M F zF (pc + 3) ls (.int (b2i v) :: rest) σ2) : RR g M F zF pc ls (.int a2 :: .int a1 :: .ref (ad g 73) :: rest) σ :=
  r_callV (N := mX8_blank) (nn := 2) (o1 := some (.int (b2i v))) (sX8_blank hf ) (rfl : shp 73 = (8, 0)) (by decide) (shp_le (rfl : shp 73 = (8, 0)) (nle rfl)) (ci := 8) rfl rfl tw_6_160 tw_1_10 hl tw_6_158 tw_6_159 ⟨by decide, by decide, rfl⟩ hR rfl hrest hd ⟨Nat.zero_le _, Nat.zero_le _⟩ rfl (fun h => k (h rfl))

theorem dX6_has_0 : decode cX6_has 0 = .ok (.iload_n 1, 1) := by decide +kernel
theorem dX6_has_1 : decode cX6_has 1 = .ok (.ifCond .lt 27, 3) := by decide +kernel
theorem dX6_has_4 : decode cX6_has 4 = .ok (.iload_n 1, 1) := by decide +kernel
theorem dX6_has_5 : decode cX6_has 5 = .ok (.aload_n 0, 1) := by decide +kernel
theorem dX6_has_6 : decode cX6_has 6 = .ok (.getfield 18, 3) := by decide +kernel
theorem dX6_has_9 : decode cX6_has 9 = .ok (.if_icmp .ge 19, 3) := by decide +kernel
theorem dX6_has_12 : decode cX6_has 12 = .ok (.iload_n 2, 1) := by decide +kernel
theorem dX6_has_13 : decode cX6_has 13 = .ok (.ifCond .lt 15, 3) := by decide +kernel
theorem dX6_has_16 : decode cX6_has 16 = .ok (.iload_n 2, 1) := by decide +kernel
theorem dX6_has_17 : decode cX6_has 17 = .ok (.aload_n 0, 1) := by decide +kernel
theorem dX6_has_18 : decode cX6_has 18 = .ok (.getfield 22, 3) := by decide +kernel
theorem dX6_has_21 : decode cX6_has 21 = .ok (.if_icmp .ge 7, 3) := by decide +kernel
theorem dX6_has_24 : decode cX6_has 24 = .ok (.iconst 1, 1) := by decide +kernel
theorem dX6_has_25 : decode cX6_has 25 = .ok (.goto 4, 3) := by decide +kernel
theorem dX6_has_28 : decode cX6_has 28 = .ok (.iconst 0, 1) := by decide +kernel
theorem dX6_has_29 : decode cX6_has 29 = .ok (.ireturn, 1) := by decide +kernel
def mX6_has : MM := (yX6_has, cX6_has, 3, Option.some Jvm.ClassFile.FieldType.boolean, { frames := 0, cells := 0, slots := 0, locals := 0 })
def fX6_has (σ0 : SS) (a0 : Nat) (a1 : Int32) (a2 : Int32) : Bool :=
  vthen (fun (_u : Unit) =>
    false
    ) fun j28 =>
  if a1 < 0 then (
    j28 ()
    ) else (
    if (gI σ0 a0 0) ≤ a1 then (
      j28 ()
      ) else (
      if a2 < 0 then (
        j28 ()
        ) else (
        if (gI σ0 a0 1) ≤ a2 then (
          j28 ()
          ) else (
          true
          )
        )
      )
    )

set_option maxRecDepth 20000 in
theorem sX6_has {g : GG} {σ0 : SS} {a0 : Nat} {a1 : Int32} {a2 : Int32} {r : Bool} (hr : fX6_has σ0 a0 a1 a2 = r) (hs0 : shp a0 = (6, 0)) : Ct g mX6_has [.ref (ad g a0), .int a1, .int a2] NF σ0 (some (.int (b2i r))) NF σ0 := by
  refine Ct.of (by decide +kernel) (nle rfl) fun hw0 => ?_
  have hw := hw0 rfl
  unfold fX6_has at hr
  change RR g mX6_has (FinR g mX6_has (some (.int (b2i r))) NF σ0) zF 0 [(0, .ref (ad g a0)), (1, .int a1), (2, .int a2)] [] σ0
  refine r_iload_n (pc := 0) (j := 1) dX6_has_0 rfl rfl ?_
  obtain ⟨j28, ej28, hr⟩ := vth_ex hr
  have hj28 : j28 () = r → RR g mX6_has (FinR g mX6_has (some (.int (b2i r))) NF σ0) zF 28 [] [] σ0 := by
    intro  hr
    replace hr := (congrFun ej28 ()).symm.trans hr
    refine r_iconst (pc := 28) (v := (0 : Int32)) dX6_has_28 rfl ?_
    exact l_pz hr (r_zret (pc := 29) (v := b2i false) (ty := .boolean) rfl (b2i_nar _) rfl ⟨Nat.le_refl _, Nat.le_refl _⟩ dX6_has_29)
  refine r_if_lt (pc := 1) (tgt := 28) dX6_has_1 rfl (fun hc => ?_) (fun hc => ?_)
  · replace hr := ite_t hc hr
    exact r_pick (ls1 := []) [] rfl (hj28  hr)
  replace hr := ite_f hc hr
  refine r_iload_n (pc := 4) (j := 1) dX6_has_4 rfl rfl ?_
  refine r_aload_n (pc := 5) (j := 0) dX6_has_5 rfl rfl ?_
  refine gf6_0 (pc := 6) tw_1_32 hs0 dX6_has_6 ?_
  refine r_icmp_ge (pc := 9) (tgt := 28) dX6_has_9 rfl (fun hc => ?_) (fun hc => ?_)
  · replace hr := ite_t hc hr
    exact r_pick (ls1 := []) [] rfl (hj28  hr)
  replace hr := ite_f hc hr
  refine r_iload_n (pc := 12) (j := 2) dX6_has_12 rfl rfl ?_
  refine r_if_lt (pc := 13) (tgt := 28) dX6_has_13 rfl (fun hc => ?_) (fun hc => ?_)
  · replace hr := ite_t hc hr
    exact r_pick (ls1 := []) [] rfl (hj28  hr)
  replace hr := ite_f hc hr
  refine r_iload_n (pc := 16) (j := 2) dX6_has_16 rfl rfl ?_
  refine r_aload_n (pc := 17) (j := 0) dX6_has_17 rfl rfl ?_
  refine gf6_1 (pc := 18) tw_1_37 hs0 dX6_has_18 ?_
  refine r_icmp_ge (pc := 21) (tgt := 28) dX6_has_21 rfl (fun hc => ?_) (fun hc => ?_)
  · replace hr := ite_t hc hr
    exact r_pick (ls1 := []) [] rfl (hj28  hr)
  replace hr := ite_f hc hr
  refine r_iconst (pc := 24) (v := (1 : Int32)) dX6_has_24 rfl ?_
  refine r_goto (pc := 25) (tgt := 29) dX6_has_25 rfl ?_
  exact l_pz hr (r_zret (pc := 29) (v := b2i true) (ty := .boolean) rfl (b2i_nar _) rfl ⟨Nat.le_refl _, Nat.le_refl _⟩ dX6_has_29)

theorem kX6_has {g : GG} {σ0 : SS} {a0 : Nat} {a1 : Int32} {a2 : Int32} {v : Bool} {M : MM} {F : State → Array Value → List Frame → State → Prop} {pc index : Nat} {ls : List (Nat × Value)} {rest : List Value} (hf : fX6_has σ0 a0 a1 a2 = v) (hs0 : shp a0 = (6, 0)) (hl : Cond.methodLink M.1.cls index yX6_has ∈ lw_gt) (hR : mX6_has.2.2.2.2.frames + 1 ≤ M.2.2.2.2.frames ∧ 8 + (mX6_has.2.2.1 + 11) + mX6_has.2.2.2.2.locals ≤ M.2.2.2.2.locals) (hrest : (rest.map fun v => v.category).sum ≤ 8) (hd : decode M.2.1 pc = .ok (.invokevirtual index, 3)) (k : RR g M F zF (pc + 3) ls (.int (b2i v) :: rest) σ0) : RR g M F zF pc ls (.int a2 :: .int a1 :: .ref (ad g a0) :: rest) σ0 :=
  r_callV (N := mX6_has) (nn := 2) (o1 := some (.int (b2i v))) (sX6_has hf hs0) hs0 (by decide) (shp_le hs0 (nle rfl)) (ci := 6) rfl rfl tw_3_119 tw_1_2 hl tw_3_117 tw_3_118 ⟨by decide, by decide, rfl⟩ hR rfl hrest hd ⟨Nat.zero_le _, Nat.zero_le _⟩ rfl (fun h => k)

theorem dX6_put_0 : decode cX6_put 0 = .ok (.aload_n 0, 1) := by decide +kernel
theorem dX6_put_1 : decode cX6_put 1 = .ok (.iload_n 1, 1) := by decide +kernel
theorem dX6_put_2 : decode cX6_put 2 = .ok (.iload_n 2, 1) := by decide +kernel
theorem dX6_put_3 : decode cX6_put 3 = .ok (.invokevirtual 31, 3) := by decide +kernel
theorem dX6_put_6 : decode cX6_put 6 = .ok (.ifCond .ne 5, 3) := by decide +kernel
theorem dX6_put_9 : decode cX6_put 9 = .ok (.iconst 0, 1) := by decide +kernel
theorem dX6_put_10 : decode cX6_put 10 = .ok (.ireturn, 1) := by decide +kernel
theorem dX6_put_11 : decode cX6_put 11 = .ok (.iload_n 2, 1) := by decide +kernel
theorem dX6_put_12 : decode cX6_put 12 = .ok (.aload_n 0, 1) := by decide +kernel
theorem dX6_put_13 : decode cX6_put 13 = .ok (.getfield 18, 3) := by decide +kernel
theorem dX6_put_16 : decode cX6_put 16 = .ok (.imul, 1) := by decide +kernel
theorem dX6_put_17 : decode cX6_put 17 = .ok (.iload_n 1, 1) := by decide +kernel
theorem dX6_put_18 : decode cX6_put 18 = .ok (.iadd, 1) := by decide +kernel
theorem dX6_put_19 : decode cX6_put 19 = .ok (.istore 4, 2) := by decide +kernel
theorem dX6_put_21 : decode cX6_put 21 = .ok (.aload_n 0, 1) := by decide +kernel
theorem dX6_put_22 : decode cX6_put 22 = .ok (.getfield 9, 3) := by decide +kernel
theorem dX6_put_25 : decode cX6_put 25 = .ok (.iload 4, 2) := by decide +kernel
theorem dX6_put_27 : decode cX6_put 27 = .ok (.iaload, 1) := by decide +kernel
theorem dX6_put_28 : decode cX6_put 28 = .ok (.iload_n 3, 1) := by decide +kernel
theorem dX6_put_29 : decode cX6_put 29 = .ok (.if_icmp .eq 7, 3) := by decide +kernel
theorem dX6_put_32 : decode cX6_put 32 = .ok (.iconst 1, 1) := by decide +kernel
theorem dX6_put_33 : decode cX6_put 33 = .ok (.goto 4, 3) := by decide +kernel
theorem dX6_put_36 : decode cX6_put 36 = .ok (.iconst 0, 1) := by decide +kernel
theorem dX6_put_37 : decode cX6_put 37 = .ok (.istore 5, 2) := by decide +kernel
theorem dX6_put_39 : decode cX6_put 39 = .ok (.aload_n 0, 1) := by decide +kernel
theorem dX6_put_40 : decode cX6_put 40 = .ok (.getfield 9, 3) := by decide +kernel
theorem dX6_put_43 : decode cX6_put 43 = .ok (.iload 4, 2) := by decide +kernel
theorem dX6_put_45 : decode cX6_put 45 = .ok (.iload_n 3, 1) := by decide +kernel
theorem dX6_put_46 : decode cX6_put 46 = .ok (.iastore, 1) := by decide +kernel
theorem dX6_put_47 : decode cX6_put 47 = .ok (.iload 5, 2) := by decide +kernel
theorem dX6_put_49 : decode cX6_put 49 = .ok (.ireturn, 1) := by decide +kernel
def mX6_put : MM := (yX6_put, cX6_put, 6, Option.some Jvm.ClassFile.FieldType.boolean, { frames := 1, cells := 0, slots := 0, locals := 22 })
def fX6_put (σ : SS) (a0 : Nat) (a1 : Int32) (a2 : Int32) (a3 : Int32) : Option (Bool × SS) :=
  if (fX6_has σ a0 a1 a2) = true then (
    vthen ((a2 * (gI σ a0 0)) + a1) fun v1 =>
    grd (inb v1 1600) <|
    vthen (fun (s3 : Int32) =>
      vthen (sI σ (a0 + 1) (Int32.toNatClampNeg v1) a3) fun σ4 =>
      grd (isb s3) <|
      some ((i2b s3), σ4)
      ) fun j37 =>
    if (gI σ (a0 + 1) (Int32.toNatClampNeg v1)) = a3 then (
      j37 (0 : Int32)
      ) else (
      j37 (1 : Int32)
      )
    ) else (
    some (false, σ)
    )

set_option maxRecDepth 20000 in
theorem sX6_put {g : GG} {σ : SS} {a0 : Nat} {a1 : Int32} {a2 : Int32} {a3 : Int32} {r : Bool × SS} (hr : fX6_put σ a0 a1 a2 a3 = some r) (hs0 : shp a0 = (6, 0)) : Ct g mX6_put [.ref (ad g a0), .int a1, .int a2, .int a3] NF σ (some (.int (b2i r.1))) NF r.2 := by
  refine Ct.of (by decide +kernel) (nle rfl) fun hw0 => ?_
  have hw := hw0 rfl
  unfold fX6_put at hr
  change RR g mX6_put (FinR g mX6_put (some (.int (b2i r.1))) NF r.2) zF 0 [(0, .ref (ad g a0)), (1, .int a1), (2, .int a2), (3, .int a3)] [] σ
  refine r_aload_n (pc := 0) (j := 0) dX6_put_0 rfl rfl ?_
  refine r_iload_n (pc := 1) (j := 1) dX6_put_1 rfl rfl ?_
  refine r_iload_n (pc := 2) (j := 2) dX6_put_2 rfl rfl ?_
  refine kX6_has (pc := 3) (hf := rfl) hs0 tw_3_116 ⟨nle rfl, nle rfl⟩ (nle rfl) dX6_put_3 ?_
  refine r_ifB_ne (pc := 6) (tgt := 11) dX6_put_6 rfl (fun hc => ?_) (fun hc => ?_)
  · replace hr := ite_t hc hr
    refine r_iload_n (pc := 11) (j := 2) dX6_put_11 rfl rfl ?_
    refine r_aload_n (pc := 12) (j := 0) dX6_put_12 rfl rfl ?_
    refine gf6_0 (pc := 13) tw_1_32 hs0 dX6_put_13 ?_
    refine r_imul (pc := 16) dX6_put_16 ?_
    refine r_iload_n (pc := 17) (j := 1) dX6_put_17 rfl rfl ?_
    refine r_iadd (pc := 18) dX6_put_18 ?_
    refine r_topi fun v1 ev1 => ?_
    replace hr := vthen_inv hr v1 ev1
    refine r_istore (pc := 19) (ls1 := [(4, .int v1), (0, .ref (ad g a0)), (1, .int a1), (2, .int a2), (3, .int a3)]) dX6_put_19 (nle rfl) rfl ?_
    refine r_aload_n (pc := 21) (j := 1) dX6_put_21 rfl rfl ?_
    refine gf6_2 (pc := 22) tw_1_39 hw hs0 dX6_put_22 ?_
    refine r_iload (pc := 25) (j := 0) dX6_put_25 rfl ?_
    obtain ⟨h2, hr⟩ := grd_inv hr
    refine x_iald (pc := 27) (k := (Int32.toNatClampNeg v1)) (sh6_2 hs0) h2 rfl dX6_put_27 ?_
    refine r_iload_n (pc := 28) (j := 4) dX6_put_28 rfl rfl ?_
    obtain ⟨j37, ej37, hr⟩ := vth_ex hr
    have hj37 : ∀ (s3 : Int32), j37 s3 = some r → RR g mX6_put (FinR g mX6_put (some (.int (b2i r.1))) NF r.2) zF 37 [(0, .ref (ad g a0)), (3, .int a3), (4, .int v1)] [.int s3] σ := by
      intro s3 hr
      replace hr := (congrFun ej37 s3).symm.trans hr
      refine r_istore (pc := 37) (ls1 := [(5, .int s3), (0, .ref (ad g a0)), (3, .int a3), (4, .int v1)]) dX6_put_37 (nle rfl) rfl ?_
      refine r_aload_n (pc := 39) (j := 1) dX6_put_39 rfl rfl ?_
      refine gf6_2 (pc := 40) tw_1_39 hw hs0 dX6_put_40 ?_
      refine r_iload (pc := 43) (j := 3) dX6_put_43 rfl ?_
      refine r_iload_n (pc := 45) (j := 2) dX6_put_45 rfl rfl ?_
      refine x_iast (pc := 46) (j := (Int32.toNatClampNeg v1)) (sh6_2 hs0) h2 rfl dX6_put_46 fun σ4 eσ4 => ?_
      replace hr := vthen_inv hr σ4 eσ4
      have hσ4 := wtI eσ4 hw
      refine r_iload (pc := 47) (j := 0) dX6_put_47 rfl ?_
      obtain ⟨h5, hr⟩ := grd_inv hr
      refine r_toz h5 ?_
      exact l_osz hr (r_zret (pc := 49) (v := b2i (i2b s3)) (ty := .boolean) rfl (b2i_nar _) rfl ⟨Nat.le_refl _, Nat.le_refl _⟩ dX6_put_49)
    refine r_icmp_eq (pc := 29) (tgt := 36) dX6_put_29 rfl (fun hc => ?_) (fun hc => ?_)
    · replace hr := ite_t hc hr
      refine r_iconst (pc := 36) (v := (0 : Int32)) dX6_put_36 rfl ?_
      exact r_pick (ls1 := [(0, .ref (ad g a0)), (3, .int a3), (4, .int v1)]) [1, 4, 0] rfl (hj37 (0 : Int32) hr)
    replace hr := ite_f hc hr
    refine r_iconst (pc := 32) (v := (1 : Int32)) dX6_put_32 rfl ?_
    refine r_goto (pc := 33) (tgt := 37) dX6_put_33 rfl ?_
    exact r_pick (ls1 := [(0, .ref (ad g a0)), (3, .int a3), (4, .int v1)]) [1, 4, 0] rfl (hj37 (1 : Int32) hr)
  replace hr := ite_f hc hr
  refine r_iconst (pc := 9) (v := (0 : Int32)) dX6_put_9 rfl ?_
  exact l_osz hr (r_zret (pc := 10) (v := b2i false) (ty := .boolean) rfl (b2i_nar _) rfl ⟨Nat.le_refl _, Nat.le_refl _⟩ dX6_put_10)

theorem kX6_put {g : GG} {σ : SS} {a0 : Nat} {a1 : Int32} {a2 : Int32} {a3 : Int32} {v : Bool} {σ2 : SS} {M : MM} {F : State → Array Value → List Frame → State → Prop} {pc index : Nat} {ls : List (Nat × Value)} {rest : List Value} (hf : fX6_put σ a0 a1 a2 a3 = some (v, σ2)) (hs0 : shp a0 = (6, 0)) (hl : Cond.methodLink M.1.cls index yX6_put ∈ lw_gt) (hR : mX6_put.2.2.2.2.frames + 1 ≤ M.2.2.2.2.frames ∧ 8 + (mX6_put.2.2.1 + 11) + mX6_put.2.2.2.2.locals ≤ M.2.2.2.2.locals) (hrest : (rest.map fun v => v.category).sum ≤ 8) (hd : decode M.2.1 pc = .ok (.invokevirtual index, 3)) (k : WT σ2 → RR g M F zF (pc + 3) ls (.int (b2i v) :: rest) σ2) : RR g M F zF pc ls (.int a3 :: .int a2 :: .int a1 :: .ref (ad g a0) :: rest) σ :=
  r_callV (N := mX6_put) (nn := 3) (o1 := some (.int (b2i v))) (sX6_put hf hs0) hs0 (by decide) (shp_le hs0 (nle rfl)) (ci := 6) rfl rfl tw_3_115 tw_1_2 hl tw_3_113 tw_3_114 ⟨by decide, by decide, rfl⟩ hR rfl hrest hd ⟨Nat.zero_le _, Nat.zero_le _⟩ rfl (fun h => k (h rfl))

theorem dX7_row_0 : decode cX7_row 0 = .ok (.aload_n 0, 1) := by decide +kernel
theorem dX7_row_1 : decode cX7_row 1 = .ok (.getfield 18, 3) := by decide +kernel
theorem dX7_row_4 : decode cX7_row 4 = .ok (.getfield 100, 3) := by decide +kernel
theorem dX7_row_7 : decode cX7_row 7 = .ok (.istore_n 2, 1) := by decide +kernel
theorem dX7_row_8 : decode cX7_row 8 = .ok (.iload_n 1, 1) := by decide +kernel
theorem dX7_row_9 : decode cX7_row 9 = .ok (.ifCond .lt 22, 3) := by decide +kernel
theorem dX7_row_12 : decode cX7_row 12 = .ok (.iload_n 1, 1) := by decide +kernel
theorem dX7_row_13 : decode cX7_row 13 = .ok (.aload_n 0, 1) := by decide +kernel
theorem dX7_row_14 : decode cX7_row 14 = .ok (.getfield 18, 3) := by decide +kernel
theorem dX7_row_17 : decode cX7_row 17 = .ok (.getfield 103, 3) := by decide +kernel
theorem dX7_row_20 : decode cX7_row 20 = .ok (.if_icmp .ge 11, 3) := by decide +kernel
theorem dX7_row_23 : decode cX7_row 23 = .ok (.aload_n 0, 1) := by decide +kernel
theorem dX7_row_24 : decode cX7_row 24 = .ok (.getfield 77, 3) := by decide +kernel
theorem dX7_row_27 : decode cX7_row 27 = .ok (.iload_n 2, 1) := by decide +kernel
theorem dX7_row_28 : decode cX7_row 28 = .ok (.if_icmp .ge 5, 3) := by decide +kernel
theorem dX7_row_31 : decode cX7_row 31 = .ok (.iconst 0, 1) := by decide +kernel
theorem dX7_row_32 : decode cX7_row 32 = .ok (.ireturn, 1) := by decide +kernel
theorem dX7_row_33 : decode cX7_row 33 = .ok (.aload_n 0, 1) := by decide +kernel
theorem dX7_row_34 : decode cX7_row 34 = .ok (.iconst 0, 1) := by decide +kernel
theorem dX7_row_35 : decode cX7_row 35 = .ok (.putfield 77, 3) := by decide +kernel
theorem dX7_row_38 : decode cX7_row 38 = .ok (.iconst 0, 1) := by decide +kernel
theorem dX7_row_39 : decode cX7_row 39 = .ok (.istore_n 3, 1) := by decide +kernel
theorem dX7_row_40 : decode cX7_row 40 = .ok (.iload_n 3, 1) := by decide +kernel
theorem dX7_row_41 : decode cX7_row 41 = .ok (.iload_n 2, 1) := by decide +kernel
theorem dX7_row_42 : decode cX7_row 42 = .ok (.if_icmp .ge 33, 3) := by decide +kernel
theorem dX7_row_45 : decode cX7_row 45 = .ok (.aload_n 0, 1) := by decide +kernel
theorem dX7_row_46 : decode cX7_row 46 = .ok (.getfield 11, 3) := by decide +kernel
theorem dX7_row_49 : decode cX7_row 49 = .ok (.iload_n 3, 1) := by decide +kernel
theorem dX7_row_50 : decode cX7_row 50 = .ok (.iaload, 1) := by decide +kernel
theorem dX7_row_51 : decode cX7_row 51 = .ok (.bipush 48, 2) := by decide +kernel
theorem dX7_row_53 : decode cX7_row 53 = .ok (.if_icmp .lt 14, 3) := by decide +kernel
theorem dX7_row_56 : decode cX7_row 56 = .ok (.aload_n 0, 1) := by decide +kernel
theorem dX7_row_57 : decode cX7_row 57 = .ok (.getfield 11, 3) := by decide +kernel
theorem dX7_row_60 : decode cX7_row 60 = .ok (.iload_n 3, 1) := by decide +kernel
theorem dX7_row_61 : decode cX7_row 61 = .ok (.iaload, 1) := by decide +kernel
theorem dX7_row_62 : decode cX7_row 62 = .ok (.bipush 57, 2) := by decide +kernel
theorem dX7_row_64 : decode cX7_row 64 = .ok (.if_icmp .le 5, 3) := by decide +kernel
theorem dX7_row_67 : decode cX7_row 67 = .ok (.iconst 0, 1) := by decide +kernel
theorem dX7_row_68 : decode cX7_row 68 = .ok (.ireturn, 1) := by decide +kernel
theorem dX7_row_69 : decode cX7_row 69 = .ok (.iinc 3 1, 3) := by decide +kernel
theorem dX7_row_72 : decode cX7_row 72 = .ok (.goto (-32), 3) := by decide +kernel
theorem dX7_row_75 : decode cX7_row 75 = .ok (.iconst 0, 1) := by decide +kernel
theorem dX7_row_76 : decode cX7_row 76 = .ok (.istore_n 3, 1) := by decide +kernel
theorem dX7_row_77 : decode cX7_row 77 = .ok (.iload_n 3, 1) := by decide +kernel
theorem dX7_row_78 : decode cX7_row 78 = .ok (.iload_n 2, 1) := by decide +kernel
theorem dX7_row_79 : decode cX7_row 79 = .ok (.if_icmp .ge 28, 3) := by decide +kernel
theorem dX7_row_82 : decode cX7_row 82 = .ok (.aload_n 0, 1) := by decide +kernel
theorem dX7_row_83 : decode cX7_row 83 = .ok (.getfield 18, 3) := by decide +kernel
theorem dX7_row_86 : decode cX7_row 86 = .ok (.iload_n 3, 1) := by decide +kernel
theorem dX7_row_87 : decode cX7_row 87 = .ok (.iload_n 1, 1) := by decide +kernel
theorem dX7_row_88 : decode cX7_row 88 = .ok (.aload_n 0, 1) := by decide +kernel
theorem dX7_row_89 : decode cX7_row 89 = .ok (.getfield 11, 3) := by decide +kernel
theorem dX7_row_92 : decode cX7_row 92 = .ok (.iload_n 3, 1) := by decide +kernel
theorem dX7_row_93 : decode cX7_row 93 = .ok (.iaload, 1) := by decide +kernel
theorem dX7_row_94 : decode cX7_row 94 = .ok (.bipush 48, 2) := by decide +kernel
theorem dX7_row_96 : decode cX7_row 96 = .ok (.isub, 1) := by decide +kernel
theorem dX7_row_97 : decode cX7_row 97 = .ok (.invokevirtual 157, 3) := by decide +kernel
theorem dX7_row_100 : decode cX7_row 100 = .ok (.pop, 1) := by decide +kernel
theorem dX7_row_101 : decode cX7_row 101 = .ok (.iinc 3 1, 3) := by decide +kernel
theorem dX7_row_104 : decode cX7_row 104 = .ok (.goto (-27), 3) := by decide +kernel
theorem dX7_row_107 : decode cX7_row 107 = .ok (.iconst 1, 1) := by decide +kernel
theorem dX7_row_108 : decode cX7_row 108 = .ok (.ireturn, 1) := by decide +kernel
def mX7_row : MM := (yX7_row, cX7_row, 4, Option.some Jvm.ClassFile.FieldType.boolean, { frames := 2, cells := 0, slots := 0, locals := 47 })
def X7_row_L40 (σ_ : SS) (u2_ : Int32) (k75 : Unit → Option (Bool × SS)) : Nat → Int32 → Option (Bool × SS) :=
  lp (fun _ => none) fun rec v3_ =>
    if u2_ ≤ v3_ then (
      k75 ()
      ) else (
      grd (inb v3_ 480) <|
      if (gI σ_ 2 (Int32.toNatClampNeg v3_)) < (48 : Int32) then (
        some (false, σ_)
        ) else (
        if (gI σ_ 2 (Int32.toNatClampNeg v3_)) ≤ (57 : Int32) then (
          rec (v3_ + (1 : Int32))
          ) else (
          some (false, σ_)
          )
        )
      )

def X7_row_L77 (u1_ : Int32) (u2_ : Int32)  : Nat → Int32 → SS → Option (Bool × SS) :=
  lp (fun _ _ => none) fun rec v3_ σ_ =>
    if u2_ ≤ v3_ then (
      some (true, σ_)
      ) else (
      grd (inb v3_ 480) <|
      bnd (fX6_put σ_ (gR σ_ 1 2) v3_ u1_ ((gI σ_ 2 (Int32.toNatClampNeg v3_)) - (48 : Int32))) fun b6 σ8 =>
      rec (v3_ + (1 : Int32)) σ8
      )

def fX7_row (σ : SS) (a1 : Int32) : Option (Bool × SS) :=
  vthen (gI σ (gR σ 1 2) 0) fun v1 =>
  if a1 < 0 then (
    some (false, σ)
    ) else (
    if (gI σ (gR σ 1 2) 1) ≤ a1 then (
      some (false, σ)
      ) else (
      if v1 ≤ (gI σ 1 1) then (
        vthen (sI σ 1 1 (0 : Int32)) fun σ2 =>
        X7_row_L40 σ2 v1
        (fun _ =>
          X7_row_L77 a1 v1
          fuel (0 : Int32) σ2
          )
        fuel (0 : Int32)
        ) else (
        some (false, σ)
        )
      )
    )

set_option maxRecDepth 20000 in
theorem sX7_row_L40 {g : GG} {r : Bool × SS} {σ_ : SS} {x1_ : Int32} {u2_ : Int32} {k75 : Unit → Option (Bool × SS)} 
    (hw_ : WT σ_)
    (hk75 : k75 () = some r → RR g mX7_row (FinR g mX7_row (some (.int (b2i r.1))) NF r.2) zF 75 [(0, .ref (ad g 1)), (1, .int x1_), (2, .int u2_)] [] σ_)
    (n : Nat) : ∀ (v3_ : Int32), X7_row_L40 σ_ u2_ k75 n v3_ = some r → RR g mX7_row (FinR g mX7_row (some (.int (b2i r.1))) NF r.2) zF 40 [(0, .ref (ad g 1)), (1, .int x1_), (2, .int u2_), (3, .int v3_)] [] σ_ := by
  unfold X7_row_L40
  refine lp_ind (P := fun (rec : Int32 → Option (Bool × SS)) => ∀ (v3_ : Int32), rec v3_ = some r → RR g mX7_row (FinR g mX7_row (some (.int (b2i r.1))) NF r.2) zF 40 [(0, .ref (ad g 1)), (1, .int x1_), (2, .int u2_), (3, .int v3_)] [] σ_) ?_ ?_ n
  · intro v3_ hr; cases hr
  intro rec ih v3_ hr
  refine r_iload_n (pc := 40) (j := 3) dX7_row_40 rfl rfl ?_
  refine r_iload_n (pc := 41) (j := 2) dX7_row_41 rfl rfl ?_
  refine r_icmp_ge (pc := 42) (tgt := 75) dX7_row_42 rfl (fun hc => ?_) (fun hc => ?_)
  · replace hr := ite_t hc hr
    exact r_pick (ls1 := [(0, .ref (ad g 1)), (1, .int x1_), (2, .int u2_)]) [0, 1, 2] rfl (hk75  hr)
  replace hr := ite_f hc hr
  refine r_aload_n (pc := 45) (j := 0) dX7_row_45 rfl rfl ?_
  refine gf7_0 (pc := 46) tw_2_109 hw_ dX7_row_46 ?_
  refine r_iload_n (pc := 49) (j := 3) dX7_row_49 rfl rfl ?_
  obtain ⟨h3, hr⟩ := grd_inv hr
  refine x_iald (pc := 50) (k := (Int32.toNatClampNeg v3_)) rfl h3 rfl dX7_row_50 ?_
  refine r_bipush (pc := 51) (v := (48 : Int32)) dX7_row_51 rfl ?_
  refine r_icmp_lt (pc := 53) (tgt := 67) dX7_row_53 rfl (fun hc => ?_) (fun hc => ?_)
  · replace hr := ite_t hc hr
    refine r_iconst (pc := 67) (v := (0 : Int32)) dX7_row_67 rfl ?_
    exact l_osz hr (r_zret (pc := 68) (v := b2i false) (ty := .boolean) rfl (b2i_nar _) rfl ⟨Nat.le_refl _, Nat.le_refl _⟩ dX7_row_68)
  replace hr := ite_f hc hr
  refine r_aload_n (pc := 56) (j := 0) dX7_row_56 rfl rfl ?_
  refine gf7_0 (pc := 57) tw_2_109 hw_ dX7_row_57 ?_
  refine r_iload_n (pc := 60) (j := 3) dX7_row_60 rfl rfl ?_
  refine x_iald (pc := 61) (k := (Int32.toNatClampNeg v3_)) rfl h3 rfl dX7_row_61 ?_
  refine r_bipush (pc := 62) (v := (57 : Int32)) dX7_row_62 rfl ?_
  refine r_icmp_le (pc := 64) (tgt := 69) dX7_row_64 rfl (fun hc => ?_) (fun hc => ?_)
  · replace hr := ite_t hc hr
    refine r_iinc (pc := 69) (j := 3) (v := (v3_ + (1 : Int32))) (ls1 := [(3, .int (v3_ + (1 : Int32))), (0, .ref (ad g 1)), (1, .int x1_), (2, .int u2_)]) dX7_row_69 rfl rfl (nle rfl) rfl ?_
    refine r_goto (pc := 72) (tgt := 40) dX7_row_72 rfl ?_
    exact r_pick (ls1 := [(0, .ref (ad g 1)), (1, .int x1_), (2, .int u2_), (3, .int (v3_ + (1 : Int32)))]) [1, 2, 3, 0] rfl (ih (v3_ + (1 : Int32)) hr)
  replace hr := ite_f hc hr
  refine r_iconst (pc := 67) (v := (0 : Int32)) dX7_row_67 rfl ?_
  exact l_osz hr (r_zret (pc := 68) (v := b2i false) (ty := .boolean) rfl (b2i_nar _) rfl ⟨Nat.le_refl _, Nat.le_refl _⟩ dX7_row_68)

set_option maxRecDepth 20000 in
theorem sX7_row_L77 {g : GG} {r : Bool × SS} {u1_ : Int32} {u2_ : Int32}  
    (n : Nat) : ∀ (v3_ : Int32) (σ_ : SS), X7_row_L77 u1_ u2_ n v3_ σ_ = some r → WT σ_ → RR g mX7_row (FinR g mX7_row (some (.int (b2i r.1))) NF r.2) zF 77 [(0, .ref (ad g 1)), (1, .int u1_), (2, .int u2_), (3, .int v3_)] [] σ_ := by
  unfold X7_row_L77
  refine lp_ind (P := fun (rec : Int32 → SS → Option (Bool × SS)) => ∀ (v3_ : Int32) (σ_ : SS), rec v3_ σ_ = some r → WT σ_ → RR g mX7_row (FinR g mX7_row (some (.int (b2i r.1))) NF r.2) zF 77 [(0, .ref (ad g 1)), (1, .int u1_), (2, .int u2_), (3, .int v3_)] [] σ_) ?_ ?_ n
  · intro v3_ σ_ hr; cases hr
  intro rec ih v3_ σ_ hr hw_
  refine r_iload_n (pc := 77) (j := 3) dX7_row_77 rfl rfl ?_
  refine r_iload_n (pc := 78) (j := 2) dX7_row_78 rfl rfl ?_
  refine r_icmp_ge (pc := 79) (tgt := 107) dX7_row_79 rfl (fun hc => ?_) (fun hc => ?_)
  · replace hr := ite_t hc hr
    refine r_iconst (pc := 107) (v := (1 : Int32)) dX7_row_107 rfl ?_
    exact l_osz hr (r_zret (pc := 108) (v := b2i true) (ty := .boolean) rfl (b2i_nar _) rfl ⟨Nat.le_refl _, Nat.le_refl _⟩ dX7_row_108)
  replace hr := ite_f hc hr
  refine r_aload_n (pc := 82) (j := 0) dX7_row_82 rfl rfl ?_
  refine gf7_2 (pc := 83) tw_2_111 hw_ dX7_row_83 ?_
  refine r_iload_n (pc := 86) (j := 3) dX7_row_86 rfl rfl ?_
  refine r_iload_n (pc := 87) (j := 1) dX7_row_87 rfl rfl ?_
  refine r_aload_n (pc := 88) (j := 0) dX7_row_88 rfl rfl ?_
  refine gf7_0 (pc := 89) tw_2_109 hw_ dX7_row_89 ?_
  refine r_iload_n (pc := 92) (j := 3) dX7_row_92 rfl rfl ?_
  obtain ⟨h4, hr⟩ := grd_inv hr
  refine x_iald (pc := 93) (k := (Int32.toNatClampNeg v3_)) rfl h4 rfl dX7_row_93 ?_
  refine r_bipush (pc := 94) (v := (48 : Int32)) dX7_row_94 rfl ?_
  refine r_isub (pc := 96) dX7_row_96 ?_
  obtain ⟨b6, σ8, eσ8, hr⟩ := bnd_inv hr
  refine kX6_put (pc := 97) eσ8 (wt_sc hw_).1 tw_3_112 ⟨nle rfl, nle rfl⟩ (nle rfl) dX7_row_97 fun hσ8 => ?_
  refine r_pop (pc := 100) dX7_row_100 rfl ?_
  refine r_iinc (pc := 101) (j := 3) (v := (v3_ + (1 : Int32))) (ls1 := [(3, .int (v3_ + (1 : Int32))), (0, .ref (ad g 1)), (1, .int u1_), (2, .int u2_)]) dX7_row_101 rfl rfl (nle rfl) rfl ?_
  refine r_goto (pc := 104) (tgt := 77) dX7_row_104 rfl ?_
  exact r_pick (ls1 := [(0, .ref (ad g 1)), (1, .int u1_), (2, .int u2_), (3, .int (v3_ + (1 : Int32)))]) [1, 2, 3, 0] rfl (ih (v3_ + (1 : Int32)) σ8 hr hσ8)

set_option maxRecDepth 20000 in
theorem sX7_row {g : GG} {σ : SS} {a1 : Int32} {r : Bool × SS} (hr : fX7_row σ a1 = some r)  : Ct g mX7_row [.ref (ad g 1), .int a1] NF σ (some (.int (b2i r.1))) NF r.2 := by
  refine Ct.of (by decide +kernel) (nle rfl) fun hw0 => ?_
  have hw := hw0 rfl
  unfold fX7_row at hr
  change RR g mX7_row (FinR g mX7_row (some (.int (b2i r.1))) NF r.2) zF 0 [(0, .ref (ad g 1)), (1, .int a1)] [] σ
  refine r_aload_n (pc := 0) (j := 0) dX7_row_0 rfl rfl ?_
  refine gf7_2 (pc := 1) tw_2_111 hw dX7_row_1 ?_
  refine gf6_0 (pc := 4) tw_1_35 (wt_sc hw).1 dX7_row_4 ?_
  refine r_topi fun v1 ev1 => ?_
  replace hr := vthen_inv hr v1 ev1
  refine r_istore_n (pc := 7) (ls1 := [(2, .int v1), (0, .ref (ad g 1)), (1, .int a1)]) dX7_row_7 rfl (nle rfl) rfl ?_
  refine r_iload_n (pc := 8) (j := 2) dX7_row_8 rfl rfl ?_
  refine r_if_lt (pc := 9) (tgt := 31) dX7_row_9 rfl (fun hc => ?_) (fun hc => ?_)
  · replace hr := ite_t hc hr
    refine r_iconst (pc := 31) (v := (0 : Int32)) dX7_row_31 rfl ?_
    exact l_osz hr (r_zret (pc := 32) (v := b2i false) (ty := .boolean) rfl (b2i_nar _) rfl ⟨Nat.le_refl _, Nat.le_refl _⟩ dX7_row_32)
  replace hr := ite_f hc hr
  refine r_iload_n (pc := 12) (j := 2) dX7_row_12 rfl rfl ?_
  refine r_aload_n (pc := 13) (j := 1) dX7_row_13 rfl rfl ?_
  refine gf7_2 (pc := 14) tw_2_111 hw dX7_row_14 ?_
  refine gf6_1 (pc := 17) tw_1_38 (wt_sc hw).1 dX7_row_17 ?_
  refine r_icmp_ge (pc := 20) (tgt := 31) dX7_row_20 rfl (fun hc => ?_) (fun hc => ?_)
  · replace hr := ite_t hc hr
    refine r_iconst (pc := 31) (v := (0 : Int32)) dX7_row_31 rfl ?_
    exact l_osz hr (r_zret (pc := 32) (v := b2i false) (ty := .boolean) rfl (b2i_nar _) rfl ⟨Nat.le_refl _, Nat.le_refl _⟩ dX7_row_32)
  replace hr := ite_f hc hr
  refine r_aload_n (pc := 23) (j := 1) dX7_row_23 rfl rfl ?_
  refine gf7_1 (pc := 24) tw_2_110 rfl dX7_row_24 ?_
  refine r_iload_n (pc := 27) (j := 0) dX7_row_27 rfl rfl ?_
  refine r_icmp_ge (pc := 28) (tgt := 33) dX7_row_28 rfl (fun hc => ?_) (fun hc => ?_)
  · replace hr := ite_t hc hr
    refine r_aload_n (pc := 33) (j := 1) dX7_row_33 rfl rfl ?_
    refine r_iconst (pc := 34) (v := (0 : Int32)) dX7_row_34 rfl ?_
    refine pf7_1 (pc := 35) tw_2_110 rfl dX7_row_35 fun σ2 eσ2 => ?_
    replace hr := vthen_inv hr σ2 eσ2
    have hσ2 := wtI eσ2 hw
    refine r_iconst (pc := 38) (v := (0 : Int32)) dX7_row_38 rfl ?_
    refine r_istore_n (pc := 39) (ls1 := [(3, .int (0 : Int32)), (2, .int v1), (0, .ref (ad g 1)), (1, .int a1)]) dX7_row_39 rfl (nle rfl) rfl ?_
    refine r_pick (ls1 := [(0, .ref (ad g 1)), (1, .int a1), (2, .int v1), (3, .int (0 : Int32))]) [2, 3, 1, 0] rfl ?_
    refine sX7_row_L40  hσ2  (fun hr => ?_) fuel (0 : Int32) hr
    refine r_iconst (pc := 75) (v := (0 : Int32)) dX7_row_75 rfl ?_
    refine r_istore_n (pc := 76) (ls1 := [(3, .int (0 : Int32)), (0, .ref (ad g 1)), (1, .int a1), (2, .int v1)]) dX7_row_76 rfl (nle rfl) rfl ?_
    refine r_pick (ls1 := [(0, .ref (ad g 1)), (1, .int a1), (2, .int v1), (3, .int (0 : Int32))]) [1, 2, 3, 0] rfl ?_
    refine sX7_row_L77     fuel (0 : Int32) σ2 hr hσ2
  replace hr := ite_f hc hr
  refine r_iconst (pc := 31) (v := (0 : Int32)) dX7_row_31 rfl ?_
  exact l_osz hr (r_zret (pc := 32) (v := b2i false) (ty := .boolean) rfl (b2i_nar _) rfl ⟨Nat.le_refl _, Nat.le_refl _⟩ dX7_row_32)

theorem kX7_row {g : GG} {σ : SS} {a1 : Int32} {v : Bool} {σ2 : SS} {M : MM} {F : State → Array Value → List Frame → State → Prop} {pc index : Nat} {ls : List (Nat × Value)} {rest : List Value} (hf : fX7_row σ a1 = some (v, σ2))  (hl : Cond.methodLink M.1.cls index yX7_row ∈ lw_gt) (hR : mX7_row.2.2.2.2.frames + 1 ≤ M.2.2.2.2.frames ∧ 8 + (mX7_row.2.2.1 + 11) + mX7_row.2.2.2.2.locals ≤ M.2.2.2.2.locals) (hrest : (rest.map fun v => v.category).sum ≤ 8) (hd : decode M.2.1 pc = .ok (.invokevirtual index, 3)) (k : WT σ2 → RR g M F zF (pc + 3) ls (.int (b2i v) :: rest) σ2) : RR g M F zF pc ls (.int a1 :: .ref (ad g 1) :: rest) σ :=
  r_callV (N := mX7_row) (nn := 1) (o1 := some (.int (b2i v))) (sX7_row hf ) (rfl : shp 1 = (7, 0)) (by decide) (shp_le (rfl : shp 1 = (7, 0)) (nle rfl)) (ci := 7) rfl rfl tw_3_111 tw_1_1 hl tw_3_109 tw_3_110 ⟨by decide, by decide, rfl⟩ hR rfl hrest hd ⟨Nat.zero_le _, Nat.zero_le _⟩ rfl (fun h => k (h rfl))

theorem dX8_row_0 : decode cX8_row 0 = .ok (.iload_n 1, 1) := by decide +kernel
theorem dX8_row_1 : decode cX8_row 1 = .ok (.iconst 0, 1) := by decide +kernel
theorem dX8_row_2 : decode cX8_row 2 = .ok (.aload_n 0, 1) := by decide +kernel
theorem dX8_row_3 : decode cX8_row 3 = .ok (.getfield 136, 3) := by decide +kernel
theorem dX8_row_6 : decode cX8_row 6 = .ok (.iconst 1, 1) := by decide +kernel
theorem dX8_row_7 : decode cX8_row 7 = .ok (.isub, 1) := by decide +kernel
theorem dX8_row_8 : decode cX8_row 8 = .ok (.invokestatic 165, 3) := by decide +kernel
theorem dX8_row_11 : decode cX8_row 11 = .ok (.ifCond .eq 14, 3) := by decide +kernel
theorem dX8_row_14 : decode cX8_row 14 = .ok (.aload_n 0, 1) := by decide +kernel
theorem dX8_row_15 : decode cX8_row 15 = .ok (.getfield 142, 3) := by decide +kernel
theorem dX8_row_18 : decode cX8_row 18 = .ok (.aload_n 0, 1) := by decide +kernel
theorem dX8_row_19 : decode cX8_row 19 = .ok (.getfield 132, 3) := by decide +kernel
theorem dX8_row_22 : decode cX8_row 22 = .ok (.if_icmp .ge 5, 3) := by decide +kernel
theorem dX8_row_25 : decode cX8_row 25 = .ok (.iconst 0, 1) := by decide +kernel
theorem dX8_row_26 : decode cX8_row 26 = .ok (.ireturn, 1) := by decide +kernel
theorem dX8_row_27 : decode cX8_row 27 = .ok (.aload_n 0, 1) := by decide +kernel
theorem dX8_row_28 : decode cX8_row 28 = .ok (.iconst 0, 1) := by decide +kernel
theorem dX8_row_29 : decode cX8_row 29 = .ok (.putfield 142, 3) := by decide +kernel
theorem dX8_row_32 : decode cX8_row 32 = .ok (.iconst 0, 1) := by decide +kernel
theorem dX8_row_33 : decode cX8_row 33 = .ok (.istore_n 2, 1) := by decide +kernel
theorem dX8_row_34 : decode cX8_row 34 = .ok (.iload_n 2, 1) := by decide +kernel
theorem dX8_row_35 : decode cX8_row 35 = .ok (.aload_n 0, 1) := by decide +kernel
theorem dX8_row_36 : decode cX8_row 36 = .ok (.getfield 132, 3) := by decide +kernel
theorem dX8_row_39 : decode cX8_row 39 = .ok (.if_icmp .ge 27, 3) := by decide +kernel
theorem dX8_row_42 : decode cX8_row 42 = .ok (.aload_n 0, 1) := by decide +kernel
theorem dX8_row_43 : decode cX8_row 43 = .ok (.getfield 7, 3) := by decide +kernel
theorem dX8_row_46 : decode cX8_row 46 = .ok (.iload_n 2, 1) := by decide +kernel
theorem dX8_row_47 : decode cX8_row 47 = .ok (.baload, 1) := by decide +kernel
theorem dX8_row_48 : decode cX8_row 48 = .ok (.bipush 48, 2) := by decide +kernel
theorem dX8_row_50 : decode cX8_row 50 = .ok (.bipush 57, 2) := by decide +kernel
theorem dX8_row_52 : decode cX8_row 52 = .ok (.invokestatic 165, 3) := by decide +kernel
theorem dX8_row_55 : decode cX8_row 55 = .ok (.ifCond .ne 5, 3) := by decide +kernel
theorem dX8_row_58 : decode cX8_row 58 = .ok (.iconst 0, 1) := by decide +kernel
theorem dX8_row_59 : decode cX8_row 59 = .ok (.ireturn, 1) := by decide +kernel
theorem dX8_row_60 : decode cX8_row 60 = .ok (.iinc 2 1, 3) := by decide +kernel
theorem dX8_row_63 : decode cX8_row 63 = .ok (.goto (-29), 3) := by decide +kernel
theorem dX8_row_66 : decode cX8_row 66 = .ok (.iconst 0, 1) := by decide +kernel
theorem dX8_row_67 : decode cX8_row 67 = .ok (.istore_n 2, 1) := by decide +kernel
theorem dX8_row_68 : decode cX8_row 68 = .ok (.iload_n 2, 1) := by decide +kernel
theorem dX8_row_69 : decode cX8_row 69 = .ok (.aload_n 0, 1) := by decide +kernel
theorem dX8_row_70 : decode cX8_row 70 = .ok (.getfield 132, 3) := by decide +kernel
theorem dX8_row_73 : decode cX8_row 73 = .ok (.if_icmp .ge 31, 3) := by decide +kernel
theorem dX8_row_76 : decode cX8_row 76 = .ok (.aload_n 0, 1) := by decide +kernel
theorem dX8_row_77 : decode cX8_row 77 = .ok (.getfield 38, 3) := by decide +kernel
theorem dX8_row_80 : decode cX8_row 80 = .ok (.aload_n 0, 1) := by decide +kernel
theorem dX8_row_81 : decode cX8_row 81 = .ok (.getfield 132, 3) := by decide +kernel
theorem dX8_row_84 : decode cX8_row 84 = .ok (.iload_n 1, 1) := by decide +kernel
theorem dX8_row_85 : decode cX8_row 85 = .ok (.imul, 1) := by decide +kernel
theorem dX8_row_86 : decode cX8_row 86 = .ok (.iload_n 2, 1) := by decide +kernel
theorem dX8_row_87 : decode cX8_row 87 = .ok (.iadd, 1) := by decide +kernel
theorem dX8_row_88 : decode cX8_row 88 = .ok (.aload_n 0, 1) := by decide +kernel
theorem dX8_row_89 : decode cX8_row 89 = .ok (.getfield 7, 3) := by decide +kernel
theorem dX8_row_92 : decode cX8_row 92 = .ok (.iload_n 2, 1) := by decide +kernel
theorem dX8_row_93 : decode cX8_row 93 = .ok (.baload, 1) := by decide +kernel
theorem dX8_row_94 : decode cX8_row 94 = .ok (.bipush 48, 2) := by decide +kernel
theorem dX8_row_96 : decode cX8_row 96 = .ok (.isub, 1) := by decide +kernel
theorem dX8_row_97 : decode cX8_row 97 = .ok (.iastore, 1) := by decide +kernel
theorem dX8_row_98 : decode cX8_row 98 = .ok (.iinc 2 1, 3) := by decide +kernel
theorem dX8_row_101 : decode cX8_row 101 = .ok (.goto (-33), 3) := by decide +kernel
theorem dX8_row_104 : decode cX8_row 104 = .ok (.iconst 1, 1) := by decide +kernel
theorem dX8_row_105 : decode cX8_row 105 = .ok (.ireturn, 1) := by decide +kernel
def mX8_row : MM := (yX8_row, cX8_row, 3, Option.some Jvm.ClassFile.FieldType.boolean, { frames := 1, cells := 0, slots := 0, locals := 22 })
def X8_row_L34 (σ_ : SS)  (k66 : Unit → Option (Bool × SS)) : Nat → Int32 → Option (Bool × SS) :=
  lp (fun _ => none) fun rec v2_ =>
    if (gI σ_ 73 29) ≤ v2_ then (
      k66 ()
      ) else (
      grd (inb v2_ 480) <|
      if (fX8_in σ_ (gI σ_ 74 (Int32.toNatClampNeg v2_)) (48 : Int32) (57 : Int32)) = true then (
        rec (v2_ + (1 : Int32))
        ) else (
        some (false, σ_)
        )
      )

def X8_row_L68 (u1_ : Int32)  : Nat → Int32 → SS → Option (Bool × SS) :=
  lp (fun _ _ => none) fun rec v2_ σ_ =>
    if (gI σ_ 73 29) ≤ v2_ then (
      some (true, σ_)
      ) else (
      grd (inb v2_ 480) <|
      grd (inb (((gI σ_ 73 29) * u1_) + v2_) 1600) <|
      vthen (sI σ_ 83 (Int32.toNatClampNeg (((gI σ_ 73 29) * u1_) + v2_)) ((gI σ_ 74 (Int32.toNatClampNeg v2_)) - (48 : Int32))) fun σ5 =>
      rec (v2_ + (1 : Int32)) σ5
      )

def fX8_row (σ : SS) (a1 : Int32) : Option (Bool × SS) :=
  if (fX8_in σ a1 (0 : Int32) ((gI σ 73 30) - (1 : Int32))) = true then (
    if (gI σ 73 29) ≤ (gI σ 73 1) then (
      vthen (sI σ 73 1 (0 : Int32)) fun σ1 =>
      X8_row_L34 σ1
      (fun _ =>
        X8_row_L68 a1
        fuel (0 : Int32) σ1
        )
      fuel (0 : Int32)
      ) else (
      some (false, σ)
      )
    ) else (
    some (false, σ)
    )

set_option maxRecDepth 20000 in
theorem sX8_row_L34 {g : GG} {r : Bool × SS} {σ_ : SS} {x1_ : Int32} {k66 : Unit → Option (Bool × SS)} 
    (hw_ : WT σ_)
    (hk66 : k66 () = some r → RR g mX8_row (FinR g mX8_row (some (.int (b2i r.1))) NF r.2) zF 66 [(0, .ref (ad g 73)), (1, .int x1_)] [] σ_)
    (n : Nat) : ∀ (v2_ : Int32), X8_row_L34 σ_ k66 n v2_ = some r → RR g mX8_row (FinR g mX8_row (some (.int (b2i r.1))) NF r.2) zF 34 [(0, .ref (ad g 73)), (1, .int x1_), (2, .int v2_)] [] σ_ := by
  unfold X8_row_L34
  refine lp_ind (P := fun (rec : Int32 → Option (Bool × SS)) => ∀ (v2_ : Int32), rec v2_ = some r → RR g mX8_row (FinR g mX8_row (some (.int (b2i r.1))) NF r.2) zF 34 [(0, .ref (ad g 73)), (1, .int x1_), (2, .int v2_)] [] σ_) ?_ ?_ n
  · intro v2_ hr; cases hr
  intro rec ih v2_ hr
  refine r_iload_n (pc := 34) (j := 2) dX8_row_34 rfl rfl ?_
  refine r_aload_n (pc := 35) (j := 0) dX8_row_35 rfl rfl ?_
  refine gf8_29 (pc := 36) tw_5_123 rfl dX8_row_36 ?_
  refine r_icmp_ge (pc := 39) (tgt := 66) dX8_row_39 rfl (fun hc => ?_) (fun hc => ?_)
  · replace hr := ite_t hc hr
    exact r_pick (ls1 := [(0, .ref (ad g 73)), (1, .int x1_)]) [0, 1] rfl (hk66  hr)
  replace hr := ite_f hc hr
  refine r_aload_n (pc := 42) (j := 0) dX8_row_42 rfl rfl ?_
  refine gf8_0 (pc := 43) tw_5_94 hw_ dX8_row_43 ?_
  refine r_iload_n (pc := 46) (j := 2) dX8_row_46 rfl rfl ?_
  obtain ⟨h2, hr⟩ := grd_inv hr
  refine x_bald (pc := 47) (k := (Int32.toNatClampNeg v2_)) rfl h2 rfl dX8_row_47 ?_
  refine r_bipush (pc := 48) (v := (48 : Int32)) dX8_row_48 rfl ?_
  refine r_bipush (pc := 50) (v := (57 : Int32)) dX8_row_50 rfl ?_
  refine kX8_in (pc := 52) (hf := rfl) tw_6_65 ⟨nle rfl, nle rfl⟩ (nle rfl) dX8_row_52 ?_
  refine r_ifB_ne (pc := 55) (tgt := 60) dX8_row_55 rfl (fun hc => ?_) (fun hc => ?_)
  · replace hr := ite_t hc hr
    refine r_iinc (pc := 60) (j := 2) (v := (v2_ + (1 : Int32))) (ls1 := [(2, .int (v2_ + (1 : Int32))), (0, .ref (ad g 73)), (1, .int x1_)]) dX8_row_60 rfl rfl (nle rfl) rfl ?_
    refine r_goto (pc := 63) (tgt := 34) dX8_row_63 rfl ?_
    exact r_pick (ls1 := [(0, .ref (ad g 73)), (1, .int x1_), (2, .int (v2_ + (1 : Int32)))]) [1, 2, 0] rfl (ih (v2_ + (1 : Int32)) hr)
  replace hr := ite_f hc hr
  refine r_iconst (pc := 58) (v := (0 : Int32)) dX8_row_58 rfl ?_
  exact l_osz hr (r_zret (pc := 59) (v := b2i false) (ty := .boolean) rfl (b2i_nar _) rfl ⟨Nat.le_refl _, Nat.le_refl _⟩ dX8_row_59)

set_option maxRecDepth 20000 in
theorem sX8_row_L68 {g : GG} {r : Bool × SS} {u1_ : Int32}  
    (n : Nat) : ∀ (v2_ : Int32) (σ_ : SS), X8_row_L68 u1_ n v2_ σ_ = some r → WT σ_ → RR g mX8_row (FinR g mX8_row (some (.int (b2i r.1))) NF r.2) zF 68 [(0, .ref (ad g 73)), (1, .int u1_), (2, .int v2_)] [] σ_ := by
  unfold X8_row_L68
  refine lp_ind (P := fun (rec : Int32 → SS → Option (Bool × SS)) => ∀ (v2_ : Int32) (σ_ : SS), rec v2_ σ_ = some r → WT σ_ → RR g mX8_row (FinR g mX8_row (some (.int (b2i r.1))) NF r.2) zF 68 [(0, .ref (ad g 73)), (1, .int u1_), (2, .int v2_)] [] σ_) ?_ ?_ n
  · intro v2_ σ_ hr; cases hr
  intro rec ih v2_ σ_ hr hw_
  refine r_iload_n (pc := 68) (j := 2) dX8_row_68 rfl rfl ?_
  refine r_aload_n (pc := 69) (j := 0) dX8_row_69 rfl rfl ?_
  refine gf8_29 (pc := 70) tw_5_123 rfl dX8_row_70 ?_
  refine r_icmp_ge (pc := 73) (tgt := 104) dX8_row_73 rfl (fun hc => ?_) (fun hc => ?_)
  · replace hr := ite_t hc hr
    refine r_iconst (pc := 104) (v := (1 : Int32)) dX8_row_104 rfl ?_
    exact l_osz hr (r_zret (pc := 105) (v := b2i true) (ty := .boolean) rfl (b2i_nar _) rfl ⟨Nat.le_refl _, Nat.le_refl _⟩ dX8_row_105)
  replace hr := ite_f hc hr
  refine r_aload_n (pc := 76) (j := 0) dX8_row_76 rfl rfl ?_
  refine gf8_21 (pc := 77) tw_5_115 hw_ dX8_row_77 ?_
  refine r_aload_n (pc := 80) (j := 0) dX8_row_80 rfl rfl ?_
  refine gf8_29 (pc := 81) tw_5_123 rfl dX8_row_81 ?_
  refine r_iload_n (pc := 84) (j := 1) dX8_row_84 rfl rfl ?_
  refine r_imul (pc := 85) dX8_row_85 ?_
  refine r_iload_n (pc := 86) (j := 2) dX8_row_86 rfl rfl ?_
  refine r_iadd (pc := 87) dX8_row_87 ?_
  refine r_aload_n (pc := 88) (j := 0) dX8_row_88 rfl rfl ?_
  refine gf8_0 (pc := 89) tw_5_94 hw_ dX8_row_89 ?_
  refine r_iload_n (pc := 92) (j := 2) dX8_row_92 rfl rfl ?_
  obtain ⟨h3, hr⟩ := grd_inv hr
  refine x_bald (pc := 93) (k := (Int32.toNatClampNeg v2_)) rfl h3 rfl dX8_row_93 ?_
  refine r_bipush (pc := 94) (v := (48 : Int32)) dX8_row_94 rfl ?_
  refine r_isub (pc := 96) dX8_row_96 ?_
  obtain ⟨h4, hr⟩ := grd_inv hr
  refine x_iast (pc := 97) (j := (Int32.toNatClampNeg (((gI σ_ 73 29) * u1_) + v2_))) rfl h4 rfl dX8_row_97 fun σ5 eσ5 => ?_
  replace hr := vthen_inv hr σ5 eσ5
  have hσ5 := wtI eσ5 hw_
  refine r_iinc (pc := 98) (j := 2) (v := (v2_ + (1 : Int32))) (ls1 := [(2, .int (v2_ + (1 : Int32))), (0, .ref (ad g 73)), (1, .int u1_)]) dX8_row_98 rfl rfl (nle rfl) rfl ?_
  refine r_goto (pc := 101) (tgt := 68) dX8_row_101 rfl ?_
  exact r_pick (ls1 := [(0, .ref (ad g 73)), (1, .int u1_), (2, .int (v2_ + (1 : Int32)))]) [1, 2, 0] rfl (ih (v2_ + (1 : Int32)) σ5 hr hσ5)

set_option maxRecDepth 20000 in
theorem sX8_row {g : GG} {σ : SS} {a1 : Int32} {r : Bool × SS} (hr : fX8_row σ a1 = some r)  : Ct g mX8_row [.ref (ad g 73), .int a1] NF σ (some (.int (b2i r.1))) NF r.2 := by
  refine Ct.of (by decide +kernel) (nle rfl) fun hw0 => ?_
  have hw := hw0 rfl
  unfold fX8_row at hr
  change RR g mX8_row (FinR g mX8_row (some (.int (b2i r.1))) NF r.2) zF 0 [(0, .ref (ad g 73)), (1, .int a1)] [] σ
  refine r_iload_n (pc := 0) (j := 1) dX8_row_0 rfl rfl ?_
  refine r_iconst (pc := 1) (v := (0 : Int32)) dX8_row_1 rfl ?_
  refine r_aload_n (pc := 2) (j := 0) dX8_row_2 rfl rfl ?_
  refine gf8_30 (pc := 3) tw_5_124 rfl dX8_row_3 ?_
  refine r_iconst (pc := 6) (v := (1 : Int32)) dX8_row_6 rfl ?_
  refine r_isub (pc := 7) dX8_row_7 ?_
  refine kX8_in (pc := 8) (hf := rfl) tw_6_65 ⟨nle rfl, nle rfl⟩ (nle rfl) dX8_row_8 ?_
  refine r_ifB_eq (pc := 11) (tgt := 25) dX8_row_11 rfl (fun hc => ?_) (fun hc => ?_)
  · replace hr := ite_f hc hr
    refine r_iconst (pc := 25) (v := (0 : Int32)) dX8_row_25 rfl ?_
    exact l_osz hr (r_zret (pc := 26) (v := b2i false) (ty := .boolean) rfl (b2i_nar _) rfl ⟨Nat.le_refl _, Nat.le_refl _⟩ dX8_row_26)
  replace hr := ite_t hc hr
  refine r_aload_n (pc := 14) (j := 0) dX8_row_14 rfl rfl ?_
  refine gf8_1 (pc := 15) tw_5_95 rfl dX8_row_15 ?_
  refine r_aload_n (pc := 18) (j := 0) dX8_row_18 rfl rfl ?_
  refine gf8_29 (pc := 19) tw_5_123 rfl dX8_row_19 ?_
  refine r_icmp_ge (pc := 22) (tgt := 27) dX8_row_22 rfl (fun hc => ?_) (fun hc => ?_)
  · replace hr := ite_t hc hr
    refine r_aload_n (pc := 27) (j := 0) dX8_row_27 rfl rfl ?_
    refine r_iconst (pc := 28) (v := (0 : Int32)) dX8_row_28 rfl ?_
    refine pf8_1 (pc := 29) tw_5_95 rfl dX8_row_29 fun σ1 eσ1 => ?_
    replace hr := vthen_inv hr σ1 eσ1
    have hσ1 := wtI eσ1 hw
    refine r_iconst (pc := 32) (v := (0 : Int32)) dX8_row_32 rfl ?_
    refine r_istore_n (pc := 33) (ls1 := [(2, .int (0 : Int32)), (0, .ref (ad g 73)), (1, .int a1)]) dX8_row_33 rfl (nle rfl) rfl ?_
    refine r_pick (ls1 := [(0, .ref (ad g 73)), (1, .int a1), (2, .int (0 : Int32))]) [1, 2, 0] rfl ?_
    refine sX8_row_L34  hσ1  (fun hr => ?_) fuel (0 : Int32) hr
    refine r_iconst (pc := 66) (v := (0 : Int32)) dX8_row_66 rfl ?_
    refine r_istore_n (pc := 67) (ls1 := [(2, .int (0 : Int32)), (0, .ref (ad g 73)), (1, .int a1)]) dX8_row_67 rfl (nle rfl) rfl ?_
    refine r_pick (ls1 := [(0, .ref (ad g 73)), (1, .int a1), (2, .int (0 : Int32))]) [1, 2, 0] rfl ?_
    refine sX8_row_L68     fuel (0 : Int32) σ1 hr hσ1
  replace hr := ite_f hc hr
  refine r_iconst (pc := 25) (v := (0 : Int32)) dX8_row_25 rfl ?_
  exact l_osz hr (r_zret (pc := 26) (v := b2i false) (ty := .boolean) rfl (b2i_nar _) rfl ⟨Nat.le_refl _, Nat.le_refl _⟩ dX8_row_26)

theorem kX8_row {g : GG} {σ : SS} {a1 : Int32} {v : Bool} {σ2 : SS} {M : MM} {F : State → Array Value → List Frame → State → Prop} {pc index : Nat} {ls : List (Nat × Value)} {rest : List Value} (hf : fX8_row σ a1 = some (v, σ2))  (hl : Cond.methodLink M.1.cls index yX8_row ∈ lw_gt) (hR : mX8_row.2.2.2.2.frames + 1 ≤ M.2.2.2.2.frames ∧ 8 + (mX8_row.2.2.1 + 11) + mX8_row.2.2.2.2.locals ≤ M.2.2.2.2.locals) (hrest : (rest.map fun v => v.category).sum ≤ 8) (hd : decode M.2.1 pc = .ok (.invokevirtual index, 3)) (k : WT σ2 → RR g M F zF (pc + 3) ls (.int (b2i v) :: rest) σ2) : RR g M F zF pc ls (.int a1 :: .ref (ad g 73) :: rest) σ :=
  r_callV (N := mX8_row) (nn := 1) (o1 := some (.int (b2i v))) (sX8_row hf ) (rfl : shp 73 = (8, 0)) (by decide) (shp_le (rfl : shp 73 = (8, 0)) (nle rfl)) (ci := 8) rfl rfl tw_6_168 tw_1_10 hl tw_6_166 tw_6_167 ⟨by decide, by decide, rfl⟩ hR rfl hrest hd ⟨Nat.zero_le _, Nat.zero_le _⟩ rfl (fun h => k (h rfl))

theorem dX7_isPiece_0 : decode cX7_isPiece 0 = .ok (.iload_n 0, 1) := by decide +kernel
theorem dX7_isPiece_1 : decode cX7_isPiece 1 = .ok (.iconst 1, 1) := by decide +kernel
theorem dX7_isPiece_2 : decode cX7_isPiece 2 = .ok (.if_icmp .lt 24, 3) := by decide +kernel
theorem dX7_isPiece_5 : decode cX7_isPiece 5 = .ok (.iload_n 0, 1) := by decide +kernel
theorem dX7_isPiece_6 : decode cX7_isPiece 6 = .ok (.bipush 40, 2) := by decide +kernel
theorem dX7_isPiece_8 : decode cX7_isPiece 8 = .ok (.if_icmp .gt 18, 3) := by decide +kernel
theorem dX7_isPiece_11 : decode cX7_isPiece 11 = .ok (.iload_n 1, 1) := by decide +kernel
theorem dX7_isPiece_12 : decode cX7_isPiece 12 = .ok (.iconst 1, 1) := by decide +kernel
theorem dX7_isPiece_13 : decode cX7_isPiece 13 = .ok (.if_icmp .lt 13, 3) := by decide +kernel
theorem dX7_isPiece_16 : decode cX7_isPiece 16 = .ok (.iload_n 1, 1) := by decide +kernel
theorem dX7_isPiece_17 : decode cX7_isPiece 17 = .ok (.bipush 40, 2) := by decide +kernel
theorem dX7_isPiece_19 : decode cX7_isPiece 19 = .ok (.if_icmp .gt 7, 3) := by decide +kernel
theorem dX7_isPiece_22 : decode cX7_isPiece 22 = .ok (.iconst 1, 1) := by decide +kernel
theorem dX7_isPiece_23 : decode cX7_isPiece 23 = .ok (.goto 4, 3) := by decide +kernel
theorem dX7_isPiece_26 : decode cX7_isPiece 26 = .ok (.iconst 0, 1) := by decide +kernel
theorem dX7_isPiece_27 : decode cX7_isPiece 27 = .ok (.ireturn, 1) := by decide +kernel
def mX7_isPiece : MM := (yX7_isPiece, cX7_isPiece, 2, Option.some Jvm.ClassFile.FieldType.boolean, { frames := 0, cells := 0, slots := 0, locals := 0 })
def fX7_isPiece (σ0 : SS) (a0 : Int32) (a1 : Int32) : Bool :=
  vthen (fun (_u : Unit) =>
    false
    ) fun j26 =>
  if a0 < (1 : Int32) then (
    j26 ()
    ) else (
    if (40 : Int32) < a0 then (
      j26 ()
      ) else (
      if a1 < (1 : Int32) then (
        j26 ()
        ) else (
        if (40 : Int32) < a1 then (
          j26 ()
          ) else (
          true
          )
        )
      )
    )

set_option maxRecDepth 20000 in
theorem sX7_isPiece {g : GG} {σ0 : SS} {a0 : Int32} {a1 : Int32} {r : Bool} (hr : fX7_isPiece σ0 a0 a1 = r)  : Ct g mX7_isPiece [.int a0, .int a1] NF σ0 (some (.int (b2i r))) NF σ0 := by
  refine Ct.of (by decide +kernel) (nle rfl) fun hw0 => ?_
  have hw := hw0 rfl
  unfold fX7_isPiece at hr
  change RR g mX7_isPiece (FinR g mX7_isPiece (some (.int (b2i r))) NF σ0) zF 0 [(0, .int a0), (1, .int a1)] [] σ0
  refine r_iload_n (pc := 0) (j := 0) dX7_isPiece_0 rfl rfl ?_
  refine r_iconst (pc := 1) (v := (1 : Int32)) dX7_isPiece_1 rfl ?_
  obtain ⟨j26, ej26, hr⟩ := vth_ex hr
  have hj26 : j26 () = r → RR g mX7_isPiece (FinR g mX7_isPiece (some (.int (b2i r))) NF σ0) zF 26 [] [] σ0 := by
    intro  hr
    replace hr := (congrFun ej26 ()).symm.trans hr
    refine r_iconst (pc := 26) (v := (0 : Int32)) dX7_isPiece_26 rfl ?_
    exact l_pz hr (r_zret (pc := 27) (v := b2i false) (ty := .boolean) rfl (b2i_nar _) rfl ⟨Nat.le_refl _, Nat.le_refl _⟩ dX7_isPiece_27)
  refine r_icmp_lt (pc := 2) (tgt := 26) dX7_isPiece_2 rfl (fun hc => ?_) (fun hc => ?_)
  · replace hr := ite_t hc hr
    exact r_pick (ls1 := []) [] rfl (hj26  hr)
  replace hr := ite_f hc hr
  refine r_iload_n (pc := 5) (j := 0) dX7_isPiece_5 rfl rfl ?_
  refine r_bipush (pc := 6) (v := (40 : Int32)) dX7_isPiece_6 rfl ?_
  refine r_icmp_gt (pc := 8) (tgt := 26) dX7_isPiece_8 rfl (fun hc => ?_) (fun hc => ?_)
  · replace hr := ite_t hc hr
    exact r_pick (ls1 := []) [] rfl (hj26  hr)
  replace hr := ite_f hc hr
  refine r_iload_n (pc := 11) (j := 1) dX7_isPiece_11 rfl rfl ?_
  refine r_iconst (pc := 12) (v := (1 : Int32)) dX7_isPiece_12 rfl ?_
  refine r_icmp_lt (pc := 13) (tgt := 26) dX7_isPiece_13 rfl (fun hc => ?_) (fun hc => ?_)
  · replace hr := ite_t hc hr
    exact r_pick (ls1 := []) [] rfl (hj26  hr)
  replace hr := ite_f hc hr
  refine r_iload_n (pc := 16) (j := 1) dX7_isPiece_16 rfl rfl ?_
  refine r_bipush (pc := 17) (v := (40 : Int32)) dX7_isPiece_17 rfl ?_
  refine r_icmp_gt (pc := 19) (tgt := 26) dX7_isPiece_19 rfl (fun hc => ?_) (fun hc => ?_)
  · replace hr := ite_t hc hr
    exact r_pick (ls1 := []) [] rfl (hj26  hr)
  replace hr := ite_f hc hr
  refine r_iconst (pc := 22) (v := (1 : Int32)) dX7_isPiece_22 rfl ?_
  refine r_goto (pc := 23) (tgt := 27) dX7_isPiece_23 rfl ?_
  exact l_pz hr (r_zret (pc := 27) (v := b2i true) (ty := .boolean) rfl (b2i_nar _) rfl ⟨Nat.le_refl _, Nat.le_refl _⟩ dX7_isPiece_27)

theorem kX7_isPiece {g : GG} {σ0 : SS} {a0 : Int32} {a1 : Int32} {v : Bool} {M : MM} {F : State → Array Value → List Frame → State → Prop} {pc index : Nat} {ls : List (Nat × Value)} {rest : List Value} (hf : fX7_isPiece σ0 a0 a1 = v)  (hl : Cond.methodLink M.1.cls index yX7_isPiece ∈ lw_gt) (hR : mX7_isPiece.2.2.2.2.frames + 1 ≤ M.2.2.2.2.frames ∧ 8 + (mX7_isPiece.2.2.1 + 11) + mX7_isPiece.2.2.2.2.locals ≤ M.2.2.2.2.locals) (hrest : (rest.map fun v => v.category).sum ≤ 8) (hd : decode M.2.1 pc = .ok (.invokestatic index, 3)) (k : RR g M F zF (pc + 3) ls (.int (b2i v) :: rest) σ0) : RR g M F zF pc ls (.int a1 :: .int a0 :: rest) σ0 :=
  r_callS (N := mX7_isPiece) (nn := 2) (o1 := some (.int (b2i v))) (sX7_isPiece hf ) tw_3_126 tw_1_1 hl tw_3_125 ⟨by decide, by decide, rfl⟩ hR rfl hrest hd ⟨Nat.zero_le _, Nat.zero_le _⟩ rfl (fun h => k)

theorem dX7_fill_0 : decode cX7_fill 0 = .ok (.iload_n 3, 1) := by decide +kernel
theorem dX7_fill_1 : decode cX7_fill 1 = .ok (.iload 4, 2) := by decide +kernel
theorem dX7_fill_3 : decode cX7_fill 3 = .ok (.invokestatic 161, 3) := by decide +kernel
theorem dX7_fill_6 : decode cX7_fill 6 = .ok (.ifCond .eq 27, 3) := by decide +kernel
theorem dX7_fill_9 : decode cX7_fill 9 = .ok (.iload 5, 2) := by decide +kernel
theorem dX7_fill_11 : decode cX7_fill 11 = .ok (.ifCond .lt 22, 3) := by decide +kernel
theorem dX7_fill_14 : decode cX7_fill 14 = .ok (.iload 5, 2) := by decide +kernel
theorem dX7_fill_16 : decode cX7_fill 16 = .ok (.bipush 9, 2) := by decide +kernel
theorem dX7_fill_18 : decode cX7_fill 18 = .ok (.if_icmp .gt 15, 3) := by decide +kernel
theorem dX7_fill_21 : decode cX7_fill 21 = .ok (.aload_n 0, 1) := by decide +kernel
theorem dX7_fill_22 : decode cX7_fill 22 = .ok (.getfield 18, 3) := by decide +kernel
theorem dX7_fill_25 : decode cX7_fill 25 = .ok (.iload_n 1, 1) := by decide +kernel
theorem dX7_fill_26 : decode cX7_fill 26 = .ok (.iload_n 2, 1) := by decide +kernel
theorem dX7_fill_27 : decode cX7_fill 27 = .ok (.invokevirtual 164, 3) := by decide +kernel
theorem dX7_fill_30 : decode cX7_fill 30 = .ok (.ifCond .ne 5, 3) := by decide +kernel
theorem dX7_fill_33 : decode cX7_fill 33 = .ok (.iconst (-1), 1) := by decide +kernel
theorem dX7_fill_34 : decode cX7_fill 34 = .ok (.ireturn, 1) := by decide +kernel
theorem dX7_fill_35 : decode cX7_fill 35 = .ok (.iload_n 1, 1) := by decide +kernel
theorem dX7_fill_36 : decode cX7_fill 36 = .ok (.iload_n 3, 1) := by decide +kernel
theorem dX7_fill_37 : decode cX7_fill 37 = .ok (.iadd, 1) := by decide +kernel
theorem dX7_fill_38 : decode cX7_fill 38 = .ok (.aload_n 0, 1) := by decide +kernel
theorem dX7_fill_39 : decode cX7_fill 39 = .ok (.getfield 18, 3) := by decide +kernel
theorem dX7_fill_42 : decode cX7_fill 42 = .ok (.getfield 100, 3) := by decide +kernel
theorem dX7_fill_45 : decode cX7_fill 45 = .ok (.invokestatic 167, 3) := by decide +kernel
theorem dX7_fill_48 : decode cX7_fill 48 = .ok (.istore 6, 2) := by decide +kernel
theorem dX7_fill_50 : decode cX7_fill 50 = .ok (.iload_n 2, 1) := by decide +kernel
theorem dX7_fill_51 : decode cX7_fill 51 = .ok (.iload 4, 2) := by decide +kernel
theorem dX7_fill_53 : decode cX7_fill 53 = .ok (.iadd, 1) := by decide +kernel
theorem dX7_fill_54 : decode cX7_fill 54 = .ok (.aload_n 0, 1) := by decide +kernel
theorem dX7_fill_55 : decode cX7_fill 55 = .ok (.getfield 18, 3) := by decide +kernel
theorem dX7_fill_58 : decode cX7_fill 58 = .ok (.getfield 103, 3) := by decide +kernel
theorem dX7_fill_61 : decode cX7_fill 61 = .ok (.invokestatic 167, 3) := by decide +kernel
theorem dX7_fill_64 : decode cX7_fill 64 = .ok (.istore 7, 2) := by decide +kernel
theorem dX7_fill_66 : decode cX7_fill 66 = .ok (.iload_n 2, 1) := by decide +kernel
theorem dX7_fill_67 : decode cX7_fill 67 = .ok (.istore 8, 2) := by decide +kernel
theorem dX7_fill_69 : decode cX7_fill 69 = .ok (.iload 8, 2) := by decide +kernel
theorem dX7_fill_71 : decode cX7_fill 71 = .ok (.iload 7, 2) := by decide +kernel
theorem dX7_fill_73 : decode cX7_fill 73 = .ok (.if_icmp .ge 39, 3) := by decide +kernel
theorem dX7_fill_76 : decode cX7_fill 76 = .ok (.iload_n 1, 1) := by decide +kernel
theorem dX7_fill_77 : decode cX7_fill 77 = .ok (.istore 9, 2) := by decide +kernel
theorem dX7_fill_79 : decode cX7_fill 79 = .ok (.iload 9, 2) := by decide +kernel
theorem dX7_fill_81 : decode cX7_fill 81 = .ok (.iload 6, 2) := by decide +kernel
theorem dX7_fill_83 : decode cX7_fill 83 = .ok (.if_icmp .ge 23, 3) := by decide +kernel
theorem dX7_fill_86 : decode cX7_fill 86 = .ok (.aload_n 0, 1) := by decide +kernel
theorem dX7_fill_87 : decode cX7_fill 87 = .ok (.getfield 18, 3) := by decide +kernel
theorem dX7_fill_90 : decode cX7_fill 90 = .ok (.iload 9, 2) := by decide +kernel
theorem dX7_fill_92 : decode cX7_fill 92 = .ok (.iload 8, 2) := by decide +kernel
theorem dX7_fill_94 : decode cX7_fill 94 = .ok (.iload 5, 2) := by decide +kernel
theorem dX7_fill_96 : decode cX7_fill 96 = .ok (.invokevirtual 157, 3) := by decide +kernel
theorem dX7_fill_99 : decode cX7_fill 99 = .ok (.pop, 1) := by decide +kernel
theorem dX7_fill_100 : decode cX7_fill 100 = .ok (.iinc 9 1, 3) := by decide +kernel
theorem dX7_fill_103 : decode cX7_fill 103 = .ok (.goto (-24), 3) := by decide +kernel
theorem dX7_fill_106 : decode cX7_fill 106 = .ok (.iinc 8 1, 3) := by decide +kernel
theorem dX7_fill_109 : decode cX7_fill 109 = .ok (.goto (-40), 3) := by decide +kernel
theorem dX7_fill_112 : decode cX7_fill 112 = .ok (.iload 6, 2) := by decide +kernel
theorem dX7_fill_114 : decode cX7_fill 114 = .ok (.iload_n 1, 1) := by decide +kernel
theorem dX7_fill_115 : decode cX7_fill 115 = .ok (.isub, 1) := by decide +kernel
theorem dX7_fill_116 : decode cX7_fill 116 = .ok (.iload 7, 2) := by decide +kernel
theorem dX7_fill_118 : decode cX7_fill 118 = .ok (.iload_n 2, 1) := by decide +kernel
theorem dX7_fill_119 : decode cX7_fill 119 = .ok (.isub, 1) := by decide +kernel
theorem dX7_fill_120 : decode cX7_fill 120 = .ok (.imul, 1) := by decide +kernel
theorem dX7_fill_121 : decode cX7_fill 121 = .ok (.ireturn, 1) := by decide +kernel
def mX7_fill : MM := (yX7_fill, cX7_fill, 10, Option.some Jvm.ClassFile.FieldType.int, { frames := 2, cells := 0, slots := 0, locals := 47 })
def X7_fill_L79 (u5_ : Int32) (u6_ : Int32) (u8_ : Int32) (k106 : SS → Option (Int32 × SS)) : Nat → Int32 → SS → Option (Int32 × SS) :=
  lp (fun _ _ => none) fun rec v9_ σ_ =>
    if u6_ ≤ v9_ then (
      k106 σ_
      ) else (
      bnd (fX6_put σ_ (gR σ_ 1 2) v9_ u8_ u5_) fun b4 σ6 =>
      rec (v9_ + (1 : Int32)) σ6
      )

def X7_fill_L69 (u1_ : Int32) (u2_ : Int32) (u5_ : Int32) (u6_ : Int32) (u7_ : Int32)  : Nat → Int32 → SS → Option (Int32 × SS) :=
  lp (fun _ _ => none) fun rec v8_ σ_ =>
    if u7_ ≤ v8_ then (
      some (((u6_ - u1_) * (u7_ - u2_)), σ_)
      ) else (
      X7_fill_L79 u5_ u6_ v8_
      (fun σ7 =>
        rec (v8_ + (1 : Int32)) σ7
        )
      fuel u1_ σ_
      )

def fX7_fill (σ : SS) (a1 : Int32) (a2 : Int32) (a3 : Int32) (a4 : Int32) (a5 : Int32) : Option (Int32 × SS) :=
  if (fX7_isPiece σ a3 a4) = true then (
    if a5 < 0 then (
      some ((-1 : Int32), σ)
      ) else (
      if (9 : Int32) < a5 then (
        some ((-1 : Int32), σ)
        ) else (
        if (fX6_has σ (gR σ 1 2) a1 a2) = true then (
          vthen (fJ9_min_7cf53 σ (a1 + a3) (gI σ (gR σ 1 2) 0)) fun v1 =>
          vthen (fJ9_min_7cf53 σ (a2 + a4) (gI σ (gR σ 1 2) 1)) fun v2 =>
          X7_fill_L69 a1 a2 a5 v1 v2
          fuel a2 σ
          ) else (
          some ((-1 : Int32), σ)
          )
        )
      )
    ) else (
    some ((-1 : Int32), σ)
    )

set_option maxRecDepth 20000 in
theorem sX7_fill_L79 {g : GG} {r : Int32 × SS} {x1_ : Int32} {x2_ : Int32} {u5_ : Int32} {u6_ : Int32} {x7_ : Int32} {u8_ : Int32} {k106 : SS → Option (Int32 × SS)} 
    (hk106 : ∀ (σ_ : SS), k106 σ_ = some r → WT σ_ → RR g mX7_fill (FinR g mX7_fill (some (.int r.1)) NF r.2) zF 106 [(0, .ref (ad g 1)), (1, .int x1_), (2, .int x2_), (5, .int u5_), (6, .int u6_), (7, .int x7_), (8, .int u8_)] [] σ_)
    (n : Nat) : ∀ (v9_ : Int32) (σ_ : SS), X7_fill_L79 u5_ u6_ u8_ k106 n v9_ σ_ = some r → WT σ_ → RR g mX7_fill (FinR g mX7_fill (some (.int r.1)) NF r.2) zF 79 [(0, .ref (ad g 1)), (1, .int x1_), (2, .int x2_), (5, .int u5_), (6, .int u6_), (7, .int x7_), (8, .int u8_), (9, .int v9_)] [] σ_ := by
  unfold X7_fill_L79
  refine lp_ind (P := fun (rec : Int32 → SS → Option (Int32 × SS)) => ∀ (v9_ : Int32) (σ_ : SS), rec v9_ σ_ = some r → WT σ_ → RR g mX7_fill (FinR g mX7_fill (some (.int r.1)) NF r.2) zF 79 [(0, .ref (ad g 1)), (1, .int x1_), (2, .int x2_), (5, .int u5_), (6, .int u6_), (7, .int x7_), (8, .int u8_), (9, .int v9_)] [] σ_) ?_ ?_ n
  · intro v9_ σ_ hr; cases hr
  intro rec ih v9_ σ_ hr hw_
  refine r_iload (pc := 79) (j := 7) dX7_fill_79 rfl ?_
  refine r_iload (pc := 81) (j := 4) dX7_fill_81 rfl ?_
  refine r_icmp_ge (pc := 83) (tgt := 106) dX7_fill_83 rfl (fun hc => ?_) (fun hc => ?_)
  · replace hr := ite_t hc hr
    exact r_pick (ls1 := [(0, .ref (ad g 1)), (1, .int x1_), (2, .int x2_), (5, .int u5_), (6, .int u6_), (7, .int x7_), (8, .int u8_)]) [0, 1, 2, 3, 4, 5, 6] rfl (hk106 σ_ hr hw_)
  replace hr := ite_f hc hr
  refine r_aload_n (pc := 86) (j := 0) dX7_fill_86 rfl rfl ?_
  refine gf7_2 (pc := 87) tw_2_111 hw_ dX7_fill_87 ?_
  refine r_iload (pc := 90) (j := 7) dX7_fill_90 rfl ?_
  refine r_iload (pc := 92) (j := 6) dX7_fill_92 rfl ?_
  refine r_iload (pc := 94) (j := 3) dX7_fill_94 rfl ?_
  obtain ⟨b4, σ6, eσ6, hr⟩ := bnd_inv hr
  refine kX6_put (pc := 96) eσ6 (wt_sc hw_).1 tw_3_112 ⟨nle rfl, nle rfl⟩ (nle rfl) dX7_fill_96 fun hσ6 => ?_
  refine r_pop (pc := 99) dX7_fill_99 rfl ?_
  refine r_iinc (pc := 100) (j := 7) (v := (v9_ + (1 : Int32))) (ls1 := [(9, .int (v9_ + (1 : Int32))), (0, .ref (ad g 1)), (1, .int x1_), (2, .int x2_), (5, .int u5_), (6, .int u6_), (7, .int x7_), (8, .int u8_)]) dX7_fill_100 rfl rfl (nle rfl) rfl ?_
  refine r_goto (pc := 103) (tgt := 79) dX7_fill_103 rfl ?_
  exact r_pick (ls1 := [(0, .ref (ad g 1)), (1, .int x1_), (2, .int x2_), (5, .int u5_), (6, .int u6_), (7, .int x7_), (8, .int u8_), (9, .int (v9_ + (1 : Int32)))]) [1, 2, 3, 4, 5, 6, 7, 0] rfl (ih (v9_ + (1 : Int32)) σ6 hr hσ6)

set_option maxRecDepth 20000 in
theorem sX7_fill_L69 {g : GG} {r : Int32 × SS} {u1_ : Int32} {u2_ : Int32} {u5_ : Int32} {u6_ : Int32} {u7_ : Int32}  
    (n : Nat) : ∀ (v8_ : Int32) (σ_ : SS), X7_fill_L69 u1_ u2_ u5_ u6_ u7_ n v8_ σ_ = some r → WT σ_ → RR g mX7_fill (FinR g mX7_fill (some (.int r.1)) NF r.2) zF 69 [(0, .ref (ad g 1)), (1, .int u1_), (2, .int u2_), (5, .int u5_), (6, .int u6_), (7, .int u7_), (8, .int v8_)] [] σ_ := by
  unfold X7_fill_L69
  refine lp_ind (P := fun (rec : Int32 → SS → Option (Int32 × SS)) => ∀ (v8_ : Int32) (σ_ : SS), rec v8_ σ_ = some r → WT σ_ → RR g mX7_fill (FinR g mX7_fill (some (.int r.1)) NF r.2) zF 69 [(0, .ref (ad g 1)), (1, .int u1_), (2, .int u2_), (5, .int u5_), (6, .int u6_), (7, .int u7_), (8, .int v8_)] [] σ_) ?_ ?_ n
  · intro v8_ σ_ hr; cases hr
  intro rec ih v8_ σ_ hr hw_
  refine r_iload (pc := 69) (j := 6) dX7_fill_69 rfl ?_
  refine r_iload (pc := 71) (j := 5) dX7_fill_71 rfl ?_
  refine r_icmp_ge (pc := 73) (tgt := 112) dX7_fill_73 rfl (fun hc => ?_) (fun hc => ?_)
  · replace hr := ite_t hc hr
    refine r_iload (pc := 112) (j := 4) dX7_fill_112 rfl ?_
    refine r_iload_n (pc := 114) (j := 1) dX7_fill_114 rfl rfl ?_
    refine r_isub (pc := 115) dX7_fill_115 ?_
    refine r_iload (pc := 116) (j := 5) dX7_fill_116 rfl ?_
    refine r_iload_n (pc := 118) (j := 2) dX7_fill_118 rfl rfl ?_
    refine r_isub (pc := 119) dX7_fill_119 ?_
    refine r_imul (pc := 120) dX7_fill_120 ?_
    exact l_osi hr (r_iret (pc := 121) (v := ((u6_ - u1_) * (u7_ - u2_))) rfl rfl ⟨Nat.le_refl _, Nat.le_refl _⟩ dX7_fill_121)
  replace hr := ite_f hc hr
  refine r_iload_n (pc := 76) (j := 1) dX7_fill_76 rfl rfl ?_
  refine r_istore (pc := 77) (ls1 := [(9, .int u1_), (0, .ref (ad g 1)), (1, .int u1_), (2, .int u2_), (5, .int u5_), (6, .int u6_), (7, .int u7_), (8, .int v8_)]) dX7_fill_77 (nle rfl) rfl ?_
  refine r_pick (ls1 := [(0, .ref (ad g 1)), (1, .int u1_), (2, .int u2_), (5, .int u5_), (6, .int u6_), (7, .int u7_), (8, .int v8_), (9, .int u1_)]) [1, 2, 3, 4, 5, 6, 7, 0] rfl ?_
  refine sX7_fill_L79    (fun σ7 hr hσ7 => ?_) fuel u1_ σ_ hr hw_
  refine r_iinc (pc := 106) (j := 6) (v := (v8_ + (1 : Int32))) (ls1 := [(8, .int (v8_ + (1 : Int32))), (0, .ref (ad g 1)), (1, .int u1_), (2, .int u2_), (5, .int u5_), (6, .int u6_), (7, .int u7_)]) dX7_fill_106 rfl rfl (nle rfl) rfl ?_
  refine r_goto (pc := 109) (tgt := 69) dX7_fill_109 rfl ?_
  exact r_pick (ls1 := [(0, .ref (ad g 1)), (1, .int u1_), (2, .int u2_), (5, .int u5_), (6, .int u6_), (7, .int u7_), (8, .int (v8_ + (1 : Int32)))]) [1, 2, 3, 4, 5, 6, 0] rfl (ih (v8_ + (1 : Int32)) σ7 hr hσ7)

set_option maxRecDepth 20000 in
theorem sX7_fill {g : GG} {σ : SS} {a1 : Int32} {a2 : Int32} {a3 : Int32} {a4 : Int32} {a5 : Int32} {r : Int32 × SS} (hr : fX7_fill σ a1 a2 a3 a4 a5 = some r)  : Ct g mX7_fill [.ref (ad g 1), .int a1, .int a2, .int a3, .int a4, .int a5] NF σ (some (.int r.1)) NF r.2 := by
  refine Ct.of (by decide +kernel) (nle rfl) fun hw0 => ?_
  have hw := hw0 rfl
  unfold fX7_fill at hr
  change RR g mX7_fill (FinR g mX7_fill (some (.int r.1)) NF r.2) zF 0 [(0, .ref (ad g 1)), (1, .int a1), (2, .int a2), (3, .int a3), (4, .int a4), (5, .int a5)] [] σ
  refine r_iload_n (pc := 0) (j := 3) dX7_fill_0 rfl rfl ?_
  refine r_iload (pc := 1) (j := 4) dX7_fill_1 rfl ?_
  refine kX7_isPiece (pc := 3) (hf := rfl) tw_3_124 ⟨nle rfl, nle rfl⟩ (nle rfl) dX7_fill_3 ?_
  refine r_ifB_eq (pc := 6) (tgt := 33) dX7_fill_6 rfl (fun hc => ?_) (fun hc => ?_)
  · replace hr := ite_f hc hr
    refine r_iconst (pc := 33) (v := (-1 : Int32)) dX7_fill_33 rfl ?_
    exact l_osi hr (r_iret (pc := 34) (v := (-1 : Int32)) rfl rfl ⟨Nat.le_refl _, Nat.le_refl _⟩ dX7_fill_34)
  replace hr := ite_t hc hr
  refine r_iload (pc := 9) (j := 5) dX7_fill_9 rfl ?_
  refine r_if_lt (pc := 11) (tgt := 33) dX7_fill_11 rfl (fun hc => ?_) (fun hc => ?_)
  · replace hr := ite_t hc hr
    refine r_iconst (pc := 33) (v := (-1 : Int32)) dX7_fill_33 rfl ?_
    exact l_osi hr (r_iret (pc := 34) (v := (-1 : Int32)) rfl rfl ⟨Nat.le_refl _, Nat.le_refl _⟩ dX7_fill_34)
  replace hr := ite_f hc hr
  refine r_iload (pc := 14) (j := 5) dX7_fill_14 rfl ?_
  refine r_bipush (pc := 16) (v := (9 : Int32)) dX7_fill_16 rfl ?_
  refine r_icmp_gt (pc := 18) (tgt := 33) dX7_fill_18 rfl (fun hc => ?_) (fun hc => ?_)
  · replace hr := ite_t hc hr
    refine r_iconst (pc := 33) (v := (-1 : Int32)) dX7_fill_33 rfl ?_
    exact l_osi hr (r_iret (pc := 34) (v := (-1 : Int32)) rfl rfl ⟨Nat.le_refl _, Nat.le_refl _⟩ dX7_fill_34)
  replace hr := ite_f hc hr
  refine r_aload_n (pc := 21) (j := 0) dX7_fill_21 rfl rfl ?_
  refine gf7_2 (pc := 22) tw_2_111 hw dX7_fill_22 ?_
  refine r_iload_n (pc := 25) (j := 1) dX7_fill_25 rfl rfl ?_
  refine r_iload_n (pc := 26) (j := 2) dX7_fill_26 rfl rfl ?_
  refine kX6_has (pc := 27) (hf := rfl) (wt_sc hw).1 tw_3_127 ⟨nle rfl, nle rfl⟩ (nle rfl) dX7_fill_27 ?_
  refine r_ifB_ne (pc := 30) (tgt := 35) dX7_fill_30 rfl (fun hc => ?_) (fun hc => ?_)
  · replace hr := ite_t hc hr
    refine r_iload_n (pc := 35) (j := 1) dX7_fill_35 rfl rfl ?_
    refine r_iload_n (pc := 36) (j := 3) dX7_fill_36 rfl rfl ?_
    refine r_iadd (pc := 37) dX7_fill_37 ?_
    refine r_aload_n (pc := 38) (j := 0) dX7_fill_38 rfl rfl ?_
    refine gf7_2 (pc := 39) tw_2_111 hw dX7_fill_39 ?_
    refine gf6_0 (pc := 42) tw_1_35 (wt_sc hw).1 dX7_fill_42 ?_
    refine kJ9_min_7cf53 (pc := 45) (hf := rfl) tw_3_128 ⟨nle rfl, nle rfl⟩ (nle rfl) dX7_fill_45 ?_
    refine r_topi fun v1 ev1 => ?_
    replace hr := vthen_inv hr v1 ev1
    refine r_istore (pc := 48) (ls1 := [(6, .int v1), (0, .ref (ad g 1)), (1, .int a1), (2, .int a2), (3, .int a3), (4, .int a4), (5, .int a5)]) dX7_fill_48 (nle rfl) rfl ?_
    refine r_iload_n (pc := 50) (j := 3) dX7_fill_50 rfl rfl ?_
    refine r_iload (pc := 51) (j := 5) dX7_fill_51 rfl ?_
    refine r_iadd (pc := 53) dX7_fill_53 ?_
    refine r_aload_n (pc := 54) (j := 1) dX7_fill_54 rfl rfl ?_
    refine gf7_2 (pc := 55) tw_2_111 hw dX7_fill_55 ?_
    refine gf6_1 (pc := 58) tw_1_38 (wt_sc hw).1 dX7_fill_58 ?_
    refine kJ9_min_7cf53 (pc := 61) (hf := rfl) tw_3_128 ⟨nle rfl, nle rfl⟩ (nle rfl) dX7_fill_61 ?_
    refine r_topi fun v2 ev2 => ?_
    replace hr := vthen_inv hr v2 ev2
    refine r_istore (pc := 64) (ls1 := [(7, .int v2), (6, .int v1), (0, .ref (ad g 1)), (1, .int a1), (2, .int a2), (3, .int a3), (4, .int a4), (5, .int a5)]) dX7_fill_64 (nle rfl) rfl ?_
    refine r_iload_n (pc := 66) (j := 4) dX7_fill_66 rfl rfl ?_
    refine r_istore (pc := 67) (ls1 := [(8, .int a2), (7, .int v2), (6, .int v1), (0, .ref (ad g 1)), (1, .int a1), (2, .int a2), (3, .int a3), (4, .int a4), (5, .int a5)]) dX7_fill_67 (nle rfl) rfl ?_
    refine r_pick (ls1 := [(0, .ref (ad g 1)), (1, .int a1), (2, .int a2), (5, .int a5), (6, .int v1), (7, .int v2), (8, .int a2)]) [3, 4, 5, 8, 2, 1, 0] rfl ?_
    refine sX7_fill_L69     fuel a2 σ hr hw
  replace hr := ite_f hc hr
  refine r_iconst (pc := 33) (v := (-1 : Int32)) dX7_fill_33 rfl ?_
  exact l_osi hr (r_iret (pc := 34) (v := (-1 : Int32)) rfl rfl ⟨Nat.le_refl _, Nat.le_refl _⟩ dX7_fill_34)

theorem kX7_fill {g : GG} {σ : SS} {a1 : Int32} {a2 : Int32} {a3 : Int32} {a4 : Int32} {a5 : Int32} {v : Int32} {σ2 : SS} {M : MM} {F : State → Array Value → List Frame → State → Prop} {pc index : Nat} {ls : List (Nat × Value)} {rest : List Value} (hf : fX7_fill σ a1 a2 a3 a4 a5 = some (v, σ2))  (hl : Cond.methodLink M.1.cls index yX7_fill ∈ lw_gt) (hR : mX7_fill.2.2.2.2.frames + 1 ≤ M.2.2.2.2.frames ∧ 8 + (mX7_fill.2.2.1 + 11) + mX7_fill.2.2.2.2.locals ≤ M.2.2.2.2.locals) (hrest : (rest.map fun v => v.category).sum ≤ 8) (hd : decode M.2.1 pc = .ok (.invokevirtual index, 3)) (k : WT σ2 → RR g M F zF (pc + 3) ls (.int v :: rest) σ2) : RR g M F zF pc ls (.int a5 :: .int a4 :: .int a3 :: .int a2 :: .int a1 :: .ref (ad g 1) :: rest) σ :=
  r_callV (N := mX7_fill) (nn := 5) (o1 := some (.int v)) (sX7_fill hf ) (rfl : shp 1 = (7, 0)) (by decide) (shp_le (rfl : shp 1 = (7, 0)) (nle rfl)) (ci := 7) rfl rfl tw_3_123 tw_1_1 hl tw_3_121 tw_3_122 ⟨by decide, by decide, rfl⟩ hR rfl hrest hd ⟨Nat.zero_le _, Nat.zero_le _⟩ rfl (fun h => k (h rfl))

theorem dX8_isDot_0 : decode cX8_isDot 0 = .ok (.iload_n 1, 1) := by decide +kernel
theorem dX8_isDot_1 : decode cX8_isDot 1 = .ok (.iconst 0, 1) := by decide +kernel
theorem dX8_isDot_2 : decode cX8_isDot 2 = .ok (.aload_n 0, 1) := by decide +kernel
theorem dX8_isDot_3 : decode cX8_isDot 3 = .ok (.getfield 132, 3) := by decide +kernel
theorem dX8_isDot_6 : decode cX8_isDot 6 = .ok (.iconst 1, 1) := by decide +kernel
theorem dX8_isDot_7 : decode cX8_isDot 7 = .ok (.isub, 1) := by decide +kernel
theorem dX8_isDot_8 : decode cX8_isDot 8 = .ok (.invokestatic 165, 3) := by decide +kernel
theorem dX8_isDot_11 : decode cX8_isDot 11 = .ok (.ifCond .eq 21, 3) := by decide +kernel
theorem dX8_isDot_14 : decode cX8_isDot 14 = .ok (.iload_n 2, 1) := by decide +kernel
theorem dX8_isDot_15 : decode cX8_isDot 15 = .ok (.iconst 0, 1) := by decide +kernel
theorem dX8_isDot_16 : decode cX8_isDot 16 = .ok (.aload_n 0, 1) := by decide +kernel
theorem dX8_isDot_17 : decode cX8_isDot 17 = .ok (.getfield 136, 3) := by decide +kernel
theorem dX8_isDot_20 : decode cX8_isDot 20 = .ok (.iconst 1, 1) := by decide +kernel
theorem dX8_isDot_21 : decode cX8_isDot 21 = .ok (.isub, 1) := by decide +kernel
theorem dX8_isDot_22 : decode cX8_isDot 22 = .ok (.invokestatic 165, 3) := by decide +kernel
theorem dX8_isDot_25 : decode cX8_isDot 25 = .ok (.ifCond .eq 7, 3) := by decide +kernel
theorem dX8_isDot_28 : decode cX8_isDot 28 = .ok (.iconst 1, 1) := by decide +kernel
theorem dX8_isDot_29 : decode cX8_isDot 29 = .ok (.goto 4, 3) := by decide +kernel
theorem dX8_isDot_32 : decode cX8_isDot 32 = .ok (.iconst 0, 1) := by decide +kernel
theorem dX8_isDot_33 : decode cX8_isDot 33 = .ok (.ireturn, 1) := by decide +kernel
def mX8_isDot : MM := (yX8_isDot, cX8_isDot, 3, Option.some Jvm.ClassFile.FieldType.boolean, { frames := 1, cells := 0, slots := 0, locals := 22 })
def fX8_isDot (σ0 : SS) (a1 : Int32) (a2 : Int32) : Bool :=
  vthen (fun (_u : Unit) =>
    false
    ) fun j32 =>
  if (fX8_in σ0 a1 (0 : Int32) ((gI σ0 73 29) - (1 : Int32))) = true then (
    if (fX8_in σ0 a2 (0 : Int32) ((gI σ0 73 30) - (1 : Int32))) = true then (
      true
      ) else (
      j32 ()
      )
    ) else (
    j32 ()
    )

set_option maxRecDepth 20000 in
theorem sX8_isDot {g : GG} {σ0 : SS} {a1 : Int32} {a2 : Int32} {r : Bool} (hr : fX8_isDot σ0 a1 a2 = r)  : Ct g mX8_isDot [.ref (ad g 73), .int a1, .int a2] NF σ0 (some (.int (b2i r))) NF σ0 := by
  refine Ct.of (by decide +kernel) (nle rfl) fun hw0 => ?_
  have hw := hw0 rfl
  unfold fX8_isDot at hr
  change RR g mX8_isDot (FinR g mX8_isDot (some (.int (b2i r))) NF σ0) zF 0 [(0, .ref (ad g 73)), (1, .int a1), (2, .int a2)] [] σ0
  refine r_iload_n (pc := 0) (j := 1) dX8_isDot_0 rfl rfl ?_
  refine r_iconst (pc := 1) (v := (0 : Int32)) dX8_isDot_1 rfl ?_
  refine r_aload_n (pc := 2) (j := 0) dX8_isDot_2 rfl rfl ?_
  refine gf8_29 (pc := 3) tw_5_123 rfl dX8_isDot_3 ?_
  refine r_iconst (pc := 6) (v := (1 : Int32)) dX8_isDot_6 rfl ?_
  refine r_isub (pc := 7) dX8_isDot_7 ?_
  refine kX8_in (pc := 8) (hf := rfl) tw_6_65 ⟨nle rfl, nle rfl⟩ (nle rfl) dX8_isDot_8 ?_
  obtain ⟨j32, ej32, hr⟩ := vth_ex hr
  have hj32 : j32 () = r → RR g mX8_isDot (FinR g mX8_isDot (some (.int (b2i r))) NF σ0) zF 32 [] [] σ0 := by
    intro  hr
    replace hr := (congrFun ej32 ()).symm.trans hr
    refine r_iconst (pc := 32) (v := (0 : Int32)) dX8_isDot_32 rfl ?_
    exact l_pz hr (r_zret (pc := 33) (v := b2i false) (ty := .boolean) rfl (b2i_nar _) rfl ⟨Nat.le_refl _, Nat.le_refl _⟩ dX8_isDot_33)
  refine r_ifB_eq (pc := 11) (tgt := 32) dX8_isDot_11 rfl (fun hc => ?_) (fun hc => ?_)
  · replace hr := ite_f hc hr
    exact r_pick (ls1 := []) [] rfl (hj32  hr)
  replace hr := ite_t hc hr
  refine r_iload_n (pc := 14) (j := 2) dX8_isDot_14 rfl rfl ?_
  refine r_iconst (pc := 15) (v := (0 : Int32)) dX8_isDot_15 rfl ?_
  refine r_aload_n (pc := 16) (j := 0) dX8_isDot_16 rfl rfl ?_
  refine gf8_30 (pc := 17) tw_5_124 rfl dX8_isDot_17 ?_
  refine r_iconst (pc := 20) (v := (1 : Int32)) dX8_isDot_20 rfl ?_
  refine r_isub (pc := 21) dX8_isDot_21 ?_
  refine kX8_in (pc := 22) (hf := rfl) tw_6_65 ⟨nle rfl, nle rfl⟩ (nle rfl) dX8_isDot_22 ?_
  refine r_ifB_eq (pc := 25) (tgt := 32) dX8_isDot_25 rfl (fun hc => ?_) (fun hc => ?_)
  · replace hr := ite_f hc hr
    exact r_pick (ls1 := []) [] rfl (hj32  hr)
  replace hr := ite_t hc hr
  refine r_iconst (pc := 28) (v := (1 : Int32)) dX8_isDot_28 rfl ?_
  refine r_goto (pc := 29) (tgt := 33) dX8_isDot_29 rfl ?_
  exact l_pz hr (r_zret (pc := 33) (v := b2i true) (ty := .boolean) rfl (b2i_nar _) rfl ⟨Nat.le_refl _, Nat.le_refl _⟩ dX8_isDot_33)

theorem kX8_isDot {g : GG} {σ0 : SS} {a1 : Int32} {a2 : Int32} {v : Bool} {M : MM} {F : State → Array Value → List Frame → State → Prop} {pc index : Nat} {ls : List (Nat × Value)} {rest : List Value} (hf : fX8_isDot σ0 a1 a2 = v)  (hl : Cond.methodLink M.1.cls index yX8_isDot ∈ lw_gt) (hR : mX8_isDot.2.2.2.2.frames + 1 ≤ M.2.2.2.2.frames ∧ 8 + (mX8_isDot.2.2.1 + 11) + mX8_isDot.2.2.2.2.locals ≤ M.2.2.2.2.locals) (hrest : (rest.map fun v => v.category).sum ≤ 8) (hd : decode M.2.1 pc = .ok (.invokevirtual index, 3)) (k : RR g M F zF (pc + 3) ls (.int (b2i v) :: rest) σ0) : RR g M F zF pc ls (.int a2 :: .int a1 :: .ref (ad g 73) :: rest) σ0 :=
  r_callV (N := mX8_isDot) (nn := 2) (o1 := some (.int (b2i v))) (sX8_isDot hf ) (rfl : shp 73 = (8, 0)) (by decide) (shp_le (rfl : shp 73 = (8, 0)) (nle rfl)) (ci := 8) rfl rfl tw_6_176 tw_1_10 hl tw_6_175 tp_52 ⟨by decide, by decide, rfl⟩ hR rfl hrest hd ⟨Nat.zero_le _, Nat.zero_le _⟩ rfl (fun h => k)

theorem dX8_fill_0 : decode cX8_fill 0 = .ok (.iload_n 3, 1) := by decide +kernel
theorem dX8_fill_1 : decode cX8_fill 1 = .ok (.iconst 1, 1) := by decide +kernel
theorem dX8_fill_2 : decode cX8_fill 2 = .ok (.bipush 40, 2) := by decide +kernel
theorem dX8_fill_4 : decode cX8_fill 4 = .ok (.invokestatic 165, 3) := by decide +kernel
theorem dX8_fill_7 : decode cX8_fill 7 = .ok (.ifCond .eq 34, 3) := by decide +kernel
theorem dX8_fill_10 : decode cX8_fill 10 = .ok (.iload 4, 2) := by decide +kernel
theorem dX8_fill_12 : decode cX8_fill 12 = .ok (.iconst 1, 1) := by decide +kernel
theorem dX8_fill_13 : decode cX8_fill 13 = .ok (.bipush 40, 2) := by decide +kernel
theorem dX8_fill_15 : decode cX8_fill 15 = .ok (.invokestatic 165, 3) := by decide +kernel
theorem dX8_fill_18 : decode cX8_fill 18 = .ok (.ifCond .eq 23, 3) := by decide +kernel
theorem dX8_fill_21 : decode cX8_fill 21 = .ok (.iload 5, 2) := by decide +kernel
theorem dX8_fill_23 : decode cX8_fill 23 = .ok (.iconst 0, 1) := by decide +kernel
theorem dX8_fill_24 : decode cX8_fill 24 = .ok (.bipush 9, 2) := by decide +kernel
theorem dX8_fill_26 : decode cX8_fill 26 = .ok (.invokestatic 165, 3) := by decide +kernel
theorem dX8_fill_29 : decode cX8_fill 29 = .ok (.ifCond .eq 12, 3) := by decide +kernel
theorem dX8_fill_32 : decode cX8_fill 32 = .ok (.aload_n 0, 1) := by decide +kernel
theorem dX8_fill_33 : decode cX8_fill 33 = .ok (.iload_n 1, 1) := by decide +kernel
theorem dX8_fill_34 : decode cX8_fill 34 = .ok (.iload_n 2, 1) := by decide +kernel
theorem dX8_fill_35 : decode cX8_fill 35 = .ok (.invokevirtual 281, 3) := by decide +kernel
theorem dX8_fill_38 : decode cX8_fill 38 = .ok (.ifCond .ne 5, 3) := by decide +kernel
theorem dX8_fill_41 : decode cX8_fill 41 = .ok (.iconst (-1), 1) := by decide +kernel
theorem dX8_fill_42 : decode cX8_fill 42 = .ok (.ireturn, 1) := by decide +kernel
theorem dX8_fill_43 : decode cX8_fill 43 = .ok (.iconst 0, 1) := by decide +kernel
theorem dX8_fill_44 : decode cX8_fill 44 = .ok (.istore 6, 2) := by decide +kernel
theorem dX8_fill_46 : decode cX8_fill 46 = .ok (.iload_n 2, 1) := by decide +kernel
theorem dX8_fill_47 : decode cX8_fill 47 = .ok (.istore 7, 2) := by decide +kernel
theorem dX8_fill_49 : decode cX8_fill 49 = .ok (.iload 7, 2) := by decide +kernel
theorem dX8_fill_51 : decode cX8_fill 51 = .ok (.iload_n 2, 1) := by decide +kernel
theorem dX8_fill_52 : decode cX8_fill 52 = .ok (.iload 4, 2) := by decide +kernel
theorem dX8_fill_54 : decode cX8_fill 54 = .ok (.iadd, 1) := by decide +kernel
theorem dX8_fill_55 : decode cX8_fill 55 = .ok (.if_icmp .ge 63, 3) := by decide +kernel
theorem dX8_fill_58 : decode cX8_fill 58 = .ok (.iload_n 1, 1) := by decide +kernel
theorem dX8_fill_59 : decode cX8_fill 59 = .ok (.istore 8, 2) := by decide +kernel
theorem dX8_fill_61 : decode cX8_fill 61 = .ok (.iload 8, 2) := by decide +kernel
theorem dX8_fill_63 : decode cX8_fill 63 = .ok (.iload_n 1, 1) := by decide +kernel
theorem dX8_fill_64 : decode cX8_fill 64 = .ok (.iload_n 3, 1) := by decide +kernel
theorem dX8_fill_65 : decode cX8_fill 65 = .ok (.iadd, 1) := by decide +kernel
theorem dX8_fill_66 : decode cX8_fill 66 = .ok (.if_icmp .ge 46, 3) := by decide +kernel
theorem dX8_fill_69 : decode cX8_fill 69 = .ok (.aload_n 0, 1) := by decide +kernel
theorem dX8_fill_70 : decode cX8_fill 70 = .ok (.iload 8, 2) := by decide +kernel
theorem dX8_fill_72 : decode cX8_fill 72 = .ok (.iload 7, 2) := by decide +kernel
theorem dX8_fill_74 : decode cX8_fill 74 = .ok (.invokevirtual 281, 3) := by decide +kernel
theorem dX8_fill_77 : decode cX8_fill 77 = .ok (.ifCond .ne 6, 3) := by decide +kernel
theorem dX8_fill_80 : decode cX8_fill 80 = .ok (.goto 26, 3) := by decide +kernel
theorem dX8_fill_83 : decode cX8_fill 83 = .ok (.aload_n 0, 1) := by decide +kernel
theorem dX8_fill_84 : decode cX8_fill 84 = .ok (.getfield 38, 3) := by decide +kernel
theorem dX8_fill_87 : decode cX8_fill 87 = .ok (.aload_n 0, 1) := by decide +kernel
theorem dX8_fill_88 : decode cX8_fill 88 = .ok (.getfield 132, 3) := by decide +kernel
theorem dX8_fill_91 : decode cX8_fill 91 = .ok (.iload 7, 2) := by decide +kernel
theorem dX8_fill_93 : decode cX8_fill 93 = .ok (.imul, 1) := by decide +kernel
theorem dX8_fill_94 : decode cX8_fill 94 = .ok (.iload 8, 2) := by decide +kernel
theorem dX8_fill_96 : decode cX8_fill 96 = .ok (.iadd, 1) := by decide +kernel
theorem dX8_fill_97 : decode cX8_fill 97 = .ok (.iload 5, 2) := by decide +kernel
theorem dX8_fill_99 : decode cX8_fill 99 = .ok (.iastore, 1) := by decide +kernel
theorem dX8_fill_100 : decode cX8_fill 100 = .ok (.iload 6, 2) := by decide +kernel
theorem dX8_fill_102 : decode cX8_fill 102 = .ok (.iconst 1, 1) := by decide +kernel
theorem dX8_fill_103 : decode cX8_fill 103 = .ok (.iadd, 1) := by decide +kernel
theorem dX8_fill_104 : decode cX8_fill 104 = .ok (.istore 6, 2) := by decide +kernel
theorem dX8_fill_106 : decode cX8_fill 106 = .ok (.iinc 8 1, 3) := by decide +kernel
theorem dX8_fill_109 : decode cX8_fill 109 = .ok (.goto (-48), 3) := by decide +kernel
theorem dX8_fill_112 : decode cX8_fill 112 = .ok (.iinc 7 1, 3) := by decide +kernel
theorem dX8_fill_115 : decode cX8_fill 115 = .ok (.goto (-66), 3) := by decide +kernel
theorem dX8_fill_118 : decode cX8_fill 118 = .ok (.iload 6, 2) := by decide +kernel
theorem dX8_fill_120 : decode cX8_fill 120 = .ok (.ireturn, 1) := by decide +kernel
def mX8_fill : MM := (yX8_fill, cX8_fill, 9, Option.some Jvm.ClassFile.FieldType.int, { frames := 2, cells := 0, slots := 0, locals := 44 })
def X8_fill_L61 (u1_ : Int32) (u3_ : Int32) (u5_ : Int32) (u7_ : Int32) (k112 : Int32 → SS → Option (Int32 × SS)) : Nat → Int32 → Int32 → SS → Option (Int32 × SS) :=
  lp (fun _ _ _ => none) fun rec v6_ v8_ σ_ =>
    if (u1_ + u3_) ≤ v8_ then (
      k112 v6_ σ_
      ) else (
      if (fX8_isDot σ_ v8_ u7_) = true then (
        grd (inb (((gI σ_ 73 29) * u7_) + v8_) 1600) <|
        vthen (sI σ_ 83 (Int32.toNatClampNeg (((gI σ_ 73 29) * u7_) + v8_)) u5_) fun σ2 =>
        vthen (v6_ + (1 : Int32)) fun v3 =>
        rec v3 (v8_ + (1 : Int32)) σ2
        ) else (
        rec v6_ (v8_ + (1 : Int32)) σ_
        )
      )

def X8_fill_L49 (u1_ : Int32) (u2_ : Int32) (u3_ : Int32) (u4_ : Int32) (u5_ : Int32)  : Nat → Int32 → Int32 → SS → Option (Int32 × SS) :=
  lp (fun _ _ _ => none) fun rec v6_ v7_ σ_ =>
    if (u2_ + u4_) ≤ v7_ then (
      some (v6_, σ_)
      ) else (
      X8_fill_L61 u1_ u3_ u5_ v7_
      (fun v4 σ5 =>
        rec v4 (v7_ + (1 : Int32)) σ5
        )
      fuel v6_ u1_ σ_
      )

def fX8_fill (σ : SS) (a1 : Int32) (a2 : Int32) (a3 : Int32) (a4 : Int32) (a5 : Int32) : Option (Int32 × SS) :=
  if (fX8_in σ a3 (1 : Int32) (40 : Int32)) = true then (
    if (fX8_in σ a4 (1 : Int32) (40 : Int32)) = true then (
      if (fX8_in σ a5 (0 : Int32) (9 : Int32)) = true then (
        if (fX8_isDot σ a1 a2) = true then (
          X8_fill_L49 a1 a2 a3 a4 a5
          fuel (0 : Int32) a2 σ
          ) else (
          some ((-1 : Int32), σ)
          )
        ) else (
        some ((-1 : Int32), σ)
        )
      ) else (
      some ((-1 : Int32), σ)
      )
    ) else (
    some ((-1 : Int32), σ)
    )

set_option maxRecDepth 20000 in
theorem sX8_fill_L61 {g : GG} {r : Int32 × SS} {u1_ : Int32} {x2_ : Int32} {u3_ : Int32} {x4_ : Int32} {u5_ : Int32} {u7_ : Int32} {k112 : Int32 → SS → Option (Int32 × SS)} 
    (hk112 : ∀ (y6 : Int32) (σ_ : SS), k112 y6 σ_ = some r → WT σ_ → RR g mX8_fill (FinR g mX8_fill (some (.int r.1)) NF r.2) zF 112 [(0, .ref (ad g 73)), (1, .int u1_), (2, .int x2_), (3, .int u3_), (4, .int x4_), (5, .int u5_), (6, .int y6), (7, .int u7_)] [] σ_)
    (n : Nat) : ∀ (v6_ : Int32) (v8_ : Int32) (σ_ : SS), X8_fill_L61 u1_ u3_ u5_ u7_ k112 n v6_ v8_ σ_ = some r → WT σ_ → RR g mX8_fill (FinR g mX8_fill (some (.int r.1)) NF r.2) zF 61 [(0, .ref (ad g 73)), (1, .int u1_), (2, .int x2_), (3, .int u3_), (4, .int x4_), (5, .int u5_), (6, .int v6_), (7, .int u7_), (8, .int v8_)] [] σ_ := by
  unfold X8_fill_L61
  refine lp_ind (P := fun (rec : Int32 → Int32 → SS → Option (Int32 × SS)) => ∀ (v6_ : Int32) (v8_ : Int32) (σ_ : SS), rec v6_ v8_ σ_ = some r → WT σ_ → RR g mX8_fill (FinR g mX8_fill (some (.int r.1)) NF r.2) zF 61 [(0, .ref (ad g 73)), (1, .int u1_), (2, .int x2_), (3, .int u3_), (4, .int x4_), (5, .int u5_), (6, .int v6_), (7, .int u7_), (8, .int v8_)] [] σ_) ?_ ?_ n
  · intro v6_ v8_ σ_ hr; cases hr
  intro rec ih v6_ v8_ σ_ hr hw_
  refine r_iload (pc := 61) (j := 8) dX8_fill_61 rfl ?_
  refine r_iload_n (pc := 63) (j := 1) dX8_fill_63 rfl rfl ?_
  refine r_iload_n (pc := 64) (j := 3) dX8_fill_64 rfl rfl ?_
  refine r_iadd (pc := 65) dX8_fill_65 ?_
  refine r_icmp_ge (pc := 66) (tgt := 112) dX8_fill_66 rfl (fun hc => ?_) (fun hc => ?_)
  · replace hr := ite_t hc hr
    exact r_pick (ls1 := [(0, .ref (ad g 73)), (1, .int u1_), (2, .int x2_), (3, .int u3_), (4, .int x4_), (5, .int u5_), (6, .int v6_), (7, .int u7_)]) [0, 1, 2, 3, 4, 5, 6, 7] rfl (hk112 v6_ σ_ hr hw_)
  replace hr := ite_f hc hr
  refine r_aload_n (pc := 69) (j := 0) dX8_fill_69 rfl rfl ?_
  refine r_iload (pc := 70) (j := 8) dX8_fill_70 rfl ?_
  refine r_iload (pc := 72) (j := 7) dX8_fill_72 rfl ?_
  refine kX8_isDot (pc := 74) (hf := rfl) tw_6_173 ⟨nle rfl, nle rfl⟩ (nle rfl) dX8_fill_74 ?_
  refine r_ifB_ne (pc := 77) (tgt := 83) dX8_fill_77 rfl (fun hc => ?_) (fun hc => ?_)
  · replace hr := ite_t hc hr
    refine r_aload_n (pc := 83) (j := 0) dX8_fill_83 rfl rfl ?_
    refine gf8_21 (pc := 84) tw_5_115 hw_ dX8_fill_84 ?_
    refine r_aload_n (pc := 87) (j := 0) dX8_fill_87 rfl rfl ?_
    refine gf8_29 (pc := 88) tw_5_123 rfl dX8_fill_88 ?_
    refine r_iload (pc := 91) (j := 7) dX8_fill_91 rfl ?_
    refine r_imul (pc := 93) dX8_fill_93 ?_
    refine r_iload (pc := 94) (j := 8) dX8_fill_94 rfl ?_
    refine r_iadd (pc := 96) dX8_fill_96 ?_
    refine r_iload (pc := 97) (j := 5) dX8_fill_97 rfl ?_
    obtain ⟨h1, hr⟩ := grd_inv hr
    refine x_iast (pc := 99) (j := (Int32.toNatClampNeg (((gI σ_ 73 29) * u7_) + v8_))) rfl h1 rfl dX8_fill_99 fun σ2 eσ2 => ?_
    replace hr := vthen_inv hr σ2 eσ2
    have hσ2 := wtI eσ2 hw_
    refine r_iload (pc := 100) (j := 6) dX8_fill_100 rfl ?_
    refine r_iconst (pc := 102) (v := (1 : Int32)) dX8_fill_102 rfl ?_
    refine r_iadd (pc := 103) dX8_fill_103 ?_
    refine r_topi fun v3 ev3 => ?_
    replace hr := vthen_inv hr v3 ev3
    refine r_istore (pc := 104) (ls1 := [(6, .int v3), (0, .ref (ad g 73)), (1, .int u1_), (2, .int x2_), (3, .int u3_), (4, .int x4_), (5, .int u5_), (7, .int u7_), (8, .int v8_)]) dX8_fill_104 (nle rfl) rfl ?_
    refine r_iinc (pc := 106) (j := 8) (v := (v8_ + (1 : Int32))) (ls1 := [(8, .int (v8_ + (1 : Int32))), (6, .int v3), (0, .ref (ad g 73)), (1, .int u1_), (2, .int x2_), (3, .int u3_), (4, .int x4_), (5, .int u5_), (7, .int u7_)]) dX8_fill_106 rfl rfl (nle rfl) rfl ?_
    refine r_goto (pc := 109) (tgt := 61) dX8_fill_109 rfl ?_
    exact r_pick (ls1 := [(0, .ref (ad g 73)), (1, .int u1_), (2, .int x2_), (3, .int u3_), (4, .int x4_), (5, .int u5_), (6, .int v3), (7, .int u7_), (8, .int (v8_ + (1 : Int32)))]) [2, 3, 4, 5, 6, 7, 1, 8, 0] rfl (ih v3 (v8_ + (1 : Int32)) σ2 hr hσ2)
  replace hr := ite_f hc hr
  refine r_goto (pc := 80) (tgt := 106) dX8_fill_80 rfl ?_
  refine r_iinc (pc := 106) (j := 8) (v := (v8_ + (1 : Int32))) (ls1 := [(8, .int (v8_ + (1 : Int32))), (0, .ref (ad g 73)), (1, .int u1_), (2, .int x2_), (3, .int u3_), (4, .int x4_), (5, .int u5_), (6, .int v6_), (7, .int u7_)]) dX8_fill_106 rfl rfl (nle rfl) rfl ?_
  refine r_goto (pc := 109) (tgt := 61) dX8_fill_109 rfl ?_
  exact r_pick (ls1 := [(0, .ref (ad g 73)), (1, .int u1_), (2, .int x2_), (3, .int u3_), (4, .int x4_), (5, .int u5_), (6, .int v6_), (7, .int u7_), (8, .int (v8_ + (1 : Int32)))]) [1, 2, 3, 4, 5, 6, 7, 8, 0] rfl (ih v6_ (v8_ + (1 : Int32)) σ_ hr hw_)

set_option maxRecDepth 20000 in
theorem sX8_fill_L49 {g : GG} {r : Int32 × SS} {u1_ : Int32} {u2_ : Int32} {u3_ : Int32} {u4_ : Int32} {u5_ : Int32}  
    (n : Nat) : ∀ (v6_ : Int32) (v7_ : Int32) (σ_ : SS), X8_fill_L49 u1_ u2_ u3_ u4_ u5_ n v6_ v7_ σ_ = some r → WT σ_ → RR g mX8_fill (FinR g mX8_fill (some (.int r.1)) NF r.2) zF 49 [(0, .ref (ad g 73)), (1, .int u1_), (2, .int u2_), (3, .int u3_), (4, .int u4_), (5, .int u5_), (6, .int v6_), (7, .int v7_)] [] σ_ := by
  unfold X8_fill_L49
  refine lp_ind (P := fun (rec : Int32 → Int32 → SS → Option (Int32 × SS)) => ∀ (v6_ : Int32) (v7_ : Int32) (σ_ : SS), rec v6_ v7_ σ_ = some r → WT σ_ → RR g mX8_fill (FinR g mX8_fill (some (.int r.1)) NF r.2) zF 49 [(0, .ref (ad g 73)), (1, .int u1_), (2, .int u2_), (3, .int u3_), (4, .int u4_), (5, .int u5_), (6, .int v6_), (7, .int v7_)] [] σ_) ?_ ?_ n
  · intro v6_ v7_ σ_ hr; cases hr
  intro rec ih v6_ v7_ σ_ hr hw_
  refine r_iload (pc := 49) (j := 7) dX8_fill_49 rfl ?_
  refine r_iload_n (pc := 51) (j := 2) dX8_fill_51 rfl rfl ?_
  refine r_iload (pc := 52) (j := 4) dX8_fill_52 rfl ?_
  refine r_iadd (pc := 54) dX8_fill_54 ?_
  refine r_icmp_ge (pc := 55) (tgt := 118) dX8_fill_55 rfl (fun hc => ?_) (fun hc => ?_)
  · replace hr := ite_t hc hr
    refine r_iload (pc := 118) (j := 6) dX8_fill_118 rfl ?_
    exact l_osi hr (r_iret (pc := 120) (v := v6_) rfl rfl ⟨Nat.le_refl _, Nat.le_refl _⟩ dX8_fill_120)
  replace hr := ite_f hc hr
  refine r_iload_n (pc := 58) (j := 1) dX8_fill_58 rfl rfl ?_
  refine r_istore (pc := 59) (ls1 := [(8, .int u1_), (0, .ref (ad g 73)), (1, .int u1_), (2, .int u2_), (3, .int u3_), (4, .int u4_), (5, .int u5_), (6, .int v6_), (7, .int v7_)]) dX8_fill_59 (nle rfl) rfl ?_
  refine r_pick (ls1 := [(0, .ref (ad g 73)), (1, .int u1_), (2, .int u2_), (3, .int u3_), (4, .int u4_), (5, .int u5_), (6, .int v6_), (7, .int v7_), (8, .int u1_)]) [1, 2, 3, 4, 5, 6, 7, 8, 0] rfl ?_
  refine sX8_fill_L61    (fun v4 σ5 hr hσ5 => ?_) fuel v6_ u1_ σ_ hr hw_
  refine r_iinc (pc := 112) (j := 7) (v := (v7_ + (1 : Int32))) (ls1 := [(7, .int (v7_ + (1 : Int32))), (0, .ref (ad g 73)), (1, .int u1_), (2, .int u2_), (3, .int u3_), (4, .int u4_), (5, .int u5_), (6, .int v4)]) dX8_fill_112 rfl rfl (nle rfl) rfl ?_
  refine r_goto (pc := 115) (tgt := 49) dX8_fill_115 rfl ?_
  exact r_pick (ls1 := [(0, .ref (ad g 73)), (1, .int u1_), (2, .int u2_), (3, .int u3_), (4, .int u4_), (5, .int u5_), (6, .int v4), (7, .int (v7_ + (1 : Int32)))]) [1, 2, 3, 4, 5, 6, 7, 0] rfl (ih v4 (v7_ + (1 : Int32)) σ5 hr hσ5)

set_option maxRecDepth 20000 in
theorem sX8_fill {g : GG} {σ : SS} {a1 : Int32} {a2 : Int32} {a3 : Int32} {a4 : Int32} {a5 : Int32} {r : Int32 × SS} (hr : fX8_fill σ a1 a2 a3 a4 a5 = some r)  : Ct g mX8_fill [.ref (ad g 73), .int a1, .int a2, .int a3, .int a4, .int a5] NF σ (some (.int r.1)) NF r.2 := by
  refine Ct.of (by decide +kernel) (nle rfl) fun hw0 => ?_
  have hw := hw0 rfl
  unfold fX8_fill at hr
  change RR g mX8_fill (FinR g mX8_fill (some (.int r.1)) NF r.2) zF 0 [(0, .ref (ad g 73)), (1, .int a1), (2, .int a2), (3, .int a3), (4, .int a4), (5, .int a5)] [] σ
  refine r_iload_n (pc := 0) (j := 3) dX8_fill_0 rfl rfl ?_
  refine r_iconst (pc := 1) (v := (1 : Int32)) dX8_fill_1 rfl ?_
  refine r_bipush (pc := 2) (v := (40 : Int32)) dX8_fill_2 rfl ?_
  refine kX8_in (pc := 4) (hf := rfl) tw_6_65 ⟨nle rfl, nle rfl⟩ (nle rfl) dX8_fill_4 ?_
  refine r_ifB_eq (pc := 7) (tgt := 41) dX8_fill_7 rfl (fun hc => ?_) (fun hc => ?_)
  · replace hr := ite_f hc hr
    refine r_iconst (pc := 41) (v := (-1 : Int32)) dX8_fill_41 rfl ?_
    exact l_osi hr (r_iret (pc := 42) (v := (-1 : Int32)) rfl rfl ⟨Nat.le_refl _, Nat.le_refl _⟩ dX8_fill_42)
  replace hr := ite_t hc hr
  refine r_iload (pc := 10) (j := 4) dX8_fill_10 rfl ?_
  refine r_iconst (pc := 12) (v := (1 : Int32)) dX8_fill_12 rfl ?_
  refine r_bipush (pc := 13) (v := (40 : Int32)) dX8_fill_13 rfl ?_
  refine kX8_in (pc := 15) (hf := rfl) tw_6_65 ⟨nle rfl, nle rfl⟩ (nle rfl) dX8_fill_15 ?_
  refine r_ifB_eq (pc := 18) (tgt := 41) dX8_fill_18 rfl (fun hc => ?_) (fun hc => ?_)
  · replace hr := ite_f hc hr
    refine r_iconst (pc := 41) (v := (-1 : Int32)) dX8_fill_41 rfl ?_
    exact l_osi hr (r_iret (pc := 42) (v := (-1 : Int32)) rfl rfl ⟨Nat.le_refl _, Nat.le_refl _⟩ dX8_fill_42)
  replace hr := ite_t hc hr
  refine r_iload (pc := 21) (j := 5) dX8_fill_21 rfl ?_
  refine r_iconst (pc := 23) (v := (0 : Int32)) dX8_fill_23 rfl ?_
  refine r_bipush (pc := 24) (v := (9 : Int32)) dX8_fill_24 rfl ?_
  refine kX8_in (pc := 26) (hf := rfl) tw_6_65 ⟨nle rfl, nle rfl⟩ (nle rfl) dX8_fill_26 ?_
  refine r_ifB_eq (pc := 29) (tgt := 41) dX8_fill_29 rfl (fun hc => ?_) (fun hc => ?_)
  · replace hr := ite_f hc hr
    refine r_iconst (pc := 41) (v := (-1 : Int32)) dX8_fill_41 rfl ?_
    exact l_osi hr (r_iret (pc := 42) (v := (-1 : Int32)) rfl rfl ⟨Nat.le_refl _, Nat.le_refl _⟩ dX8_fill_42)
  replace hr := ite_t hc hr
  refine r_aload_n (pc := 32) (j := 0) dX8_fill_32 rfl rfl ?_
  refine r_iload_n (pc := 33) (j := 1) dX8_fill_33 rfl rfl ?_
  refine r_iload_n (pc := 34) (j := 2) dX8_fill_34 rfl rfl ?_
  refine kX8_isDot (pc := 35) (hf := rfl) tw_6_173 ⟨nle rfl, nle rfl⟩ (nle rfl) dX8_fill_35 ?_
  refine r_ifB_ne (pc := 38) (tgt := 43) dX8_fill_38 rfl (fun hc => ?_) (fun hc => ?_)
  · replace hr := ite_t hc hr
    refine r_iconst (pc := 43) (v := (0 : Int32)) dX8_fill_43 rfl ?_
    refine r_istore (pc := 44) (ls1 := [(6, .int (0 : Int32)), (0, .ref (ad g 73)), (1, .int a1), (2, .int a2), (3, .int a3), (4, .int a4), (5, .int a5)]) dX8_fill_44 (nle rfl) rfl ?_
    refine r_iload_n (pc := 46) (j := 3) dX8_fill_46 rfl rfl ?_
    refine r_istore (pc := 47) (ls1 := [(7, .int a2), (6, .int (0 : Int32)), (0, .ref (ad g 73)), (1, .int a1), (2, .int a2), (3, .int a3), (4, .int a4), (5, .int a5)]) dX8_fill_47 (nle rfl) rfl ?_
    refine r_pick (ls1 := [(0, .ref (ad g 73)), (1, .int a1), (2, .int a2), (3, .int a3), (4, .int a4), (5, .int a5), (6, .int (0 : Int32)), (7, .int a2)]) [2, 3, 4, 5, 6, 7, 1, 0] rfl ?_
    refine sX8_fill_L49     fuel (0 : Int32) a2 σ hr hw
  replace hr := ite_f hc hr
  refine r_iconst (pc := 41) (v := (-1 : Int32)) dX8_fill_41 rfl ?_
  exact l_osi hr (r_iret (pc := 42) (v := (-1 : Int32)) rfl rfl ⟨Nat.le_refl _, Nat.le_refl _⟩ dX8_fill_42)

theorem kX8_fill {g : GG} {σ : SS} {a1 : Int32} {a2 : Int32} {a3 : Int32} {a4 : Int32} {a5 : Int32} {v : Int32} {σ2 : SS} {M : MM} {F : State → Array Value → List Frame → State → Prop} {pc index : Nat} {ls : List (Nat × Value)} {rest : List Value} (hf : fX8_fill σ a1 a2 a3 a4 a5 = some (v, σ2))  (hl : Cond.methodLink M.1.cls index yX8_fill ∈ lw_gt) (hR : mX8_fill.2.2.2.2.frames + 1 ≤ M.2.2.2.2.frames ∧ 8 + (mX8_fill.2.2.1 + 11) + mX8_fill.2.2.2.2.locals ≤ M.2.2.2.2.locals) (hrest : (rest.map fun v => v.category).sum ≤ 8) (hd : decode M.2.1 pc = .ok (.invokevirtual index, 3)) (k : WT σ2 → RR g M F zF (pc + 3) ls (.int v :: rest) σ2) : RR g M F zF pc ls (.int a5 :: .int a4 :: .int a3 :: .int a2 :: .int a1 :: .ref (ad g 73) :: rest) σ :=
  r_callV (N := mX8_fill) (nn := 5) (o1 := some (.int v)) (sX8_fill hf ) (rfl : shp 73 = (8, 0)) (by decide) (shp_le (rfl : shp 73 = (8, 0)) (nle rfl)) (ci := 8) rfl rfl tw_6_172 tw_1_10 hl tw_6_170 tw_6_171 ⟨by decide, by decide, rfl⟩ hR rfl hrest hd ⟨Nat.zero_le _, Nat.zero_le _⟩ rfl (fun h => k (h rfl))

theorem dX6_at_0 : decode cX6_at 0 = .ok (.aload_n 0, 1) := by decide +kernel
theorem dX6_at_1 : decode cX6_at 1 = .ok (.iload_n 1, 1) := by decide +kernel
theorem dX6_at_2 : decode cX6_at 2 = .ok (.iload_n 2, 1) := by decide +kernel
theorem dX6_at_3 : decode cX6_at 3 = .ok (.invokevirtual 31, 3) := by decide +kernel
theorem dX6_at_6 : decode cX6_at 6 = .ok (.ifCond .eq 19, 3) := by decide +kernel
theorem dX6_at_9 : decode cX6_at 9 = .ok (.aload_n 0, 1) := by decide +kernel
theorem dX6_at_10 : decode cX6_at 10 = .ok (.getfield 9, 3) := by decide +kernel
theorem dX6_at_13 : decode cX6_at 13 = .ok (.iload_n 2, 1) := by decide +kernel
theorem dX6_at_14 : decode cX6_at 14 = .ok (.aload_n 0, 1) := by decide +kernel
theorem dX6_at_15 : decode cX6_at 15 = .ok (.getfield 18, 3) := by decide +kernel
theorem dX6_at_18 : decode cX6_at 18 = .ok (.imul, 1) := by decide +kernel
theorem dX6_at_19 : decode cX6_at 19 = .ok (.iload_n 1, 1) := by decide +kernel
theorem dX6_at_20 : decode cX6_at 20 = .ok (.iadd, 1) := by decide +kernel
theorem dX6_at_21 : decode cX6_at 21 = .ok (.iaload, 1) := by decide +kernel
theorem dX6_at_22 : decode cX6_at 22 = .ok (.goto 4, 3) := by decide +kernel
theorem dX6_at_25 : decode cX6_at 25 = .ok (.iconst 0, 1) := by decide +kernel
theorem dX6_at_26 : decode cX6_at 26 = .ok (.ireturn, 1) := by decide +kernel
def mX6_at : MM := (yX6_at, cX6_at, 3, Option.some Jvm.ClassFile.FieldType.int, { frames := 1, cells := 0, slots := 0, locals := 22 })
def fX6_at (σ0 : SS) (a0 : Nat) (a1 : Int32) (a2 : Int32) : Option Int32 :=
  if (fX6_has σ0 a0 a1 a2) = true then (
    grd (inb ((a2 * (gI σ0 a0 0)) + a1) 1600) <|
    some (gI σ0 (a0 + 1) (Int32.toNatClampNeg ((a2 * (gI σ0 a0 0)) + a1)))
    ) else (
    some (0 : Int32)
    )

set_option maxRecDepth 20000 in
theorem sX6_at {g : GG} {σ0 : SS} {a0 : Nat} {a1 : Int32} {a2 : Int32} {r : Int32} (hr : fX6_at σ0 a0 a1 a2 = some r) (hs0 : shp a0 = (6, 0)) : Ct g mX6_at [.ref (ad g a0), .int a1, .int a2] NF σ0 (some (.int r)) NF σ0 := by
  refine Ct.of (by decide +kernel) (nle rfl) fun hw0 => ?_
  have hw := hw0 rfl
  unfold fX6_at at hr
  change RR g mX6_at (FinR g mX6_at (some (.int r)) NF σ0) zF 0 [(0, .ref (ad g a0)), (1, .int a1), (2, .int a2)] [] σ0
  refine r_aload_n (pc := 0) (j := 0) dX6_at_0 rfl rfl ?_
  refine r_iload_n (pc := 1) (j := 1) dX6_at_1 rfl rfl ?_
  refine r_iload_n (pc := 2) (j := 2) dX6_at_2 rfl rfl ?_
  refine kX6_has (pc := 3) (hf := rfl) hs0 tw_3_116 ⟨nle rfl, nle rfl⟩ (nle rfl) dX6_at_3 ?_
  refine r_ifB_eq (pc := 6) (tgt := 25) dX6_at_6 rfl (fun hc => ?_) (fun hc => ?_)
  · replace hr := ite_f hc hr
    refine r_iconst (pc := 25) (v := (0 : Int32)) dX6_at_25 rfl ?_
    exact l_opi hr (r_iret (pc := 26) (v := (0 : Int32)) rfl rfl ⟨Nat.le_refl _, Nat.le_refl _⟩ dX6_at_26)
  replace hr := ite_t hc hr
  refine r_aload_n (pc := 9) (j := 0) dX6_at_9 rfl rfl ?_
  refine gf6_2 (pc := 10) tw_1_39 hw hs0 dX6_at_10 ?_
  refine r_iload_n (pc := 13) (j := 2) dX6_at_13 rfl rfl ?_
  refine r_aload_n (pc := 14) (j := 0) dX6_at_14 rfl rfl ?_
  refine gf6_0 (pc := 15) tw_1_32 hs0 dX6_at_15 ?_
  refine r_imul (pc := 18) dX6_at_18 ?_
  refine r_iload_n (pc := 19) (j := 1) dX6_at_19 rfl rfl ?_
  refine r_iadd (pc := 20) dX6_at_20 ?_
  obtain ⟨h1, hr⟩ := grd_inv hr
  refine x_iald (pc := 21) (k := (Int32.toNatClampNeg ((a2 * (gI σ0 a0 0)) + a1))) (sh6_2 hs0) h1 rfl dX6_at_21 ?_
  refine r_goto (pc := 22) (tgt := 26) dX6_at_22 rfl ?_
  exact l_opi hr (r_iret (pc := 26) (v := (gI σ0 (a0 + 1) (Int32.toNatClampNeg ((a2 * (gI σ0 a0 0)) + a1)))) rfl rfl ⟨Nat.le_refl _, Nat.le_refl _⟩ dX6_at_26)

theorem kX6_at {g : GG} {σ0 : SS} {a0 : Nat} {a1 : Int32} {a2 : Int32} {v : Int32} {M : MM} {F : State → Array Value → List Frame → State → Prop} {pc index : Nat} {ls : List (Nat × Value)} {rest : List Value} (hf : fX6_at σ0 a0 a1 a2 = some v) (hs0 : shp a0 = (6, 0)) (hl : Cond.methodLink M.1.cls index yX6_at ∈ lw_gt) (hR : mX6_at.2.2.2.2.frames + 1 ≤ M.2.2.2.2.frames ∧ 8 + (mX6_at.2.2.1 + 11) + mX6_at.2.2.2.2.locals ≤ M.2.2.2.2.locals) (hrest : (rest.map fun v => v.category).sum ≤ 8) (hd : decode M.2.1 pc = .ok (.invokevirtual index, 3)) (k : RR g M F zF (pc + 3) ls (.int v :: rest) σ0) : RR g M F zF pc ls (.int a2 :: .int a1 :: .ref (ad g a0) :: rest) σ0 :=
  r_callV (N := mX6_at) (nn := 2) (o1 := some (.int v)) (sX6_at hf hs0) hs0 (by decide) (shp_le hs0 (nle rfl)) (ci := 6) rfl rfl tw_3_136 tw_1_2 hl tw_3_134 tw_3_135 ⟨by decide, by decide, rfl⟩ hR rfl hrest hd ⟨Nat.zero_le _, Nat.zero_le _⟩ rfl (fun h => k)

theorem dX7_dot_0 : decode cX7_dot 0 = .ok (.aload_n 0, 1) := by decide +kernel
theorem dX7_dot_1 : decode cX7_dot 1 = .ok (.getfield 18, 3) := by decide +kernel
theorem dX7_dot_4 : decode cX7_dot 4 = .ok (.iload_n 1, 1) := by decide +kernel
theorem dX7_dot_5 : decode cX7_dot 5 = .ok (.iload_n 2, 1) := by decide +kernel
theorem dX7_dot_6 : decode cX7_dot 6 = .ok (.invokevirtual 164, 3) := by decide +kernel
theorem dX7_dot_9 : decode cX7_dot 9 = .ok (.ifCond .eq 15, 3) := by decide +kernel
theorem dX7_dot_12 : decode cX7_dot 12 = .ok (.aload_n 0, 1) := by decide +kernel
theorem dX7_dot_13 : decode cX7_dot 13 = .ok (.getfield 18, 3) := by decide +kernel
theorem dX7_dot_16 : decode cX7_dot 16 = .ok (.iload_n 1, 1) := by decide +kernel
theorem dX7_dot_17 : decode cX7_dot 17 = .ok (.iload_n 2, 1) := by decide +kernel
theorem dX7_dot_18 : decode cX7_dot 18 = .ok (.invokevirtual 173, 3) := by decide +kernel
theorem dX7_dot_21 : decode cX7_dot 21 = .ok (.goto 4, 3) := by decide +kernel
theorem dX7_dot_24 : decode cX7_dot 24 = .ok (.iconst (-1), 1) := by decide +kernel
theorem dX7_dot_25 : decode cX7_dot 25 = .ok (.ireturn, 1) := by decide +kernel
def mX7_dot : MM := (yX7_dot, cX7_dot, 3, Option.some Jvm.ClassFile.FieldType.int, { frames := 2, cells := 0, slots := 0, locals := 44 })
def fX7_dot (σ0 : SS) (a1 : Int32) (a2 : Int32) : Option Int32 :=
  if (fX6_has σ0 (gR σ0 1 2) a1 a2) = true then (
    bnd1 (fX6_at σ0 (gR σ0 1 2) a1 a2) fun v1 =>
    some v1
    ) else (
    some (-1 : Int32)
    )

set_option maxRecDepth 20000 in
theorem sX7_dot {g : GG} {σ0 : SS} {a1 : Int32} {a2 : Int32} {r : Int32} (hr : fX7_dot σ0 a1 a2 = some r)  : Ct g mX7_dot [.ref (ad g 1), .int a1, .int a2] NF σ0 (some (.int r)) NF σ0 := by
  refine Ct.of (by decide +kernel) (nle rfl) fun hw0 => ?_
  have hw := hw0 rfl
  unfold fX7_dot at hr
  change RR g mX7_dot (FinR g mX7_dot (some (.int r)) NF σ0) zF 0 [(0, .ref (ad g 1)), (1, .int a1), (2, .int a2)] [] σ0
  refine r_aload_n (pc := 0) (j := 0) dX7_dot_0 rfl rfl ?_
  refine gf7_2 (pc := 1) tw_2_111 hw dX7_dot_1 ?_
  refine r_iload_n (pc := 4) (j := 1) dX7_dot_4 rfl rfl ?_
  refine r_iload_n (pc := 5) (j := 2) dX7_dot_5 rfl rfl ?_
  refine kX6_has (pc := 6) (hf := rfl) (wt_sc hw).1 tw_3_127 ⟨nle rfl, nle rfl⟩ (nle rfl) dX7_dot_6 ?_
  refine r_ifB_eq (pc := 9) (tgt := 24) dX7_dot_9 rfl (fun hc => ?_) (fun hc => ?_)
  · replace hr := ite_f hc hr
    refine r_iconst (pc := 24) (v := (-1 : Int32)) dX7_dot_24 rfl ?_
    exact l_opi hr (r_iret (pc := 25) (v := (-1 : Int32)) rfl rfl ⟨Nat.le_refl _, Nat.le_refl _⟩ dX7_dot_25)
  replace hr := ite_t hc hr
  refine r_aload_n (pc := 12) (j := 0) dX7_dot_12 rfl rfl ?_
  refine gf7_2 (pc := 13) tw_2_111 hw dX7_dot_13 ?_
  refine r_iload_n (pc := 16) (j := 1) dX7_dot_16 rfl rfl ?_
  refine r_iload_n (pc := 17) (j := 2) dX7_dot_17 rfl rfl ?_
  obtain ⟨v1, hv1, hr⟩ := bnd1_inv hr
  refine kX6_at (pc := 18) hv1 (wt_sc hw).1 tw_3_133 ⟨nle rfl, nle rfl⟩ (nle rfl) dX7_dot_18 ?_
  refine r_goto (pc := 21) (tgt := 25) dX7_dot_21 rfl ?_
  exact l_opi hr (r_iret (pc := 25) (v := v1) rfl rfl ⟨Nat.le_refl _, Nat.le_refl _⟩ dX7_dot_25)

theorem kX7_dot {g : GG} {σ0 : SS} {a1 : Int32} {a2 : Int32} {v : Int32} {M : MM} {F : State → Array Value → List Frame → State → Prop} {pc index : Nat} {ls : List (Nat × Value)} {rest : List Value} (hf : fX7_dot σ0 a1 a2 = some v)  (hl : Cond.methodLink M.1.cls index yX7_dot ∈ lw_gt) (hR : mX7_dot.2.2.2.2.frames + 1 ≤ M.2.2.2.2.frames ∧ 8 + (mX7_dot.2.2.1 + 11) + mX7_dot.2.2.2.2.locals ≤ M.2.2.2.2.locals) (hrest : (rest.map fun v => v.category).sum ≤ 8) (hd : decode M.2.1 pc = .ok (.invokevirtual index, 3)) (k : RR g M F zF (pc + 3) ls (.int v :: rest) σ0) : RR g M F zF pc ls (.int a2 :: .int a1 :: .ref (ad g 1) :: rest) σ0 :=
  r_callV (N := mX7_dot) (nn := 2) (o1 := some (.int v)) (sX7_dot hf ) (rfl : shp 1 = (7, 0)) (by decide) (shp_le (rfl : shp 1 = (7, 0)) (nle rfl)) (ci := 7) rfl rfl tw_3_132 tw_1_1 hl tw_3_130 tw_3_131 ⟨by decide, by decide, rfl⟩ hR rfl hrest hd ⟨Nat.zero_le _, Nat.zero_le _⟩ rfl (fun h => k)

theorem dX8_dot_0 : decode cX8_dot 0 = .ok (.aload_n 0, 1) := by decide +kernel
theorem dX8_dot_1 : decode cX8_dot 1 = .ok (.iload_n 1, 1) := by decide +kernel
theorem dX8_dot_2 : decode cX8_dot 2 = .ok (.iload_n 2, 1) := by decide +kernel
theorem dX8_dot_3 : decode cX8_dot 3 = .ok (.invokevirtual 281, 3) := by decide +kernel
theorem dX8_dot_6 : decode cX8_dot 6 = .ok (.ifCond .eq 19, 3) := by decide +kernel
theorem dX8_dot_9 : decode cX8_dot 9 = .ok (.aload_n 0, 1) := by decide +kernel
theorem dX8_dot_10 : decode cX8_dot 10 = .ok (.getfield 38, 3) := by decide +kernel
theorem dX8_dot_13 : decode cX8_dot 13 = .ok (.aload_n 0, 1) := by decide +kernel
theorem dX8_dot_14 : decode cX8_dot 14 = .ok (.getfield 132, 3) := by decide +kernel
theorem dX8_dot_17 : decode cX8_dot 17 = .ok (.iload_n 2, 1) := by decide +kernel
theorem dX8_dot_18 : decode cX8_dot 18 = .ok (.imul, 1) := by decide +kernel
theorem dX8_dot_19 : decode cX8_dot 19 = .ok (.iload_n 1, 1) := by decide +kernel
theorem dX8_dot_20 : decode cX8_dot 20 = .ok (.iadd, 1) := by decide +kernel
theorem dX8_dot_21 : decode cX8_dot 21 = .ok (.iaload, 1) := by decide +kernel
theorem dX8_dot_22 : decode cX8_dot 22 = .ok (.goto 4, 3) := by decide +kernel
theorem dX8_dot_25 : decode cX8_dot 25 = .ok (.iconst (-1), 1) := by decide +kernel
theorem dX8_dot_26 : decode cX8_dot 26 = .ok (.ireturn, 1) := by decide +kernel
def mX8_dot : MM := (yX8_dot, cX8_dot, 3, Option.some Jvm.ClassFile.FieldType.int, { frames := 2, cells := 0, slots := 0, locals := 44 })
def fX8_dot (σ0 : SS) (a1 : Int32) (a2 : Int32) : Option Int32 :=
  if (fX8_isDot σ0 a1 a2) = true then (
    grd (inb (((gI σ0 73 29) * a2) + a1) 1600) <|
    some (gI σ0 83 (Int32.toNatClampNeg (((gI σ0 73 29) * a2) + a1)))
    ) else (
    some (-1 : Int32)
    )

set_option maxRecDepth 20000 in
theorem sX8_dot {g : GG} {σ0 : SS} {a1 : Int32} {a2 : Int32} {r : Int32} (hr : fX8_dot σ0 a1 a2 = some r)  : Ct g mX8_dot [.ref (ad g 73), .int a1, .int a2] NF σ0 (some (.int r)) NF σ0 := by
  refine Ct.of (by decide +kernel) (nle rfl) fun hw0 => ?_
  have hw := hw0 rfl
  unfold fX8_dot at hr
  change RR g mX8_dot (FinR g mX8_dot (some (.int r)) NF σ0) zF 0 [(0, .ref (ad g 73)), (1, .int a1), (2, .int a2)] [] σ0
  refine r_aload_n (pc := 0) (j := 0) dX8_dot_0 rfl rfl ?_
  refine r_iload_n (pc := 1) (j := 1) dX8_dot_1 rfl rfl ?_
  refine r_iload_n (pc := 2) (j := 2) dX8_dot_2 rfl rfl ?_
  refine kX8_isDot (pc := 3) (hf := rfl) tw_6_173 ⟨nle rfl, nle rfl⟩ (nle rfl) dX8_dot_3 ?_
  refine r_ifB_eq (pc := 6) (tgt := 25) dX8_dot_6 rfl (fun hc => ?_) (fun hc => ?_)
  · replace hr := ite_f hc hr
    refine r_iconst (pc := 25) (v := (-1 : Int32)) dX8_dot_25 rfl ?_
    exact l_opi hr (r_iret (pc := 26) (v := (-1 : Int32)) rfl rfl ⟨Nat.le_refl _, Nat.le_refl _⟩ dX8_dot_26)
  replace hr := ite_t hc hr
  refine r_aload_n (pc := 9) (j := 0) dX8_dot_9 rfl rfl ?_
  refine gf8_21 (pc := 10) tw_5_115 hw dX8_dot_10 ?_
  refine r_aload_n (pc := 13) (j := 0) dX8_dot_13 rfl rfl ?_
  refine gf8_29 (pc := 14) tw_5_123 rfl dX8_dot_14 ?_
  refine r_iload_n (pc := 17) (j := 2) dX8_dot_17 rfl rfl ?_
  refine r_imul (pc := 18) dX8_dot_18 ?_
  refine r_iload_n (pc := 19) (j := 1) dX8_dot_19 rfl rfl ?_
  refine r_iadd (pc := 20) dX8_dot_20 ?_
  obtain ⟨h1, hr⟩ := grd_inv hr
  refine x_iald (pc := 21) (k := (Int32.toNatClampNeg (((gI σ0 73 29) * a2) + a1))) rfl h1 rfl dX8_dot_21 ?_
  refine r_goto (pc := 22) (tgt := 26) dX8_dot_22 rfl ?_
  exact l_opi hr (r_iret (pc := 26) (v := (gI σ0 83 (Int32.toNatClampNeg (((gI σ0 73 29) * a2) + a1)))) rfl rfl ⟨Nat.le_refl _, Nat.le_refl _⟩ dX8_dot_26)

theorem kX8_dot {g : GG} {σ0 : SS} {a1 : Int32} {a2 : Int32} {v : Int32} {M : MM} {F : State → Array Value → List Frame → State → Prop} {pc index : Nat} {ls : List (Nat × Value)} {rest : List Value} (hf : fX8_dot σ0 a1 a2 = some v)  (hl : Cond.methodLink M.1.cls index yX8_dot ∈ lw_gt) (hR : mX8_dot.2.2.2.2.frames + 1 ≤ M.2.2.2.2.frames ∧ 8 + (mX8_dot.2.2.1 + 11) + mX8_dot.2.2.2.2.locals ≤ M.2.2.2.2.locals) (hrest : (rest.map fun v => v.category).sum ≤ 8) (hd : decode M.2.1 pc = .ok (.invokevirtual index, 3)) (k : RR g M F zF (pc + 3) ls (.int v :: rest) σ0) : RR g M F zF pc ls (.int a2 :: .int a1 :: .ref (ad g 73) :: rest) σ0 :=
  r_callV (N := mX8_dot) (nn := 2) (o1 := some (.int v)) (sX8_dot hf ) (rfl : shp 73 = (8, 0)) (by decide) (shp_le (rfl : shp 73 = (8, 0)) (nle rfl)) (ci := 8) rfl rfl tw_6_180 tw_1_10 hl tw_6_178 tw_6_179 ⟨by decide, by decide, rfl⟩ hR rfl hrest hd ⟨Nat.zero_le _, Nat.zero_le _⟩ rfl (fun h => k)

theorem dX7_drawBelow_0 : decode cX7_drawBelow 0 = .ok (.aload_n 0, 1) := by decide +kernel
theorem dX7_drawBelow_1 : decode cX7_drawBelow 1 = .ok (.sipush 25173, 3) := by decide +kernel
theorem dX7_drawBelow_4 : decode cX7_drawBelow 4 = .ok (.aload_n 0, 1) := by decide +kernel
theorem dX7_drawBelow_5 : decode cX7_drawBelow 5 = .ok (.getfield 46, 3) := by decide +kernel
theorem dX7_drawBelow_8 : decode cX7_drawBelow 8 = .ok (.imul, 1) := by decide +kernel
theorem dX7_drawBelow_9 : decode cX7_drawBelow 9 = .ok (.sipush 13849, 3) := by decide +kernel
theorem dX7_drawBelow_12 : decode cX7_drawBelow 12 = .ok (.iadd, 1) := by decide +kernel
theorem dX7_drawBelow_13 : decode cX7_drawBelow 13 = .ok (.ldc 182, 2) := by decide +kernel
theorem dX7_drawBelow_15 : decode cX7_drawBelow 15 = .ok (.iand, 1) := by decide +kernel
theorem dX7_drawBelow_16 : decode cX7_drawBelow 16 = .ok (.putfield 46, 3) := by decide +kernel
theorem dX7_drawBelow_19 : decode cX7_drawBelow 19 = .ok (.iload_n 1, 1) := by decide +kernel
theorem dX7_drawBelow_20 : decode cX7_drawBelow 20 = .ok (.iconst 1, 1) := by decide +kernel
theorem dX7_drawBelow_21 : decode cX7_drawBelow 21 = .ok (.if_icmp .ge 7, 3) := by decide +kernel
theorem dX7_drawBelow_24 : decode cX7_drawBelow 24 = .ok (.iconst 0, 1) := by decide +kernel
theorem dX7_drawBelow_25 : decode cX7_drawBelow 25 = .ok (.goto 11, 3) := by decide +kernel
theorem dX7_drawBelow_28 : decode cX7_drawBelow 28 = .ok (.aload_n 0, 1) := by decide +kernel
theorem dX7_drawBelow_29 : decode cX7_drawBelow 29 = .ok (.getfield 46, 3) := by decide +kernel
theorem dX7_drawBelow_32 : decode cX7_drawBelow 32 = .ok (.iconst 4, 1) := by decide +kernel
theorem dX7_drawBelow_33 : decode cX7_drawBelow 33 = .ok (.idiv, 1) := by decide +kernel
theorem dX7_drawBelow_34 : decode cX7_drawBelow 34 = .ok (.iload_n 1, 1) := by decide +kernel
theorem dX7_drawBelow_35 : decode cX7_drawBelow 35 = .ok (.irem, 1) := by decide +kernel
theorem dX7_drawBelow_36 : decode cX7_drawBelow 36 = .ok (.ireturn, 1) := by decide +kernel
def mX7_drawBelow : MM := (yX7_drawBelow, cX7_drawBelow, 2, Option.some Jvm.ClassFile.FieldType.int, { frames := 0, cells := 0, slots := 0, locals := 0 })
def fX7_drawBelow (σ : SS) (a1 : Int32) : Option (Int32 × SS) :=
  vthen (sI σ 1 8 ((((25173 : Int32) * (gI σ 1 8)) + (13849 : Int32)) &&& (65535 : Int32))) fun σ1 =>
  if (1 : Int32) ≤ a1 then (
    grd (nz a1) <|
    some ((irm ((gI σ1 1 8) / (4 : Int32)) a1), σ1)
    ) else (
    some ((0 : Int32), σ1)
    )

set_option maxRecDepth 20000 in
theorem sX7_drawBelow {g : GG} {σ : SS} {a1 : Int32} {r : Int32 × SS} (hr : fX7_drawBelow σ a1 = some r)  : Ct g mX7_drawBelow [.ref (ad g 1), .int a1] NF σ (some (.int r.1)) NF r.2 := by
  refine Ct.of (by decide +kernel) (nle rfl) fun hw0 => ?_
  have hw := hw0 rfl
  unfold fX7_drawBelow at hr
  change RR g mX7_drawBelow (FinR g mX7_drawBelow (some (.int r.1)) NF r.2) zF 0 [(0, .ref (ad g 1)), (1, .int a1)] [] σ
  refine r_aload_n (pc := 0) (j := 0) dX7_drawBelow_0 rfl rfl ?_
  refine r_sipush (pc := 1) (v := (25173 : Int32)) dX7_drawBelow_1 rfl ?_
  refine r_aload_n (pc := 4) (j := 0) dX7_drawBelow_4 rfl rfl ?_
  refine gf7_8 (pc := 5) tw_2_117 rfl dX7_drawBelow_5 ?_
  refine r_imul (pc := 8) dX7_drawBelow_8 ?_
  refine r_sipush (pc := 9) (v := (13849 : Int32)) dX7_drawBelow_9 rfl ?_
  refine r_iadd (pc := 12) dX7_drawBelow_12 ?_
  refine r_ldc (pc := 13) (v := (65535 : Int32)) dX7_drawBelow_13 tw_3_145 ?_
  refine r_iand (pc := 15) dX7_drawBelow_15 ?_
  refine pf7_8 (pc := 16) tw_2_117 rfl dX7_drawBelow_16 fun σ1 eσ1 => ?_
  replace hr := vthen_inv hr σ1 eσ1
  have hσ1 := wtI eσ1 hw
  refine r_iload_n (pc := 19) (j := 1) dX7_drawBelow_19 rfl rfl ?_
  refine r_iconst (pc := 20) (v := (1 : Int32)) dX7_drawBelow_20 rfl ?_
  refine r_icmp_ge (pc := 21) (tgt := 28) dX7_drawBelow_21 rfl (fun hc => ?_) (fun hc => ?_)
  · replace hr := ite_t hc hr
    refine r_aload_n (pc := 28) (j := 0) dX7_drawBelow_28 rfl rfl ?_
    refine gf7_8 (pc := 29) tw_2_117 rfl dX7_drawBelow_29 ?_
    refine r_iconst (pc := 32) (v := (4 : Int32)) dX7_drawBelow_32 rfl ?_
    refine r_idiv (pc := 33) dX7_drawBelow_33 (by decide) ?_
    refine r_iload_n (pc := 34) (j := 1) dX7_drawBelow_34 rfl rfl ?_
    obtain ⟨h2, hr⟩ := grd_inv hr
    refine r_irem (pc := 35) dX7_drawBelow_35 (nz_ne h2) ?_
    exact l_osi hr (r_iret (pc := 36) (v := (irm ((gI σ1 1 8) / (4 : Int32)) a1)) rfl rfl ⟨Nat.le_refl _, Nat.le_refl _⟩ dX7_drawBelow_36)
  replace hr := ite_f hc hr
  refine r_iconst (pc := 24) (v := (0 : Int32)) dX7_drawBelow_24 rfl ?_
  refine r_goto (pc := 25) (tgt := 36) dX7_drawBelow_25 rfl ?_
  exact l_osi hr (r_iret (pc := 36) (v := (0 : Int32)) rfl rfl ⟨Nat.le_refl _, Nat.le_refl _⟩ dX7_drawBelow_36)

theorem kX7_drawBelow {g : GG} {σ : SS} {a1 : Int32} {v : Int32} {σ2 : SS} {M : MM} {F : State → Array Value → List Frame → State → Prop} {pc index : Nat} {ls : List (Nat × Value)} {rest : List Value} (hf : fX7_drawBelow σ a1 = some (v, σ2))  (hl : Cond.methodLink M.1.cls index yX7_drawBelow ∈ lw_gt) (hR : mX7_drawBelow.2.2.2.2.frames + 1 ≤ M.2.2.2.2.frames ∧ 8 + (mX7_drawBelow.2.2.1 + 11) + mX7_drawBelow.2.2.2.2.locals ≤ M.2.2.2.2.locals) (hrest : (rest.map fun v => v.category).sum ≤ 8) (hd : decode M.2.1 pc = .ok (.invokevirtual index, 3)) (k : WT σ2 → RR g M F zF (pc + 3) ls (.int v :: rest) σ2) : RR g M F zF pc ls (.int a1 :: .ref (ad g 1) :: rest) σ :=
  r_callV (N := mX7_drawBelow) (nn := 1) (o1 := some (.int v)) (sX7_drawBelow hf ) (rfl : shp 1 = (7, 0)) (by decide) (shp_le (rfl : shp 1 = (7, 0)) (nle rfl)) (ci := 7) rfl rfl tw_3_144 tw_1_1 hl tw_3_143 tp_16 ⟨by decide, by decide, rfl⟩ hR rfl hrest hd ⟨Nat.zero_le _, Nat.zero_le _⟩ rfl (fun h => k (h rfl))

theorem dX7_noise_0 : decode cX7_noise 0 = .ok (.iload_n 1, 1) := by decide +kernel
theorem dX7_noise_1 : decode cX7_noise 1 = .ok (.ifCond .lt 10, 3) := by decide +kernel
theorem dX7_noise_4 : decode cX7_noise 4 = .ok (.iload_n 1, 1) := by decide +kernel
theorem dX7_noise_5 : decode cX7_noise 5 = .ok (.sipush 500, 3) := by decide +kernel
theorem dX7_noise_8 : decode cX7_noise 8 = .ok (.if_icmp .le 5, 3) := by decide +kernel
theorem dX7_noise_11 : decode cX7_noise 11 = .ok (.iconst (-1), 1) := by decide +kernel
theorem dX7_noise_12 : decode cX7_noise 12 = .ok (.ireturn, 1) := by decide +kernel
theorem dX7_noise_13 : decode cX7_noise 13 = .ok (.iconst 0, 1) := by decide +kernel
theorem dX7_noise_14 : decode cX7_noise 14 = .ok (.istore_n 2, 1) := by decide +kernel
theorem dX7_noise_15 : decode cX7_noise 15 = .ok (.iconst 0, 1) := by decide +kernel
theorem dX7_noise_16 : decode cX7_noise 16 = .ok (.istore_n 3, 1) := by decide +kernel
theorem dX7_noise_17 : decode cX7_noise 17 = .ok (.iload_n 3, 1) := by decide +kernel
theorem dX7_noise_18 : decode cX7_noise 18 = .ok (.iload_n 1, 1) := by decide +kernel
theorem dX7_noise_19 : decode cX7_noise 19 = .ok (.if_icmp .ge 94, 3) := by decide +kernel
theorem dX7_noise_22 : decode cX7_noise 22 = .ok (.aload_n 0, 1) := by decide +kernel
theorem dX7_noise_23 : decode cX7_noise 23 = .ok (.aload_n 0, 1) := by decide +kernel
theorem dX7_noise_24 : decode cX7_noise 24 = .ok (.getfield 18, 3) := by decide +kernel
theorem dX7_noise_27 : decode cX7_noise 27 = .ok (.getfield 100, 3) := by decide +kernel
theorem dX7_noise_30 : decode cX7_noise 30 = .ok (.invokevirtual 176, 3) := by decide +kernel
theorem dX7_noise_33 : decode cX7_noise 33 = .ok (.istore 4, 2) := by decide +kernel
theorem dX7_noise_35 : decode cX7_noise 35 = .ok (.aload_n 0, 1) := by decide +kernel
theorem dX7_noise_36 : decode cX7_noise 36 = .ok (.aload_n 0, 1) := by decide +kernel
theorem dX7_noise_37 : decode cX7_noise 37 = .ok (.getfield 18, 3) := by decide +kernel
theorem dX7_noise_40 : decode cX7_noise 40 = .ok (.getfield 103, 3) := by decide +kernel
theorem dX7_noise_43 : decode cX7_noise 43 = .ok (.invokevirtual 176, 3) := by decide +kernel
theorem dX7_noise_46 : decode cX7_noise 46 = .ok (.istore 5, 2) := by decide +kernel
theorem dX7_noise_48 : decode cX7_noise 48 = .ok (.aload_n 0, 1) := by decide +kernel
theorem dX7_noise_49 : decode cX7_noise 49 = .ok (.iconst 3, 1) := by decide +kernel
theorem dX7_noise_50 : decode cX7_noise 50 = .ok (.invokevirtual 176, 3) := by decide +kernel
theorem dX7_noise_53 : decode cX7_noise 53 = .ok (.ifCond .ne 7, 3) := by decide +kernel
theorem dX7_noise_56 : decode cX7_noise 56 = .ok (.iconst (-1), 1) := by decide +kernel
theorem dX7_noise_57 : decode cX7_noise 57 = .ok (.goto 4, 3) := by decide +kernel
theorem dX7_noise_60 : decode cX7_noise 60 = .ok (.iconst 1, 1) := by decide +kernel
theorem dX7_noise_61 : decode cX7_noise 61 = .ok (.istore 6, 2) := by decide +kernel
theorem dX7_noise_63 : decode cX7_noise 63 = .ok (.iconst 0, 1) := by decide +kernel
theorem dX7_noise_64 : decode cX7_noise 64 = .ok (.bipush 9, 2) := by decide +kernel
theorem dX7_noise_66 : decode cX7_noise 66 = .ok (.aload_n 0, 1) := by decide +kernel
theorem dX7_noise_67 : decode cX7_noise 67 = .ok (.getfield 18, 3) := by decide +kernel
theorem dX7_noise_70 : decode cX7_noise 70 = .ok (.iload 4, 2) := by decide +kernel
theorem dX7_noise_72 : decode cX7_noise 72 = .ok (.iload 5, 2) := by decide +kernel
theorem dX7_noise_74 : decode cX7_noise 74 = .ok (.invokevirtual 173, 3) := by decide +kernel
theorem dX7_noise_77 : decode cX7_noise 77 = .ok (.iload 6, 2) := by decide +kernel
theorem dX7_noise_79 : decode cX7_noise 79 = .ok (.iadd, 1) := by decide +kernel
theorem dX7_noise_80 : decode cX7_noise 80 = .ok (.invokestatic 167, 3) := by decide +kernel
theorem dX7_noise_83 : decode cX7_noise 83 = .ok (.invokestatic 179, 3) := by decide +kernel
theorem dX7_noise_86 : decode cX7_noise 86 = .ok (.istore 7, 2) := by decide +kernel
theorem dX7_noise_88 : decode cX7_noise 88 = .ok (.aload_n 0, 1) := by decide +kernel
theorem dX7_noise_89 : decode cX7_noise 89 = .ok (.getfield 18, 3) := by decide +kernel
theorem dX7_noise_92 : decode cX7_noise 92 = .ok (.iload 4, 2) := by decide +kernel
theorem dX7_noise_94 : decode cX7_noise 94 = .ok (.iload 5, 2) := by decide +kernel
theorem dX7_noise_96 : decode cX7_noise 96 = .ok (.iload 7, 2) := by decide +kernel
theorem dX7_noise_98 : decode cX7_noise 98 = .ok (.invokevirtual 157, 3) := by decide +kernel
theorem dX7_noise_101 : decode cX7_noise 101 = .ok (.ifCond .eq 6, 3) := by decide +kernel
theorem dX7_noise_104 : decode cX7_noise 104 = .ok (.iinc 2 1, 3) := by decide +kernel
theorem dX7_noise_107 : decode cX7_noise 107 = .ok (.iinc 3 1, 3) := by decide +kernel
theorem dX7_noise_110 : decode cX7_noise 110 = .ok (.goto (-93), 3) := by decide +kernel
theorem dX7_noise_113 : decode cX7_noise 113 = .ok (.iload_n 2, 1) := by decide +kernel
theorem dX7_noise_114 : decode cX7_noise 114 = .ok (.ireturn, 1) := by decide +kernel
def mX7_noise : MM := (yX7_noise, cX7_noise, 8, Option.some Jvm.ClassFile.FieldType.int, { frames := 2, cells := 0, slots := 0, locals := 47 })
def X7_noise_L17 (u1_ : Int32)  : Nat → Int32 → Int32 → SS → Option (Int32 × SS) :=
  lp (fun _ _ _ => none) fun rec v2_ v3_ σ_ =>
    if u1_ ≤ v3_ then (
      some (v2_, σ_)
      ) else (
      bnd (fX7_drawBelow σ_ (gI σ_ (gR σ_ 1 2) 0)) fun v1 σ4 =>
      bnd (fX7_drawBelow σ4 (gI σ4 (gR σ4 1 2) 1)) fun v5 σ8 =>
      bnd (fX7_drawBelow σ8 (3 : Int32)) fun v9 σ12 =>
      vthen (fun (s13 : Int32) =>
        bnd1 (fX6_at σ12 (gR σ12 1 2) v1 v5) fun v14 =>
        vthen (fJ9_max_7cf53 σ12 (0 : Int32) (fJ9_min_7cf53 σ12 (9 : Int32) (v14 + s13))) fun v17 =>
        bnd (fX6_put σ12 (gR σ12 1 2) v1 v5 v17) fun b19 σ21 =>
        if b19 = true then (
          rec (v2_ + (1 : Int32)) (v3_ + (1 : Int32)) σ21
          ) else (
          rec v2_ (v3_ + (1 : Int32)) σ21
          )
        ) fun j61 =>
      if v9 = 0 then (
        j61 (-1 : Int32)
        ) else (
        j61 (1 : Int32)
        )
      )

def fX7_noise (σ : SS) (a1 : Int32) : Option (Int32 × SS) :=
  if a1 < 0 then (
    some ((-1 : Int32), σ)
    ) else (
    if a1 ≤ (500 : Int32) then (
      X7_noise_L17 a1
      fuel (0 : Int32) (0 : Int32) σ
      ) else (
      some ((-1 : Int32), σ)
      )
    )

set_option maxRecDepth 20000 in
theorem sX7_noise_L17 {g : GG} {r : Int32 × SS} {u1_ : Int32}  
    (n : Nat) : ∀ (v2_ : Int32) (v3_ : Int32) (σ_ : SS), X7_noise_L17 u1_ n v2_ v3_ σ_ = some r → WT σ_ → RR g mX7_noise (FinR g mX7_noise (some (.int r.1)) NF r.2) zF 17 [(0, .ref (ad g 1)), (1, .int u1_), (2, .int v2_), (3, .int v3_)] [] σ_ := by
  unfold X7_noise_L17
  refine lp_ind (P := fun (rec : Int32 → Int32 → SS → Option (Int32 × SS)) => ∀ (v2_ : Int32) (v3_ : Int32) (σ_ : SS), rec v2_ v3_ σ_ = some r → WT σ_ → RR g mX7_noise (FinR g mX7_noise (some (.int r.1)) NF r.2) zF 17 [(0, .ref (ad g 1)), (1, .int u1_), (2, .int v2_), (3, .int v3_)] [] σ_) ?_ ?_ n
  · intro v2_ v3_ σ_ hr; cases hr
  intro rec ih v2_ v3_ σ_ hr hw_
  refine r_iload_n (pc := 17) (j := 3) dX7_noise_17 rfl rfl ?_
  refine r_iload_n (pc := 18) (j := 1) dX7_noise_18 rfl rfl ?_
  refine r_icmp_ge (pc := 19) (tgt := 113) dX7_noise_19 rfl (fun hc => ?_) (fun hc => ?_)
  · replace hr := ite_t hc hr
    refine r_iload_n (pc := 113) (j := 2) dX7_noise_113 rfl rfl ?_
    exact l_osi hr (r_iret (pc := 114) (v := v2_) rfl rfl ⟨Nat.le_refl _, Nat.le_refl _⟩ dX7_noise_114)
  replace hr := ite_f hc hr
  refine r_aload_n (pc := 22) (j := 0) dX7_noise_22 rfl rfl ?_
  refine r_aload_n (pc := 23) (j := 0) dX7_noise_23 rfl rfl ?_
  refine gf7_2 (pc := 24) tw_2_111 hw_ dX7_noise_24 ?_
  refine gf6_0 (pc := 27) tw_1_35 (wt_sc hw_).1 dX7_noise_27 ?_
  obtain ⟨v1, σ4, eσ4, hr⟩ := bnd_inv hr
  refine kX7_drawBelow (pc := 30) eσ4 tw_3_141 ⟨nle rfl, nle rfl⟩ (nle rfl) dX7_noise_30 fun hσ4 => ?_
  refine r_istore (pc := 33) (ls1 := [(4, .int v1), (0, .ref (ad g 1)), (1, .int u1_), (2, .int v2_), (3, .int v3_)]) dX7_noise_33 (nle rfl) rfl ?_
  refine r_aload_n (pc := 35) (j := 1) dX7_noise_35 rfl rfl ?_
  refine r_aload_n (pc := 36) (j := 1) dX7_noise_36 rfl rfl ?_
  refine gf7_2 (pc := 37) tw_2_111 hσ4 dX7_noise_37 ?_
  refine gf6_1 (pc := 40) tw_1_38 (wt_sc hσ4).1 dX7_noise_40 ?_
  obtain ⟨v5, σ8, eσ8, hr⟩ := bnd_inv hr
  refine kX7_drawBelow (pc := 43) eσ8 tw_3_141 ⟨nle rfl, nle rfl⟩ (nle rfl) dX7_noise_43 fun hσ8 => ?_
  refine r_istore (pc := 46) (ls1 := [(5, .int v5), (4, .int v1), (0, .ref (ad g 1)), (1, .int u1_), (2, .int v2_), (3, .int v3_)]) dX7_noise_46 (nle rfl) rfl ?_
  refine r_aload_n (pc := 48) (j := 2) dX7_noise_48 rfl rfl ?_
  refine r_iconst (pc := 49) (v := (3 : Int32)) dX7_noise_49 rfl ?_
  obtain ⟨v9, σ12, eσ12, hr⟩ := bnd_inv hr
  refine kX7_drawBelow (pc := 50) eσ12 tw_3_141 ⟨nle rfl, nle rfl⟩ (nle rfl) dX7_noise_50 fun hσ12 => ?_
  obtain ⟨j61, ej61, hr⟩ := vth_ex hr
  have hj61 : ∀ (s13 : Int32), j61 s13 = some r → RR g mX7_noise (FinR g mX7_noise (some (.int r.1)) NF r.2) zF 61 [(0, .ref (ad g 1)), (1, .int u1_), (2, .int v2_), (3, .int v3_), (4, .int v1), (5, .int v5)] [.int s13] σ12 := by
    intro s13 hr
    replace hr := (congrFun ej61 s13).symm.trans hr
    refine r_istore (pc := 61) (ls1 := [(6, .int s13), (0, .ref (ad g 1)), (1, .int u1_), (2, .int v2_), (3, .int v3_), (4, .int v1), (5, .int v5)]) dX7_noise_61 (nle rfl) rfl ?_
    refine r_iconst (pc := 63) (v := (0 : Int32)) dX7_noise_63 rfl ?_
    refine r_bipush (pc := 64) (v := (9 : Int32)) dX7_noise_64 rfl ?_
    refine r_aload_n (pc := 66) (j := 1) dX7_noise_66 rfl rfl ?_
    refine gf7_2 (pc := 67) tw_2_111 hσ12 dX7_noise_67 ?_
    refine r_iload (pc := 70) (j := 5) dX7_noise_70 rfl ?_
    refine r_iload (pc := 72) (j := 6) dX7_noise_72 rfl ?_
    obtain ⟨v14, hv14, hr⟩ := bnd1_inv hr
    refine kX6_at (pc := 74) hv14 (wt_sc hσ12).1 tw_3_133 ⟨nle rfl, nle rfl⟩ (nle rfl) dX7_noise_74 ?_
    refine r_iload (pc := 77) (j := 0) dX7_noise_77 rfl ?_
    refine r_iadd (pc := 79) dX7_noise_79 ?_
    refine kJ9_min_7cf53 (pc := 80) (hf := rfl) tw_3_128 ⟨nle rfl, nle rfl⟩ (nle rfl) dX7_noise_80 ?_
    refine kJ9_max_7cf53 (pc := 83) (hf := rfl) tw_3_146 ⟨nle rfl, nle rfl⟩ (nle rfl) dX7_noise_83 ?_
    refine r_topi fun v17 ev17 => ?_
    replace hr := vthen_inv hr v17 ev17
    refine r_istore (pc := 86) (ls1 := [(7, .int v17), (6, .int s13), (0, .ref (ad g 1)), (1, .int u1_), (2, .int v2_), (3, .int v3_), (4, .int v1), (5, .int v5)]) dX7_noise_86 (nle rfl) rfl ?_
    refine r_aload_n (pc := 88) (j := 2) dX7_noise_88 rfl rfl ?_
    refine gf7_2 (pc := 89) tw_2_111 hσ12 dX7_noise_89 ?_
    refine r_iload (pc := 92) (j := 6) dX7_noise_92 rfl ?_
    refine r_iload (pc := 94) (j := 7) dX7_noise_94 rfl ?_
    refine r_iload (pc := 96) (j := 0) dX7_noise_96 rfl ?_
    obtain ⟨b19, σ21, eσ21, hr⟩ := bnd_inv hr
    refine kX6_put (pc := 98) eσ21 (wt_sc hσ12).1 tw_3_112 ⟨nle rfl, nle rfl⟩ (nle rfl) dX7_noise_98 fun hσ21 => ?_
    refine r_ifB_eq (pc := 101) (tgt := 107) dX7_noise_101 rfl (fun hc => ?_) (fun hc => ?_)
    · replace hr := ite_f hc hr
      refine r_iinc (pc := 107) (j := 5) (v := (v3_ + (1 : Int32))) (ls1 := [(3, .int (v3_ + (1 : Int32))), (7, .int v17), (6, .int s13), (0, .ref (ad g 1)), (1, .int u1_), (2, .int v2_), (4, .int v1), (5, .int v5)]) dX7_noise_107 rfl rfl (nle rfl) rfl ?_
      refine r_goto (pc := 110) (tgt := 17) dX7_noise_110 rfl ?_
      exact r_pick (ls1 := [(0, .ref (ad g 1)), (1, .int u1_), (2, .int v2_), (3, .int (v3_ + (1 : Int32)))]) [3, 4, 5, 0] rfl (ih v2_ (v3_ + (1 : Int32)) σ21 hr hσ21)
    replace hr := ite_t hc hr
    refine r_iinc (pc := 104) (j := 4) (v := (v2_ + (1 : Int32))) (ls1 := [(2, .int (v2_ + (1 : Int32))), (7, .int v17), (6, .int s13), (0, .ref (ad g 1)), (1, .int u1_), (3, .int v3_), (4, .int v1), (5, .int v5)]) dX7_noise_104 rfl rfl (nle rfl) rfl ?_
    refine r_iinc (pc := 107) (j := 5) (v := (v3_ + (1 : Int32))) (ls1 := [(3, .int (v3_ + (1 : Int32))), (2, .int (v2_ + (1 : Int32))), (7, .int v17), (6, .int s13), (0, .ref (ad g 1)), (1, .int u1_), (4, .int v1), (5, .int v5)]) dX7_noise_107 rfl rfl (nle rfl) rfl ?_
    refine r_goto (pc := 110) (tgt := 17) dX7_noise_110 rfl ?_
    exact r_pick (ls1 := [(0, .ref (ad g 1)), (1, .int u1_), (2, .int (v2_ + (1 : Int32))), (3, .int (v3_ + (1 : Int32)))]) [4, 5, 1, 0] rfl (ih (v2_ + (1 : Int32)) (v3_ + (1 : Int32)) σ21 hr hσ21)
  refine r_if_ne (pc := 53) (tgt := 60) dX7_noise_53 rfl (fun hc => ?_) (fun hc => ?_)
  · replace hr := ite_f hc hr
    refine r_iconst (pc := 60) (v := (1 : Int32)) dX7_noise_60 rfl ?_
    exact r_pick (ls1 := [(0, .ref (ad g 1)), (1, .int u1_), (2, .int v2_), (3, .int v3_), (4, .int v1), (5, .int v5)]) [2, 3, 4, 5, 1, 0] rfl (hj61 (1 : Int32) hr)
  replace hr := ite_t hc hr
  refine r_iconst (pc := 56) (v := (-1 : Int32)) dX7_noise_56 rfl ?_
  refine r_goto (pc := 57) (tgt := 61) dX7_noise_57 rfl ?_
  exact r_pick (ls1 := [(0, .ref (ad g 1)), (1, .int u1_), (2, .int v2_), (3, .int v3_), (4, .int v1), (5, .int v5)]) [2, 3, 4, 5, 1, 0] rfl (hj61 (-1 : Int32) hr)

set_option maxRecDepth 20000 in
theorem sX7_noise {g : GG} {σ : SS} {a1 : Int32} {r : Int32 × SS} (hr : fX7_noise σ a1 = some r)  : Ct g mX7_noise [.ref (ad g 1), .int a1] NF σ (some (.int r.1)) NF r.2 := by
  refine Ct.of (by decide +kernel) (nle rfl) fun hw0 => ?_
  have hw := hw0 rfl
  unfold fX7_noise at hr
  change RR g mX7_noise (FinR g mX7_noise (some (.int r.1)) NF r.2) zF 0 [(0, .ref (ad g 1)), (1, .int a1)] [] σ
  refine r_iload_n (pc := 0) (j := 1) dX7_noise_0 rfl rfl ?_
  refine r_if_lt (pc := 1) (tgt := 11) dX7_noise_1 rfl (fun hc => ?_) (fun hc => ?_)
  · replace hr := ite_t hc hr
    refine r_iconst (pc := 11) (v := (-1 : Int32)) dX7_noise_11 rfl ?_
    exact l_osi hr (r_iret (pc := 12) (v := (-1 : Int32)) rfl rfl ⟨Nat.le_refl _, Nat.le_refl _⟩ dX7_noise_12)
  replace hr := ite_f hc hr
  refine r_iload_n (pc := 4) (j := 1) dX7_noise_4 rfl rfl ?_
  refine r_sipush (pc := 5) (v := (500 : Int32)) dX7_noise_5 rfl ?_
  refine r_icmp_le (pc := 8) (tgt := 13) dX7_noise_8 rfl (fun hc => ?_) (fun hc => ?_)
  · replace hr := ite_t hc hr
    refine r_iconst (pc := 13) (v := (0 : Int32)) dX7_noise_13 rfl ?_
    refine r_istore_n (pc := 14) (ls1 := [(2, .int (0 : Int32)), (0, .ref (ad g 1)), (1, .int a1)]) dX7_noise_14 rfl (nle rfl) rfl ?_
    refine r_iconst (pc := 15) (v := (0 : Int32)) dX7_noise_15 rfl ?_
    refine r_istore_n (pc := 16) (ls1 := [(3, .int (0 : Int32)), (2, .int (0 : Int32)), (0, .ref (ad g 1)), (1, .int a1)]) dX7_noise_16 rfl (nle rfl) rfl ?_
    refine r_pick (ls1 := [(0, .ref (ad g 1)), (1, .int a1), (2, .int (0 : Int32)), (3, .int (0 : Int32))]) [2, 3, 1, 0] rfl ?_
    refine sX7_noise_L17     fuel (0 : Int32) (0 : Int32) σ hr hw
  replace hr := ite_f hc hr
  refine r_iconst (pc := 11) (v := (-1 : Int32)) dX7_noise_11 rfl ?_
  exact l_osi hr (r_iret (pc := 12) (v := (-1 : Int32)) rfl rfl ⟨Nat.le_refl _, Nat.le_refl _⟩ dX7_noise_12)

theorem kX7_noise {g : GG} {σ : SS} {a1 : Int32} {v : Int32} {σ2 : SS} {M : MM} {F : State → Array Value → List Frame → State → Prop} {pc index : Nat} {ls : List (Nat × Value)} {rest : List Value} (hf : fX7_noise σ a1 = some (v, σ2))  (hl : Cond.methodLink M.1.cls index yX7_noise ∈ lw_gt) (hR : mX7_noise.2.2.2.2.frames + 1 ≤ M.2.2.2.2.frames ∧ 8 + (mX7_noise.2.2.1 + 11) + mX7_noise.2.2.2.2.locals ≤ M.2.2.2.2.locals) (hrest : (rest.map fun v => v.category).sum ≤ 8) (hd : decode M.2.1 pc = .ok (.invokevirtual index, 3)) (k : WT σ2 → RR g M F zF (pc + 3) ls (.int v :: rest) σ2) : RR g M F zF pc ls (.int a1 :: .ref (ad g 1) :: rest) σ :=
  r_callV (N := mX7_noise) (nn := 1) (o1 := some (.int v)) (sX7_noise hf ) (rfl : shp 1 = (7, 0)) (by decide) (shp_le (rfl : shp 1 = (7, 0)) (nle rfl)) (ci := 7) rfl rfl tw_3_140 tw_1_1 hl tw_3_138 tw_3_139 ⟨by decide, by decide, rfl⟩ hR rfl hrest hd ⟨Nat.zero_le _, Nat.zero_le _⟩ rfl (fun h => k (h rfl))

theorem dX8_draw_0 : decode cX8_draw 0 = .ok (.aload_n 0, 1) := by decide +kernel
theorem dX8_draw_1 : decode cX8_draw 1 = .ok (.sipush 25173, 3) := by decide +kernel
theorem dX8_draw_4 : decode cX8_draw 4 = .ok (.aload_n 0, 1) := by decide +kernel
theorem dX8_draw_5 : decode cX8_draw 5 = .ok (.getfield 139, 3) := by decide +kernel
theorem dX8_draw_8 : decode cX8_draw 8 = .ok (.imul, 1) := by decide +kernel
theorem dX8_draw_9 : decode cX8_draw 9 = .ok (.sipush 13849, 3) := by decide +kernel
theorem dX8_draw_12 : decode cX8_draw 12 = .ok (.iadd, 1) := by decide +kernel
theorem dX8_draw_13 : decode cX8_draw 13 = .ok (.ldc_w 284, 3) := by decide +kernel
theorem dX8_draw_16 : decode cX8_draw 16 = .ok (.irem, 1) := by decide +kernel
theorem dX8_draw_17 : decode cX8_draw 17 = .ok (.putfield 139, 3) := by decide +kernel
theorem dX8_draw_20 : decode cX8_draw 20 = .ok (.aload_n 0, 1) := by decide +kernel
theorem dX8_draw_21 : decode cX8_draw 21 = .ok (.getfield 139, 3) := by decide +kernel
theorem dX8_draw_24 : decode cX8_draw 24 = .ok (.iconst 4, 1) := by decide +kernel
theorem dX8_draw_25 : decode cX8_draw 25 = .ok (.idiv, 1) := by decide +kernel
theorem dX8_draw_26 : decode cX8_draw 26 = .ok (.iload_n 1, 1) := by decide +kernel
theorem dX8_draw_27 : decode cX8_draw 27 = .ok (.irem, 1) := by decide +kernel
theorem dX8_draw_28 : decode cX8_draw 28 = .ok (.ireturn, 1) := by decide +kernel
def mX8_draw : MM := (yX8_draw, cX8_draw, 2, Option.some Jvm.ClassFile.FieldType.int, { frames := 0, cells := 0, slots := 0, locals := 0 })
def fX8_draw (σ : SS) (a1 : Int32) : Option (Int32 × SS) :=
  vthen (sI σ 73 31 (irm (((25173 : Int32) * (gI σ 73 31)) + (13849 : Int32)) (65536 : Int32))) fun σ1 =>
  grd (nz a1) <|
  some ((irm ((gI σ1 73 31) / (4 : Int32)) a1), σ1)

set_option maxRecDepth 20000 in
theorem sX8_draw {g : GG} {σ : SS} {a1 : Int32} {r : Int32 × SS} (hr : fX8_draw σ a1 = some r)  : Ct g mX8_draw [.ref (ad g 73), .int a1] NF σ (some (.int r.1)) NF r.2 := by
  refine Ct.of (by decide +kernel) (nle rfl) fun hw0 => ?_
  have hw := hw0 rfl
  unfold fX8_draw at hr
  change RR g mX8_draw (FinR g mX8_draw (some (.int r.1)) NF r.2) zF 0 [(0, .ref (ad g 73)), (1, .int a1)] [] σ
  refine r_aload_n (pc := 0) (j := 0) dX8_draw_0 rfl rfl ?_
  refine r_sipush (pc := 1) (v := (25173 : Int32)) dX8_draw_1 rfl ?_
  refine r_aload_n (pc := 4) (j := 0) dX8_draw_4 rfl rfl ?_
  refine gf8_31 (pc := 5) tw_5_125 rfl dX8_draw_5 ?_
  refine r_imul (pc := 8) dX8_draw_8 ?_
  refine r_sipush (pc := 9) (v := (13849 : Int32)) dX8_draw_9 rfl ?_
  refine r_iadd (pc := 12) dX8_draw_12 ?_
  refine r_ldcw (pc := 13) (v := (65536 : Int32)) dX8_draw_13 tw_6_189 ?_
  refine r_irem (pc := 16) dX8_draw_16 (by decide) ?_
  refine pf8_31 (pc := 17) tw_5_125 rfl dX8_draw_17 fun σ1 eσ1 => ?_
  replace hr := vthen_inv hr σ1 eσ1
  have hσ1 := wtI eσ1 hw
  refine r_aload_n (pc := 20) (j := 0) dX8_draw_20 rfl rfl ?_
  refine gf8_31 (pc := 21) tw_5_125 rfl dX8_draw_21 ?_
  refine r_iconst (pc := 24) (v := (4 : Int32)) dX8_draw_24 rfl ?_
  refine r_idiv (pc := 25) dX8_draw_25 (by decide) ?_
  refine r_iload_n (pc := 26) (j := 1) dX8_draw_26 rfl rfl ?_
  obtain ⟨h2, hr⟩ := grd_inv hr
  refine r_irem (pc := 27) dX8_draw_27 (nz_ne h2) ?_
  exact l_osi hr (r_iret (pc := 28) (v := (irm ((gI σ1 73 31) / (4 : Int32)) a1)) rfl rfl ⟨Nat.le_refl _, Nat.le_refl _⟩ dX8_draw_28)

theorem kX8_draw {g : GG} {σ : SS} {a1 : Int32} {v : Int32} {σ2 : SS} {M : MM} {F : State → Array Value → List Frame → State → Prop} {pc index : Nat} {ls : List (Nat × Value)} {rest : List Value} (hf : fX8_draw σ a1 = some (v, σ2))  (hl : Cond.methodLink M.1.cls index yX8_draw ∈ lw_gt) (hR : mX8_draw.2.2.2.2.frames + 1 ≤ M.2.2.2.2.frames ∧ 8 + (mX8_draw.2.2.1 + 11) + mX8_draw.2.2.2.2.locals ≤ M.2.2.2.2.locals) (hrest : (rest.map fun v => v.category).sum ≤ 8) (hd : decode M.2.1 pc = .ok (.invokevirtual index, 3)) (k : WT σ2 → RR g M F zF (pc + 3) ls (.int v :: rest) σ2) : RR g M F zF pc ls (.int a1 :: .ref (ad g 73) :: rest) σ :=
  r_callV (N := mX8_draw) (nn := 1) (o1 := some (.int v)) (sX8_draw hf ) (rfl : shp 73 = (8, 0)) (by decide) (shp_le (rfl : shp 73 = (8, 0)) (nle rfl)) (ci := 8) rfl rfl tw_6_188 tw_1_10 hl tw_6_187 tp_53 ⟨by decide, by decide, rfl⟩ hR rfl hrest hd ⟨Nat.zero_le _, Nat.zero_le _⟩ rfl (fun h => k (h rfl))

theorem dX8_noise_0 : decode cX8_noise 0 = .ok (.iload_n 1, 1) := by decide +kernel
theorem dX8_noise_1 : decode cX8_noise 1 = .ok (.iconst 0, 1) := by decide +kernel
theorem dX8_noise_2 : decode cX8_noise 2 = .ok (.sipush 500, 3) := by decide +kernel
theorem dX8_noise_5 : decode cX8_noise 5 = .ok (.invokestatic 165, 3) := by decide +kernel
theorem dX8_noise_8 : decode cX8_noise 8 = .ok (.ifCond .ne 5, 3) := by decide +kernel
theorem dX8_noise_11 : decode cX8_noise 11 = .ok (.iconst (-1), 1) := by decide +kernel
theorem dX8_noise_12 : decode cX8_noise 12 = .ok (.ireturn, 1) := by decide +kernel
theorem dX8_noise_13 : decode cX8_noise 13 = .ok (.iconst 0, 1) := by decide +kernel
theorem dX8_noise_14 : decode cX8_noise 14 = .ok (.istore_n 2, 1) := by decide +kernel
theorem dX8_noise_15 : decode cX8_noise 15 = .ok (.iconst 0, 1) := by decide +kernel
theorem dX8_noise_16 : decode cX8_noise 16 = .ok (.istore_n 3, 1) := by decide +kernel
theorem dX8_noise_17 : decode cX8_noise 17 = .ok (.iload_n 3, 1) := by decide +kernel
theorem dX8_noise_18 : decode cX8_noise 18 = .ok (.iload_n 1, 1) := by decide +kernel
theorem dX8_noise_19 : decode cX8_noise 19 = .ok (.if_icmp .ge 99, 3) := by decide +kernel
theorem dX8_noise_22 : decode cX8_noise 22 = .ok (.aload_n 0, 1) := by decide +kernel
theorem dX8_noise_23 : decode cX8_noise 23 = .ok (.aload_n 0, 1) := by decide +kernel
theorem dX8_noise_24 : decode cX8_noise 24 = .ok (.getfield 132, 3) := by decide +kernel
theorem dX8_noise_27 : decode cX8_noise 27 = .ok (.invokevirtual 285, 3) := by decide +kernel
theorem dX8_noise_30 : decode cX8_noise 30 = .ok (.istore 4, 2) := by decide +kernel
theorem dX8_noise_32 : decode cX8_noise 32 = .ok (.aload_n 0, 1) := by decide +kernel
theorem dX8_noise_33 : decode cX8_noise 33 = .ok (.aload_n 0, 1) := by decide +kernel
theorem dX8_noise_34 : decode cX8_noise 34 = .ok (.getfield 136, 3) := by decide +kernel
theorem dX8_noise_37 : decode cX8_noise 37 = .ok (.invokevirtual 285, 3) := by decide +kernel
theorem dX8_noise_40 : decode cX8_noise 40 = .ok (.istore 5, 2) := by decide +kernel
theorem dX8_noise_42 : decode cX8_noise 42 = .ok (.aload_n 0, 1) := by decide +kernel
theorem dX8_noise_43 : decode cX8_noise 43 = .ok (.iconst 3, 1) := by decide +kernel
theorem dX8_noise_44 : decode cX8_noise 44 = .ok (.invokevirtual 285, 3) := by decide +kernel
theorem dX8_noise_47 : decode cX8_noise 47 = .ok (.ifCond .ne 7, 3) := by decide +kernel
theorem dX8_noise_50 : decode cX8_noise 50 = .ok (.iconst (-1), 1) := by decide +kernel
theorem dX8_noise_51 : decode cX8_noise 51 = .ok (.goto 4, 3) := by decide +kernel
theorem dX8_noise_54 : decode cX8_noise 54 = .ok (.iconst 1, 1) := by decide +kernel
theorem dX8_noise_55 : decode cX8_noise 55 = .ok (.istore 6, 2) := by decide +kernel
theorem dX8_noise_57 : decode cX8_noise 57 = .ok (.aload_n 0, 1) := by decide +kernel
theorem dX8_noise_58 : decode cX8_noise 58 = .ok (.getfield 132, 3) := by decide +kernel
theorem dX8_noise_61 : decode cX8_noise 61 = .ok (.iload 5, 2) := by decide +kernel
theorem dX8_noise_63 : decode cX8_noise 63 = .ok (.imul, 1) := by decide +kernel
theorem dX8_noise_64 : decode cX8_noise 64 = .ok (.iload 4, 2) := by decide +kernel
theorem dX8_noise_66 : decode cX8_noise 66 = .ok (.iadd, 1) := by decide +kernel
theorem dX8_noise_67 : decode cX8_noise 67 = .ok (.istore 7, 2) := by decide +kernel
theorem dX8_noise_69 : decode cX8_noise 69 = .ok (.aload_n 0, 1) := by decide +kernel
theorem dX8_noise_70 : decode cX8_noise 70 = .ok (.getfield 38, 3) := by decide +kernel
theorem dX8_noise_73 : decode cX8_noise 73 = .ok (.iload 7, 2) := by decide +kernel
theorem dX8_noise_75 : decode cX8_noise 75 = .ok (.iaload, 1) := by decide +kernel
theorem dX8_noise_76 : decode cX8_noise 76 = .ok (.iload 6, 2) := by decide +kernel
theorem dX8_noise_78 : decode cX8_noise 78 = .ok (.iadd, 1) := by decide +kernel
theorem dX8_noise_79 : decode cX8_noise 79 = .ok (.iconst 0, 1) := by decide +kernel
theorem dX8_noise_80 : decode cX8_noise 80 = .ok (.bipush 9, 2) := by decide +kernel
theorem dX8_noise_82 : decode cX8_noise 82 = .ok (.invokestatic 165, 3) := by decide +kernel
theorem dX8_noise_85 : decode cX8_noise 85 = .ok (.ifCond .ne 6, 3) := by decide +kernel
theorem dX8_noise_88 : decode cX8_noise 88 = .ok (.goto 24, 3) := by decide +kernel
theorem dX8_noise_91 : decode cX8_noise 91 = .ok (.aload_n 0, 1) := by decide +kernel
theorem dX8_noise_92 : decode cX8_noise 92 = .ok (.getfield 38, 3) := by decide +kernel
theorem dX8_noise_95 : decode cX8_noise 95 = .ok (.iload 7, 2) := by decide +kernel
theorem dX8_noise_97 : decode cX8_noise 97 = .ok (.aload_n 0, 1) := by decide +kernel
theorem dX8_noise_98 : decode cX8_noise 98 = .ok (.getfield 38, 3) := by decide +kernel
theorem dX8_noise_101 : decode cX8_noise 101 = .ok (.iload 7, 2) := by decide +kernel
theorem dX8_noise_103 : decode cX8_noise 103 = .ok (.iaload, 1) := by decide +kernel
theorem dX8_noise_104 : decode cX8_noise 104 = .ok (.iload 6, 2) := by decide +kernel
theorem dX8_noise_106 : decode cX8_noise 106 = .ok (.iadd, 1) := by decide +kernel
theorem dX8_noise_107 : decode cX8_noise 107 = .ok (.iastore, 1) := by decide +kernel
theorem dX8_noise_108 : decode cX8_noise 108 = .ok (.iload_n 2, 1) := by decide +kernel
theorem dX8_noise_109 : decode cX8_noise 109 = .ok (.iconst 1, 1) := by decide +kernel
theorem dX8_noise_110 : decode cX8_noise 110 = .ok (.iadd, 1) := by decide +kernel
theorem dX8_noise_111 : decode cX8_noise 111 = .ok (.istore_n 2, 1) := by decide +kernel
theorem dX8_noise_112 : decode cX8_noise 112 = .ok (.iinc 3 1, 3) := by decide +kernel
theorem dX8_noise_115 : decode cX8_noise 115 = .ok (.goto (-98), 3) := by decide +kernel
theorem dX8_noise_118 : decode cX8_noise 118 = .ok (.iload_n 2, 1) := by decide +kernel
theorem dX8_noise_119 : decode cX8_noise 119 = .ok (.ireturn, 1) := by decide +kernel
def mX8_noise : MM := (yX8_noise, cX8_noise, 8, Option.some Jvm.ClassFile.FieldType.int, { frames := 1, cells := 0, slots := 0, locals := 22 })
def X8_noise_L17 (u1_ : Int32)  : Nat → Int32 → Int32 → SS → Option (Int32 × SS) :=
  lp (fun _ _ _ => none) fun rec v2_ v3_ σ_ =>
    if u1_ ≤ v3_ then (
      some (v2_, σ_)
      ) else (
      bnd (fX8_draw σ_ (gI σ_ 73 29)) fun v1 σ4 =>
      bnd (fX8_draw σ4 (gI σ4 73 30)) fun v5 σ8 =>
      bnd (fX8_draw σ8 (3 : Int32)) fun v9 σ12 =>
      vthen (fun (s13 : Int32) =>
        vthen (((gI σ12 73 29) * v5) + v1) fun v14 =>
        grd (inb v14 1600) <|
        if (fX8_in σ12 ((gI σ12 83 (Int32.toNatClampNeg v14)) + s13) (0 : Int32) (9 : Int32)) = true then (
          vthen (sI σ12 83 (Int32.toNatClampNeg v14) ((gI σ12 83 (Int32.toNatClampNeg v14)) + s13)) fun σ16 =>
          vthen (v2_ + (1 : Int32)) fun v17 =>
          rec v17 (v3_ + (1 : Int32)) σ16
          ) else (
          rec v2_ (v3_ + (1 : Int32)) σ12
          )
        ) fun j55 =>
      if v9 = 0 then (
        j55 (-1 : Int32)
        ) else (
        j55 (1 : Int32)
        )
      )

def fX8_noise (σ : SS) (a1 : Int32) : Option (Int32 × SS) :=
  if (fX8_in σ a1 (0 : Int32) (500 : Int32)) = true then (
    X8_noise_L17 a1
    fuel (0 : Int32) (0 : Int32) σ
    ) else (
    some ((-1 : Int32), σ)
    )

set_option maxRecDepth 20000 in
theorem sX8_noise_L17 {g : GG} {r : Int32 × SS} {u1_ : Int32}  
    (n : Nat) : ∀ (v2_ : Int32) (v3_ : Int32) (σ_ : SS), X8_noise_L17 u1_ n v2_ v3_ σ_ = some r → WT σ_ → RR g mX8_noise (FinR g mX8_noise (some (.int r.1)) NF r.2) zF 17 [(0, .ref (ad g 73)), (1, .int u1_), (2, .int v2_), (3, .int v3_)] [] σ_ := by
  unfold X8_noise_L17
  refine lp_ind (P := fun (rec : Int32 → Int32 → SS → Option (Int32 × SS)) => ∀ (v2_ : Int32) (v3_ : Int32) (σ_ : SS), rec v2_ v3_ σ_ = some r → WT σ_ → RR g mX8_noise (FinR g mX8_noise (some (.int r.1)) NF r.2) zF 17 [(0, .ref (ad g 73)), (1, .int u1_), (2, .int v2_), (3, .int v3_)] [] σ_) ?_ ?_ n
  · intro v2_ v3_ σ_ hr; cases hr
  intro rec ih v2_ v3_ σ_ hr hw_
  refine r_iload_n (pc := 17) (j := 3) dX8_noise_17 rfl rfl ?_
  refine r_iload_n (pc := 18) (j := 1) dX8_noise_18 rfl rfl ?_
  refine r_icmp_ge (pc := 19) (tgt := 118) dX8_noise_19 rfl (fun hc => ?_) (fun hc => ?_)
  · replace hr := ite_t hc hr
    refine r_iload_n (pc := 118) (j := 2) dX8_noise_118 rfl rfl ?_
    exact l_osi hr (r_iret (pc := 119) (v := v2_) rfl rfl ⟨Nat.le_refl _, Nat.le_refl _⟩ dX8_noise_119)
  replace hr := ite_f hc hr
  refine r_aload_n (pc := 22) (j := 0) dX8_noise_22 rfl rfl ?_
  refine r_aload_n (pc := 23) (j := 0) dX8_noise_23 rfl rfl ?_
  refine gf8_29 (pc := 24) tw_5_123 rfl dX8_noise_24 ?_
  obtain ⟨v1, σ4, eσ4, hr⟩ := bnd_inv hr
  refine kX8_draw (pc := 27) eσ4 tw_6_185 ⟨nle rfl, nle rfl⟩ (nle rfl) dX8_noise_27 fun hσ4 => ?_
  refine r_istore (pc := 30) (ls1 := [(4, .int v1), (0, .ref (ad g 73)), (1, .int u1_), (2, .int v2_), (3, .int v3_)]) dX8_noise_30 (nle rfl) rfl ?_
  refine r_aload_n (pc := 32) (j := 1) dX8_noise_32 rfl rfl ?_
  refine r_aload_n (pc := 33) (j := 1) dX8_noise_33 rfl rfl ?_
  refine gf8_30 (pc := 34) tw_5_124 rfl dX8_noise_34 ?_
  obtain ⟨v5, σ8, eσ8, hr⟩ := bnd_inv hr
  refine kX8_draw (pc := 37) eσ8 tw_6_185 ⟨nle rfl, nle rfl⟩ (nle rfl) dX8_noise_37 fun hσ8 => ?_
  refine r_istore (pc := 40) (ls1 := [(5, .int v5), (4, .int v1), (0, .ref (ad g 73)), (1, .int u1_), (2, .int v2_), (3, .int v3_)]) dX8_noise_40 (nle rfl) rfl ?_
  refine r_aload_n (pc := 42) (j := 2) dX8_noise_42 rfl rfl ?_
  refine r_iconst (pc := 43) (v := (3 : Int32)) dX8_noise_43 rfl ?_
  obtain ⟨v9, σ12, eσ12, hr⟩ := bnd_inv hr
  refine kX8_draw (pc := 44) eσ12 tw_6_185 ⟨nle rfl, nle rfl⟩ (nle rfl) dX8_noise_44 fun hσ12 => ?_
  obtain ⟨j55, ej55, hr⟩ := vth_ex hr
  have hj55 : ∀ (s13 : Int32), j55 s13 = some r → RR g mX8_noise (FinR g mX8_noise (some (.int r.1)) NF r.2) zF 55 [(0, .ref (ad g 73)), (1, .int u1_), (2, .int v2_), (3, .int v3_), (4, .int v1), (5, .int v5)] [.int s13] σ12 := by
    intro s13 hr
    replace hr := (congrFun ej55 s13).symm.trans hr
    refine r_istore (pc := 55) (ls1 := [(6, .int s13), (0, .ref (ad g 73)), (1, .int u1_), (2, .int v2_), (3, .int v3_), (4, .int v1), (5, .int v5)]) dX8_noise_55 (nle rfl) rfl ?_
    refine r_aload_n (pc := 57) (j := 1) dX8_noise_57 rfl rfl ?_
    refine gf8_29 (pc := 58) tw_5_123 rfl dX8_noise_58 ?_
    refine r_iload (pc := 61) (j := 6) dX8_noise_61 rfl ?_
    refine r_imul (pc := 63) dX8_noise_63 ?_
    refine r_iload (pc := 64) (j := 5) dX8_noise_64 rfl ?_
    refine r_iadd (pc := 66) dX8_noise_66 ?_
    refine r_topi fun v14 ev14 => ?_
    replace hr := vthen_inv hr v14 ev14
    refine r_istore (pc := 67) (ls1 := [(7, .int v14), (6, .int s13), (0, .ref (ad g 73)), (1, .int u1_), (2, .int v2_), (3, .int v3_), (4, .int v1), (5, .int v5)]) dX8_noise_67 (nle rfl) rfl ?_
    refine r_aload_n (pc := 69) (j := 2) dX8_noise_69 rfl rfl ?_
    refine gf8_21 (pc := 70) tw_5_115 hσ12 dX8_noise_70 ?_
    refine r_iload (pc := 73) (j := 0) dX8_noise_73 rfl ?_
    obtain ⟨h15, hr⟩ := grd_inv hr
    refine x_iald (pc := 75) (k := (Int32.toNatClampNeg v14)) rfl h15 rfl dX8_noise_75 ?_
    refine r_iload (pc := 76) (j := 1) dX8_noise_76 rfl ?_
    refine r_iadd (pc := 78) dX8_noise_78 ?_
    refine r_iconst (pc := 79) (v := (0 : Int32)) dX8_noise_79 rfl ?_
    refine r_bipush (pc := 80) (v := (9 : Int32)) dX8_noise_80 rfl ?_
    refine kX8_in (pc := 82) (hf := rfl) tw_6_65 ⟨nle rfl, nle rfl⟩ (nle rfl) dX8_noise_82 ?_
    refine r_ifB_ne (pc := 85) (tgt := 91) dX8_noise_85 rfl (fun hc => ?_) (fun hc => ?_)
    · replace hr := ite_t hc hr
      refine r_aload_n (pc := 91) (j := 2) dX8_noise_91 rfl rfl ?_
      refine gf8_21 (pc := 92) tw_5_115 hσ12 dX8_noise_92 ?_
      refine r_iload (pc := 95) (j := 0) dX8_noise_95 rfl ?_
      refine r_aload_n (pc := 97) (j := 2) dX8_noise_97 rfl rfl ?_
      refine gf8_21 (pc := 98) tw_5_115 hσ12 dX8_noise_98 ?_
      refine r_iload (pc := 101) (j := 0) dX8_noise_101 rfl ?_
      refine x_iald (pc := 103) (k := (Int32.toNatClampNeg v14)) rfl h15 rfl dX8_noise_103 ?_
      refine r_iload (pc := 104) (j := 1) dX8_noise_104 rfl ?_
      refine r_iadd (pc := 106) dX8_noise_106 ?_
      refine x_iast (pc := 107) (j := (Int32.toNatClampNeg v14)) rfl h15 rfl dX8_noise_107 fun σ16 eσ16 => ?_
      replace hr := vthen_inv hr σ16 eσ16
      have hσ16 := wtI eσ16 hσ12
      refine r_iload_n (pc := 108) (j := 4) dX8_noise_108 rfl rfl ?_
      refine r_iconst (pc := 109) (v := (1 : Int32)) dX8_noise_109 rfl ?_
      refine r_iadd (pc := 110) dX8_noise_110 ?_
      refine r_topi fun v17 ev17 => ?_
      replace hr := vthen_inv hr v17 ev17
      refine r_istore_n (pc := 111) (ls1 := [(2, .int v17), (7, .int v14), (6, .int s13), (0, .ref (ad g 73)), (1, .int u1_), (3, .int v3_), (4, .int v1), (5, .int v5)]) dX8_noise_111 rfl (nle rfl) rfl ?_
      refine r_iinc (pc := 112) (j := 5) (v := (v3_ + (1 : Int32))) (ls1 := [(3, .int (v3_ + (1 : Int32))), (2, .int v17), (7, .int v14), (6, .int s13), (0, .ref (ad g 73)), (1, .int u1_), (4, .int v1), (5, .int v5)]) dX8_noise_112 rfl rfl (nle rfl) rfl ?_
      refine r_goto (pc := 115) (tgt := 17) dX8_noise_115 rfl ?_
      exact r_pick (ls1 := [(0, .ref (ad g 73)), (1, .int u1_), (2, .int v17), (3, .int (v3_ + (1 : Int32)))]) [4, 5, 1, 0] rfl (ih v17 (v3_ + (1 : Int32)) σ16 hr hσ16)
    replace hr := ite_f hc hr
    refine r_goto (pc := 88) (tgt := 112) dX8_noise_88 rfl ?_
    refine r_iinc (pc := 112) (j := 5) (v := (v3_ + (1 : Int32))) (ls1 := [(3, .int (v3_ + (1 : Int32))), (7, .int v14), (6, .int s13), (0, .ref (ad g 73)), (1, .int u1_), (2, .int v2_), (4, .int v1), (5, .int v5)]) dX8_noise_112 rfl rfl (nle rfl) rfl ?_
    refine r_goto (pc := 115) (tgt := 17) dX8_noise_115 rfl ?_
    exact r_pick (ls1 := [(0, .ref (ad g 73)), (1, .int u1_), (2, .int v2_), (3, .int (v3_ + (1 : Int32)))]) [3, 4, 5, 0] rfl (ih v2_ (v3_ + (1 : Int32)) σ12 hr hσ12)
  refine r_if_ne (pc := 47) (tgt := 54) dX8_noise_47 rfl (fun hc => ?_) (fun hc => ?_)
  · replace hr := ite_f hc hr
    refine r_iconst (pc := 54) (v := (1 : Int32)) dX8_noise_54 rfl ?_
    exact r_pick (ls1 := [(0, .ref (ad g 73)), (1, .int u1_), (2, .int v2_), (3, .int v3_), (4, .int v1), (5, .int v5)]) [2, 3, 4, 5, 1, 0] rfl (hj55 (1 : Int32) hr)
  replace hr := ite_t hc hr
  refine r_iconst (pc := 50) (v := (-1 : Int32)) dX8_noise_50 rfl ?_
  refine r_goto (pc := 51) (tgt := 55) dX8_noise_51 rfl ?_
  exact r_pick (ls1 := [(0, .ref (ad g 73)), (1, .int u1_), (2, .int v2_), (3, .int v3_), (4, .int v1), (5, .int v5)]) [2, 3, 4, 5, 1, 0] rfl (hj55 (-1 : Int32) hr)

set_option maxRecDepth 20000 in
theorem sX8_noise {g : GG} {σ : SS} {a1 : Int32} {r : Int32 × SS} (hr : fX8_noise σ a1 = some r)  : Ct g mX8_noise [.ref (ad g 73), .int a1] NF σ (some (.int r.1)) NF r.2 := by
  refine Ct.of (by decide +kernel) (nle rfl) fun hw0 => ?_
  have hw := hw0 rfl
  unfold fX8_noise at hr
  change RR g mX8_noise (FinR g mX8_noise (some (.int r.1)) NF r.2) zF 0 [(0, .ref (ad g 73)), (1, .int a1)] [] σ
  refine r_iload_n (pc := 0) (j := 1) dX8_noise_0 rfl rfl ?_
  refine r_iconst (pc := 1) (v := (0 : Int32)) dX8_noise_1 rfl ?_
  refine r_sipush (pc := 2) (v := (500 : Int32)) dX8_noise_2 rfl ?_
  refine kX8_in (pc := 5) (hf := rfl) tw_6_65 ⟨nle rfl, nle rfl⟩ (nle rfl) dX8_noise_5 ?_
  refine r_ifB_ne (pc := 8) (tgt := 13) dX8_noise_8 rfl (fun hc => ?_) (fun hc => ?_)
  · replace hr := ite_t hc hr
    refine r_iconst (pc := 13) (v := (0 : Int32)) dX8_noise_13 rfl ?_
    refine r_istore_n (pc := 14) (ls1 := [(2, .int (0 : Int32)), (0, .ref (ad g 73)), (1, .int a1)]) dX8_noise_14 rfl (nle rfl) rfl ?_
    refine r_iconst (pc := 15) (v := (0 : Int32)) dX8_noise_15 rfl ?_
    refine r_istore_n (pc := 16) (ls1 := [(3, .int (0 : Int32)), (2, .int (0 : Int32)), (0, .ref (ad g 73)), (1, .int a1)]) dX8_noise_16 rfl (nle rfl) rfl ?_
    refine r_pick (ls1 := [(0, .ref (ad g 73)), (1, .int a1), (2, .int (0 : Int32)), (3, .int (0 : Int32))]) [2, 3, 1, 0] rfl ?_
    refine sX8_noise_L17     fuel (0 : Int32) (0 : Int32) σ hr hw
  replace hr := ite_f hc hr
  refine r_iconst (pc := 11) (v := (-1 : Int32)) dX8_noise_11 rfl ?_
  exact l_osi hr (r_iret (pc := 12) (v := (-1 : Int32)) rfl rfl ⟨Nat.le_refl _, Nat.le_refl _⟩ dX8_noise_12)

theorem kX8_noise {g : GG} {σ : SS} {a1 : Int32} {v : Int32} {σ2 : SS} {M : MM} {F : State → Array Value → List Frame → State → Prop} {pc index : Nat} {ls : List (Nat × Value)} {rest : List Value} (hf : fX8_noise σ a1 = some (v, σ2))  (hl : Cond.methodLink M.1.cls index yX8_noise ∈ lw_gt) (hR : mX8_noise.2.2.2.2.frames + 1 ≤ M.2.2.2.2.frames ∧ 8 + (mX8_noise.2.2.1 + 11) + mX8_noise.2.2.2.2.locals ≤ M.2.2.2.2.locals) (hrest : (rest.map fun v => v.category).sum ≤ 8) (hd : decode M.2.1 pc = .ok (.invokevirtual index, 3)) (k : WT σ2 → RR g M F zF (pc + 3) ls (.int v :: rest) σ2) : RR g M F zF pc ls (.int a1 :: .ref (ad g 73) :: rest) σ :=
  r_callV (N := mX8_noise) (nn := 1) (o1 := some (.int v)) (sX8_noise hf ) (rfl : shp 73 = (8, 0)) (by decide) (shp_le (rfl : shp 73 = (8, 0)) (nle rfl)) (ci := 8) rfl rfl tw_6_184 tw_1_10 hl tw_6_182 tw_6_183 ⟨by decide, by decide, rfl⟩ hR rfl hrest hd ⟨Nat.zero_le _, Nat.zero_le _⟩ rfl (fun h => k (h rfl))

