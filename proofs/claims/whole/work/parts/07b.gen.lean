/-! Walks written by a program out of the bytecode: each method as a function over the store, and its contract. -/
theorem dX8_readsPlace_0 : decode cX8_readsPlace 0 = .ok (.bipush 12, 2) := by decide +kernel
theorem dX8_readsPlace_2 : decode cX8_readsPlace 2 = .ok (.aload_n 0, 1) := by decide +kernel
theorem dX8_readsPlace_3 : decode cX8_readsPlace 3 = .ok (.getfield 206, 3) := by decide +kernel
theorem dX8_readsPlace_6 : decode cX8_readsPlace 6 = .ok (.imul, 1) := by decide +kernel
theorem dX8_readsPlace_7 : decode cX8_readsPlace 7 = .ok (.iload_n 1, 1) := by decide +kernel
theorem dX8_readsPlace_8 : decode cX8_readsPlace 8 = .ok (.iadd, 1) := by decide +kernel
theorem dX8_readsPlace_9 : decode cX8_readsPlace 9 = .ok (.istore_n 2, 1) := by decide +kernel
theorem dX8_readsPlace_10 : decode cX8_readsPlace 10 = .ok (.aload_n 0, 1) := by decide +kernel
theorem dX8_readsPlace_11 : decode cX8_readsPlace 11 = .ok (.iconst 0, 1) := by decide +kernel
theorem dX8_readsPlace_12 : decode cX8_readsPlace 12 = .ok (.aload_n 0, 1) := by decide +kernel
theorem dX8_readsPlace_13 : decode cX8_readsPlace 13 = .ok (.getfield 13, 3) := by decide +kernel
theorem dX8_readsPlace_16 : decode cX8_readsPlace 16 = .ok (.iconst 5, 1) := by decide +kernel
theorem dX8_readsPlace_17 : decode cX8_readsPlace 17 = .ok (.aload_n 0, 1) := by decide +kernel
theorem dX8_readsPlace_18 : decode cX8_readsPlace 18 = .ok (.getfield 206, 3) := by decide +kernel
theorem dX8_readsPlace_21 : decode cX8_readsPlace 21 = .ok (.imul, 1) := by decide +kernel
theorem dX8_readsPlace_22 : decode cX8_readsPlace 22 = .ok (.iaload, 1) := by decide +kernel
theorem dX8_readsPlace_23 : decode cX8_readsPlace 23 = .ok (.aload_n 0, 1) := by decide +kernel
theorem dX8_readsPlace_24 : decode cX8_readsPlace 24 = .ok (.getfield 13, 3) := by decide +kernel
theorem dX8_readsPlace_27 : decode cX8_readsPlace 27 = .ok (.iconst 5, 1) := by decide +kernel
theorem dX8_readsPlace_28 : decode cX8_readsPlace 28 = .ok (.aload_n 0, 1) := by decide +kernel
theorem dX8_readsPlace_29 : decode cX8_readsPlace 29 = .ok (.getfield 206, 3) := by decide +kernel
theorem dX8_readsPlace_32 : decode cX8_readsPlace 32 = .ok (.imul, 1) := by decide +kernel
theorem dX8_readsPlace_33 : decode cX8_readsPlace 33 = .ok (.iconst 2, 1) := by decide +kernel
theorem dX8_readsPlace_34 : decode cX8_readsPlace 34 = .ok (.iadd, 1) := by decide +kernel
theorem dX8_readsPlace_35 : decode cX8_readsPlace 35 = .ok (.iaload, 1) := by decide +kernel
theorem dX8_readsPlace_36 : decode cX8_readsPlace 36 = .ok (.isub, 1) := by decide +kernel
theorem dX8_readsPlace_37 : decode cX8_readsPlace 37 = .ok (.invokevirtual 212, 3) := by decide +kernel
theorem dX8_readsPlace_40 : decode cX8_readsPlace 40 = .ok (.ifCond .ne 5, 3) := by decide +kernel
theorem dX8_readsPlace_43 : decode cX8_readsPlace 43 = .ok (.iconst 0, 1) := by decide +kernel
theorem dX8_readsPlace_44 : decode cX8_readsPlace 44 = .ok (.ireturn, 1) := by decide +kernel
theorem dX8_readsPlace_45 : decode cX8_readsPlace 45 = .ok (.aload_n 0, 1) := by decide +kernel
theorem dX8_readsPlace_46 : decode cX8_readsPlace 46 = .ok (.getfield 20, 3) := by decide +kernel
theorem dX8_readsPlace_49 : decode cX8_readsPlace 49 = .ok (.iload_n 2, 1) := by decide +kernel
theorem dX8_readsPlace_50 : decode cX8_readsPlace 50 = .ok (.iaload, 1) := by decide +kernel
theorem dX8_readsPlace_51 : decode cX8_readsPlace 51 = .ok (.bipush 6, 2) := by decide +kernel
theorem dX8_readsPlace_53 : decode cX8_readsPlace 53 = .ok (.if_icmp .ne 9, 3) := by decide +kernel
theorem dX8_readsPlace_56 : decode cX8_readsPlace 56 = .ok (.aload_n 0, 1) := by decide +kernel
theorem dX8_readsPlace_57 : decode cX8_readsPlace 57 = .ok (.iconst 3, 1) := by decide +kernel
theorem dX8_readsPlace_58 : decode cX8_readsPlace 58 = .ok (.invokevirtual 195, 3) := by decide +kernel
theorem dX8_readsPlace_61 : decode cX8_readsPlace 61 = .ok (.ireturn, 1) := by decide +kernel
theorem dX8_readsPlace_62 : decode cX8_readsPlace 62 = .ok (.aload_n 0, 1) := by decide +kernel
theorem dX8_readsPlace_63 : decode cX8_readsPlace 63 = .ok (.getfield 182, 3) := by decide +kernel
theorem dX8_readsPlace_66 : decode cX8_readsPlace 66 = .ok (.istore_n 3, 1) := by decide +kernel
theorem dX8_readsPlace_67 : decode cX8_readsPlace 67 = .ok (.aload_n 0, 1) := by decide +kernel
theorem dX8_readsPlace_68 : decode cX8_readsPlace 68 = .ok (.invokevirtual 199, 3) := by decide +kernel
theorem dX8_readsPlace_71 : decode cX8_readsPlace 71 = .ok (.aload_n 0, 1) := by decide +kernel
theorem dX8_readsPlace_72 : decode cX8_readsPlace 72 = .ok (.iconst 0, 1) := by decide +kernel
theorem dX8_readsPlace_73 : decode cX8_readsPlace 73 = .ok (.aload_n 0, 1) := by decide +kernel
theorem dX8_readsPlace_74 : decode cX8_readsPlace 74 = .ok (.getfield 13, 3) := by decide +kernel
theorem dX8_readsPlace_77 : decode cX8_readsPlace 77 = .ok (.iconst 5, 1) := by decide +kernel
theorem dX8_readsPlace_78 : decode cX8_readsPlace 78 = .ok (.aload_n 0, 1) := by decide +kernel
theorem dX8_readsPlace_79 : decode cX8_readsPlace 79 = .ok (.getfield 206, 3) := by decide +kernel
theorem dX8_readsPlace_82 : decode cX8_readsPlace 82 = .ok (.imul, 1) := by decide +kernel
theorem dX8_readsPlace_83 : decode cX8_readsPlace 83 = .ok (.iconst 1, 1) := by decide +kernel
theorem dX8_readsPlace_84 : decode cX8_readsPlace 84 = .ok (.iadd, 1) := by decide +kernel
theorem dX8_readsPlace_85 : decode cX8_readsPlace 85 = .ok (.iaload, 1) := by decide +kernel
theorem dX8_readsPlace_86 : decode cX8_readsPlace 86 = .ok (.aload_n 0, 1) := by decide +kernel
theorem dX8_readsPlace_87 : decode cX8_readsPlace 87 = .ok (.getfield 13, 3) := by decide +kernel
theorem dX8_readsPlace_90 : decode cX8_readsPlace 90 = .ok (.iconst 5, 1) := by decide +kernel
theorem dX8_readsPlace_91 : decode cX8_readsPlace 91 = .ok (.aload_n 0, 1) := by decide +kernel
theorem dX8_readsPlace_92 : decode cX8_readsPlace 92 = .ok (.getfield 206, 3) := by decide +kernel
theorem dX8_readsPlace_95 : decode cX8_readsPlace 95 = .ok (.imul, 1) := by decide +kernel
theorem dX8_readsPlace_96 : decode cX8_readsPlace 96 = .ok (.iconst 3, 1) := by decide +kernel
theorem dX8_readsPlace_97 : decode cX8_readsPlace 97 = .ok (.iadd, 1) := by decide +kernel
theorem dX8_readsPlace_98 : decode cX8_readsPlace 98 = .ok (.iaload, 1) := by decide +kernel
theorem dX8_readsPlace_99 : decode cX8_readsPlace 99 = .ok (.isub, 1) := by decide +kernel
theorem dX8_readsPlace_100 : decode cX8_readsPlace 100 = .ok (.invokevirtual 212, 3) := by decide +kernel
theorem dX8_readsPlace_103 : decode cX8_readsPlace 103 = .ok (.ifCond .ne 5, 3) := by decide +kernel
theorem dX8_readsPlace_106 : decode cX8_readsPlace 106 = .ok (.iconst 0, 1) := by decide +kernel
theorem dX8_readsPlace_107 : decode cX8_readsPlace 107 = .ok (.ireturn, 1) := by decide +kernel
theorem dX8_readsPlace_108 : decode cX8_readsPlace 108 = .ok (.aload_n 0, 1) := by decide +kernel
theorem dX8_readsPlace_109 : decode cX8_readsPlace 109 = .ok (.iload_n 1, 1) := by decide +kernel
theorem dX8_readsPlace_110 : decode cX8_readsPlace 110 = .ok (.iload_n 3, 1) := by decide +kernel
theorem dX8_readsPlace_111 : decode cX8_readsPlace 111 = .ok (.aload_n 0, 1) := by decide +kernel
theorem dX8_readsPlace_112 : decode cX8_readsPlace 112 = .ok (.getfield 182, 3) := by decide +kernel
theorem dX8_readsPlace_115 : decode cX8_readsPlace 115 = .ok (.invokevirtual 219, 3) := by decide +kernel
theorem dX8_readsPlace_118 : decode cX8_readsPlace 118 = .ok (.ifCond .eq 9, 3) := by decide +kernel
theorem dX8_readsPlace_121 : decode cX8_readsPlace 121 = .ok (.aload_n 0, 1) := by decide +kernel
theorem dX8_readsPlace_122 : decode cX8_readsPlace 122 = .ok (.iconst 4, 1) := by decide +kernel
theorem dX8_readsPlace_123 : decode cX8_readsPlace 123 = .ok (.invokevirtual 195, 3) := by decide +kernel
theorem dX8_readsPlace_126 : decode cX8_readsPlace 126 = .ok (.ireturn, 1) := by decide +kernel
theorem dX8_readsPlace_127 : decode cX8_readsPlace 127 = .ok (.aload_n 0, 1) := by decide +kernel
theorem dX8_readsPlace_128 : decode cX8_readsPlace 128 = .ok (.getfield 29, 3) := by decide +kernel
theorem dX8_readsPlace_131 : decode cX8_readsPlace 131 = .ok (.bipush 6, 2) := by decide +kernel
theorem dX8_readsPlace_133 : decode cX8_readsPlace 133 = .ok (.iload_n 2, 1) := by decide +kernel
theorem dX8_readsPlace_134 : decode cX8_readsPlace 134 = .ok (.imul, 1) := by decide +kernel
theorem dX8_readsPlace_135 : decode cX8_readsPlace 135 = .ok (.aload_n 0, 1) := by decide +kernel
theorem dX8_readsPlace_136 : decode cX8_readsPlace 136 = .ok (.getfield 20, 3) := by decide +kernel
theorem dX8_readsPlace_139 : decode cX8_readsPlace 139 = .ok (.iload_n 2, 1) := by decide +kernel
theorem dX8_readsPlace_140 : decode cX8_readsPlace 140 = .ok (.iaload, 1) := by decide +kernel
theorem dX8_readsPlace_141 : decode cX8_readsPlace 141 = .ok (.iadd, 1) := by decide +kernel
theorem dX8_readsPlace_142 : decode cX8_readsPlace 142 = .ok (.iload_n 3, 1) := by decide +kernel
theorem dX8_readsPlace_143 : decode cX8_readsPlace 143 = .ok (.iastore, 1) := by decide +kernel
theorem dX8_readsPlace_144 : decode cX8_readsPlace 144 = .ok (.aload_n 0, 1) := by decide +kernel
theorem dX8_readsPlace_145 : decode cX8_readsPlace 145 = .ok (.getfield 32, 3) := by decide +kernel
theorem dX8_readsPlace_148 : decode cX8_readsPlace 148 = .ok (.bipush 6, 2) := by decide +kernel
theorem dX8_readsPlace_150 : decode cX8_readsPlace 150 = .ok (.iload_n 2, 1) := by decide +kernel
theorem dX8_readsPlace_151 : decode cX8_readsPlace 151 = .ok (.imul, 1) := by decide +kernel
theorem dX8_readsPlace_152 : decode cX8_readsPlace 152 = .ok (.aload_n 0, 1) := by decide +kernel
theorem dX8_readsPlace_153 : decode cX8_readsPlace 153 = .ok (.getfield 20, 3) := by decide +kernel
theorem dX8_readsPlace_156 : decode cX8_readsPlace 156 = .ok (.iload_n 2, 1) := by decide +kernel
theorem dX8_readsPlace_157 : decode cX8_readsPlace 157 = .ok (.iaload, 1) := by decide +kernel
theorem dX8_readsPlace_158 : decode cX8_readsPlace 158 = .ok (.iadd, 1) := by decide +kernel
theorem dX8_readsPlace_159 : decode cX8_readsPlace 159 = .ok (.aload_n 0, 1) := by decide +kernel
theorem dX8_readsPlace_160 : decode cX8_readsPlace 160 = .ok (.getfield 182, 3) := by decide +kernel
theorem dX8_readsPlace_163 : decode cX8_readsPlace 163 = .ok (.iastore, 1) := by decide +kernel
theorem dX8_readsPlace_164 : decode cX8_readsPlace 164 = .ok (.aload_n 0, 1) := by decide +kernel
theorem dX8_readsPlace_165 : decode cX8_readsPlace 165 = .ok (.getfield 20, 3) := by decide +kernel
theorem dX8_readsPlace_168 : decode cX8_readsPlace 168 = .ok (.iload_n 2, 1) := by decide +kernel
theorem dX8_readsPlace_169 : decode cX8_readsPlace 169 = .ok (.aload_n 0, 1) := by decide +kernel
theorem dX8_readsPlace_170 : decode cX8_readsPlace 170 = .ok (.getfield 20, 3) := by decide +kernel
theorem dX8_readsPlace_173 : decode cX8_readsPlace 173 = .ok (.iload_n 2, 1) := by decide +kernel
theorem dX8_readsPlace_174 : decode cX8_readsPlace 174 = .ok (.iaload, 1) := by decide +kernel
theorem dX8_readsPlace_175 : decode cX8_readsPlace 175 = .ok (.iconst 1, 1) := by decide +kernel
theorem dX8_readsPlace_176 : decode cX8_readsPlace 176 = .ok (.iadd, 1) := by decide +kernel
theorem dX8_readsPlace_177 : decode cX8_readsPlace 177 = .ok (.iastore, 1) := by decide +kernel
theorem dX8_readsPlace_178 : decode cX8_readsPlace 178 = .ok (.aload_n 0, 1) := by decide +kernel
theorem dX8_readsPlace_179 : decode cX8_readsPlace 179 = .ok (.invokevirtual 199, 3) := by decide +kernel
theorem dX8_readsPlace_182 : decode cX8_readsPlace 182 = .ok (.iconst 1, 1) := by decide +kernel
theorem dX8_readsPlace_183 : decode cX8_readsPlace 183 = .ok (.ireturn, 1) := by decide +kernel
def mX8_readsPlace : MM := (yX8_readsPlace, cX8_readsPlace, 4, Option.some Jvm.ClassFile.FieldType.boolean, { frames := 2, cells := 0, slots := 0, locals := 44 })
def fX8_readsPlace (σ : SS) (a1 : Int32) : Option (Bool × SS) :=
  vthen (((12 : Int32) * (gI σ 73 11)) + a1) fun v1 =>
  grd (inb ((5 : Int32) * (gI σ 73 11)) 10) <|
  grd (inb (((5 : Int32) * (gI σ 73 11)) + (2 : Int32)) 10) <|
  bnd (fX8_isNumber σ (0 : Int32) ((gI σ 75 (Int32.toNatClampNeg ((5 : Int32) * (gI σ 73 11)))) - (gI σ 75 (Int32.toNatClampNeg (((5 : Int32) * (gI σ 73 11)) + (2 : Int32)))))) fun b5 σ7 =>
  if b5 = true then (
    grd (inb v1 24) <|
    if (gI σ7 77 (Int32.toNatClampNeg v1)) = (6 : Int32) then (
      bnd (fX8_wrong σ7 (3 : Int32)) fun b31 σ33 =>
      some (b31, σ33)
      ) else (
      vthen (gI σ7 73 7) fun v9 =>
      bnd1 (fX8_next σ7) fun σ10 =>
      grd (inb (((5 : Int32) * (gI σ10 73 11)) + (1 : Int32)) 10) <|
      grd (inb (((5 : Int32) * (gI σ10 73 11)) + (3 : Int32)) 10) <|
      bnd (fX8_isNumber σ10 (0 : Int32) ((gI σ10 75 (Int32.toNatClampNeg (((5 : Int32) * (gI σ10 73 11)) + (1 : Int32)))) - (gI σ10 75 (Int32.toNatClampNeg (((5 : Int32) * (gI σ10 73 11)) + (3 : Int32)))))) fun b14 σ16 =>
      if b14 = true then (
        bnd1 (fX8_isOver σ16 a1 v9 (gI σ16 73 7)) fun b18 =>
        if b18 = true then (
          bnd (fX8_wrong σ16 (4 : Int32)) fun b27 σ29 =>
          some (b27, σ29)
          ) else (
          grd (inb (((6 : Int32) * v1) + (gI σ16 77 (Int32.toNatClampNeg v1))) 144) <|
          vthen (sI σ16 80 (Int32.toNatClampNeg (((6 : Int32) * v1) + (gI σ16 77 (Int32.toNatClampNeg v1)))) v9) fun σ21 =>
          grd (inb (((6 : Int32) * v1) + (gI σ21 77 (Int32.toNatClampNeg v1))) 144) <|
          vthen (sI σ21 81 (Int32.toNatClampNeg (((6 : Int32) * v1) + (gI σ21 77 (Int32.toNatClampNeg v1)))) (gI σ21 73 7)) fun σ23 =>
          vthen (sI σ23 77 (Int32.toNatClampNeg v1) ((gI σ23 77 (Int32.toNatClampNeg v1)) + (1 : Int32))) fun σ24 =>
          bnd1 (fX8_next σ24) fun σ25 =>
          some (true, σ25)
          )
        ) else (
        some (false, σ16)
        )
      )
    ) else (
    some (false, σ7)
    )

set_option maxRecDepth 20000 in
theorem sX8_readsPlace {g : GG} {σ : SS} {a1 : Int32} {r : Bool × SS} (hr : fX8_readsPlace σ a1 = some r)  : Ct g mX8_readsPlace [.ref (ad g 73), .int a1] NF σ (some (.int (b2i r.1))) NF r.2 := by
  refine Ct.of (by decide +kernel) (nle rfl) fun hw0 => ?_
  have hw := hw0 rfl
  unfold fX8_readsPlace at hr
  change RR g mX8_readsPlace (FinR g mX8_readsPlace (some (.int (b2i r.1))) NF r.2) zF 0 [(0, .ref (ad g 73)), (1, .int a1)] [] σ
  refine r_bipush (pc := 0) (v := (12 : Int32)) dX8_readsPlace_0 rfl ?_
  refine r_aload_n (pc := 2) (j := 0) dX8_readsPlace_2 rfl rfl ?_
  refine gf8_11 (pc := 3) tw_5_105 rfl dX8_readsPlace_3 ?_
  refine r_imul (pc := 6) dX8_readsPlace_6 ?_
  refine r_iload_n (pc := 7) (j := 1) dX8_readsPlace_7 rfl rfl ?_
  refine r_iadd (pc := 8) dX8_readsPlace_8 ?_
  refine r_topi fun v1 ev1 => ?_
  replace hr := vthen_inv hr v1 ev1
  refine r_istore_n (pc := 9) (ls1 := [(2, .int v1), (0, .ref (ad g 73)), (1, .int a1)]) dX8_readsPlace_9 rfl (nle rfl) rfl ?_
  refine r_aload_n (pc := 10) (j := 1) dX8_readsPlace_10 rfl rfl ?_
  refine r_iconst (pc := 11) (v := (0 : Int32)) dX8_readsPlace_11 rfl ?_
  refine r_aload_n (pc := 12) (j := 1) dX8_readsPlace_12 rfl rfl ?_
  refine gf8_13 (pc := 13) tw_5_107 hw dX8_readsPlace_13 ?_
  refine r_iconst (pc := 16) (v := (5 : Int32)) dX8_readsPlace_16 rfl ?_
  refine r_aload_n (pc := 17) (j := 1) dX8_readsPlace_17 rfl rfl ?_
  refine gf8_11 (pc := 18) tw_5_105 rfl dX8_readsPlace_18 ?_
  refine r_imul (pc := 21) dX8_readsPlace_21 ?_
  obtain ⟨h2, hr⟩ := grd_inv hr
  refine x_iald (pc := 22) (k := (Int32.toNatClampNeg ((5 : Int32) * (gI σ 73 11)))) rfl h2 rfl dX8_readsPlace_22 ?_
  refine r_aload_n (pc := 23) (j := 1) dX8_readsPlace_23 rfl rfl ?_
  refine gf8_13 (pc := 24) tw_5_107 hw dX8_readsPlace_24 ?_
  refine r_iconst (pc := 27) (v := (5 : Int32)) dX8_readsPlace_27 rfl ?_
  refine r_aload_n (pc := 28) (j := 1) dX8_readsPlace_28 rfl rfl ?_
  refine gf8_11 (pc := 29) tw_5_105 rfl dX8_readsPlace_29 ?_
  refine r_imul (pc := 32) dX8_readsPlace_32 ?_
  refine r_iconst (pc := 33) (v := (2 : Int32)) dX8_readsPlace_33 rfl ?_
  refine r_iadd (pc := 34) dX8_readsPlace_34 ?_
  obtain ⟨h3, hr⟩ := grd_inv hr
  refine x_iald (pc := 35) (k := (Int32.toNatClampNeg (((5 : Int32) * (gI σ 73 11)) + (2 : Int32)))) rfl h3 rfl dX8_readsPlace_35 ?_
  refine r_isub (pc := 36) dX8_readsPlace_36 ?_
  obtain ⟨b5, σ7, eσ7, hr⟩ := bnd_inv hr
  refine kX8_isNumber (pc := 37) eσ7 tw_6_100 ⟨nle rfl, nle rfl⟩ (nle rfl) dX8_readsPlace_37 fun hσ7 => ?_
  refine r_ifB_ne (pc := 40) (tgt := 45) dX8_readsPlace_40 rfl (fun hc => ?_) (fun hc => ?_)
  · replace hr := ite_t hc hr
    refine r_aload_n (pc := 45) (j := 1) dX8_readsPlace_45 rfl rfl ?_
    refine gf8_15 (pc := 46) tw_5_109 hσ7 dX8_readsPlace_46 ?_
    refine r_iload_n (pc := 49) (j := 0) dX8_readsPlace_49 rfl rfl ?_
    obtain ⟨h8, hr⟩ := grd_inv hr
    refine x_iald (pc := 50) (k := (Int32.toNatClampNeg v1)) rfl h8 rfl dX8_readsPlace_50 ?_
    refine r_bipush (pc := 51) (v := (6 : Int32)) dX8_readsPlace_51 rfl ?_
    refine r_icmp_ne (pc := 53) (tgt := 62) dX8_readsPlace_53 rfl (fun hc => ?_) (fun hc => ?_)
    · replace hr := ite_f hc hr
      refine r_aload_n (pc := 62) (j := 1) dX8_readsPlace_62 rfl rfl ?_
      refine gf8_7 (pc := 63) tw_5_101 rfl dX8_readsPlace_63 ?_
      refine r_topi fun v9 ev9 => ?_
      replace hr := vthen_inv hr v9 ev9
      refine r_istore_n (pc := 66) (ls1 := [(3, .int v9), (2, .int v1), (0, .ref (ad g 73)), (1, .int a1)]) dX8_readsPlace_66 rfl (nle rfl) rfl ?_
      refine r_aload_n (pc := 67) (j := 2) dX8_readsPlace_67 rfl rfl ?_
      obtain ⟨σ10, eσ10, hr⟩ := bnd1_inv hr
      refine kX8_next (pc := 68) eσ10 tw_6_68 ⟨nle rfl, nle rfl⟩ (nle rfl) dX8_readsPlace_68 fun hσ10 => ?_
      refine r_aload_n (pc := 71) (j := 2) dX8_readsPlace_71 rfl rfl ?_
      refine r_iconst (pc := 72) (v := (0 : Int32)) dX8_readsPlace_72 rfl ?_
      refine r_aload_n (pc := 73) (j := 2) dX8_readsPlace_73 rfl rfl ?_
      refine gf8_13 (pc := 74) tw_5_107 hσ10 dX8_readsPlace_74 ?_
      refine r_iconst (pc := 77) (v := (5 : Int32)) dX8_readsPlace_77 rfl ?_
      refine r_aload_n (pc := 78) (j := 2) dX8_readsPlace_78 rfl rfl ?_
      refine gf8_11 (pc := 79) tw_5_105 rfl dX8_readsPlace_79 ?_
      refine r_imul (pc := 82) dX8_readsPlace_82 ?_
      refine r_iconst (pc := 83) (v := (1 : Int32)) dX8_readsPlace_83 rfl ?_
      refine r_iadd (pc := 84) dX8_readsPlace_84 ?_
      obtain ⟨h11, hr⟩ := grd_inv hr
      refine x_iald (pc := 85) (k := (Int32.toNatClampNeg (((5 : Int32) * (gI σ10 73 11)) + (1 : Int32)))) rfl h11 rfl dX8_readsPlace_85 ?_
      refine r_aload_n (pc := 86) (j := 2) dX8_readsPlace_86 rfl rfl ?_
      refine gf8_13 (pc := 87) tw_5_107 hσ10 dX8_readsPlace_87 ?_
      refine r_iconst (pc := 90) (v := (5 : Int32)) dX8_readsPlace_90 rfl ?_
      refine r_aload_n (pc := 91) (j := 2) dX8_readsPlace_91 rfl rfl ?_
      refine gf8_11 (pc := 92) tw_5_105 rfl dX8_readsPlace_92 ?_
      refine r_imul (pc := 95) dX8_readsPlace_95 ?_
      refine r_iconst (pc := 96) (v := (3 : Int32)) dX8_readsPlace_96 rfl ?_
      refine r_iadd (pc := 97) dX8_readsPlace_97 ?_
      obtain ⟨h12, hr⟩ := grd_inv hr
      refine x_iald (pc := 98) (k := (Int32.toNatClampNeg (((5 : Int32) * (gI σ10 73 11)) + (3 : Int32)))) rfl h12 rfl dX8_readsPlace_98 ?_
      refine r_isub (pc := 99) dX8_readsPlace_99 ?_
      obtain ⟨b14, σ16, eσ16, hr⟩ := bnd_inv hr
      refine kX8_isNumber (pc := 100) eσ16 tw_6_100 ⟨nle rfl, nle rfl⟩ (nle rfl) dX8_readsPlace_100 fun hσ16 => ?_
      refine r_ifB_ne (pc := 103) (tgt := 108) dX8_readsPlace_103 rfl (fun hc => ?_) (fun hc => ?_)
      · replace hr := ite_t hc hr
        refine r_aload_n (pc := 108) (j := 2) dX8_readsPlace_108 rfl rfl ?_
        refine r_iload_n (pc := 109) (j := 3) dX8_readsPlace_109 rfl rfl ?_
        refine r_iload_n (pc := 110) (j := 0) dX8_readsPlace_110 rfl rfl ?_
        refine r_aload_n (pc := 111) (j := 2) dX8_readsPlace_111 rfl rfl ?_
        refine gf8_7 (pc := 112) tw_5_101 rfl dX8_readsPlace_112 ?_
        obtain ⟨b18, hb18, hr⟩ := bnd1_inv hr
        refine kX8_isOver (pc := 115) hb18 tw_6_119 ⟨nle rfl, nle rfl⟩ (nle rfl) dX8_readsPlace_115 ?_
        refine r_ifB_eq (pc := 118) (tgt := 127) dX8_readsPlace_118 rfl (fun hc => ?_) (fun hc => ?_)
        · replace hr := ite_f hc hr
          refine r_aload_n (pc := 127) (j := 2) dX8_readsPlace_127 rfl rfl ?_
          refine gf8_18 (pc := 128) tw_5_112 hσ16 dX8_readsPlace_128 ?_
          refine r_bipush (pc := 131) (v := (6 : Int32)) dX8_readsPlace_131 rfl ?_
          refine r_iload_n (pc := 133) (j := 1) dX8_readsPlace_133 rfl rfl ?_
          refine r_imul (pc := 134) dX8_readsPlace_134 ?_
          refine r_aload_n (pc := 135) (j := 2) dX8_readsPlace_135 rfl rfl ?_
          refine gf8_15 (pc := 136) tw_5_109 hσ16 dX8_readsPlace_136 ?_
          refine r_iload_n (pc := 139) (j := 1) dX8_readsPlace_139 rfl rfl ?_
          refine x_iald (pc := 140) (k := (Int32.toNatClampNeg v1)) rfl h8 rfl dX8_readsPlace_140 ?_
          refine r_iadd (pc := 141) dX8_readsPlace_141 ?_
          refine r_iload_n (pc := 142) (j := 0) dX8_readsPlace_142 rfl rfl ?_
          obtain ⟨h20, hr⟩ := grd_inv hr
          refine x_iast (pc := 143) (j := (Int32.toNatClampNeg (((6 : Int32) * v1) + (gI σ16 77 (Int32.toNatClampNeg v1))))) rfl h20 rfl dX8_readsPlace_143 fun σ21 eσ21 => ?_
          replace hr := vthen_inv hr σ21 eσ21
          have hσ21 := wtI eσ21 hσ16
          refine r_aload_n (pc := 144) (j := 2) dX8_readsPlace_144 rfl rfl ?_
          refine gf8_19 (pc := 145) tw_5_113 hσ21 dX8_readsPlace_145 ?_
          refine r_bipush (pc := 148) (v := (6 : Int32)) dX8_readsPlace_148 rfl ?_
          refine r_iload_n (pc := 150) (j := 1) dX8_readsPlace_150 rfl rfl ?_
          refine r_imul (pc := 151) dX8_readsPlace_151 ?_
          refine r_aload_n (pc := 152) (j := 2) dX8_readsPlace_152 rfl rfl ?_
          refine gf8_15 (pc := 153) tw_5_109 hσ21 dX8_readsPlace_153 ?_
          refine r_iload_n (pc := 156) (j := 1) dX8_readsPlace_156 rfl rfl ?_
          refine x_iald (pc := 157) (k := (Int32.toNatClampNeg v1)) rfl h8 rfl dX8_readsPlace_157 ?_
          refine r_iadd (pc := 158) dX8_readsPlace_158 ?_
          refine r_aload_n (pc := 159) (j := 2) dX8_readsPlace_159 rfl rfl ?_
          refine gf8_7 (pc := 160) tw_5_101 rfl dX8_readsPlace_160 ?_
          obtain ⟨h22, hr⟩ := grd_inv hr
          refine x_iast (pc := 163) (j := (Int32.toNatClampNeg (((6 : Int32) * v1) + (gI σ21 77 (Int32.toNatClampNeg v1))))) rfl h22 rfl dX8_readsPlace_163 fun σ23 eσ23 => ?_
          replace hr := vthen_inv hr σ23 eσ23
          have hσ23 := wtI eσ23 hσ21
          refine r_aload_n (pc := 164) (j := 2) dX8_readsPlace_164 rfl rfl ?_
          refine gf8_15 (pc := 165) tw_5_109 hσ23 dX8_readsPlace_165 ?_
          refine r_iload_n (pc := 168) (j := 1) dX8_readsPlace_168 rfl rfl ?_
          refine r_aload_n (pc := 169) (j := 2) dX8_readsPlace_169 rfl rfl ?_
          refine gf8_15 (pc := 170) tw_5_109 hσ23 dX8_readsPlace_170 ?_
          refine r_iload_n (pc := 173) (j := 1) dX8_readsPlace_173 rfl rfl ?_
          refine x_iald (pc := 174) (k := (Int32.toNatClampNeg v1)) rfl h8 rfl dX8_readsPlace_174 ?_
          refine r_iconst (pc := 175) (v := (1 : Int32)) dX8_readsPlace_175 rfl ?_
          refine r_iadd (pc := 176) dX8_readsPlace_176 ?_
          refine x_iast (pc := 177) (j := (Int32.toNatClampNeg v1)) rfl h8 rfl dX8_readsPlace_177 fun σ24 eσ24 => ?_
          replace hr := vthen_inv hr σ24 eσ24
          have hσ24 := wtI eσ24 hσ23
          refine r_aload_n (pc := 178) (j := 2) dX8_readsPlace_178 rfl rfl ?_
          obtain ⟨σ25, eσ25, hr⟩ := bnd1_inv hr
          refine kX8_next (pc := 179) eσ25 tw_6_68 ⟨nle rfl, nle rfl⟩ (nle rfl) dX8_readsPlace_179 fun hσ25 => ?_
          refine r_iconst (pc := 182) (v := (1 : Int32)) dX8_readsPlace_182 rfl ?_
          exact l_osz hr (r_zret (pc := 183) (v := b2i true) (ty := .boolean) rfl (b2i_nar _) rfl ⟨Nat.le_refl _, Nat.le_refl _⟩ dX8_readsPlace_183)
        replace hr := ite_t hc hr
        refine r_aload_n (pc := 121) (j := 2) dX8_readsPlace_121 rfl rfl ?_
        refine r_iconst (pc := 122) (v := (4 : Int32)) dX8_readsPlace_122 rfl ?_
        obtain ⟨b27, σ29, eσ29, hr⟩ := bnd_inv hr
        refine kX8_wrong (pc := 123) eσ29 tw_6_96 ⟨nle rfl, nle rfl⟩ (nle rfl) dX8_readsPlace_123 fun hσ29 => ?_
        exact l_osz hr (r_zret (pc := 126) (v := b2i b27) (ty := .boolean) rfl (b2i_nar _) rfl ⟨Nat.le_refl _, Nat.le_refl _⟩ dX8_readsPlace_126)
      replace hr := ite_f hc hr
      refine r_iconst (pc := 106) (v := (0 : Int32)) dX8_readsPlace_106 rfl ?_
      exact l_osz hr (r_zret (pc := 107) (v := b2i false) (ty := .boolean) rfl (b2i_nar _) rfl ⟨Nat.le_refl _, Nat.le_refl _⟩ dX8_readsPlace_107)
    replace hr := ite_t hc hr
    refine r_aload_n (pc := 56) (j := 1) dX8_readsPlace_56 rfl rfl ?_
    refine r_iconst (pc := 57) (v := (3 : Int32)) dX8_readsPlace_57 rfl ?_
    obtain ⟨b31, σ33, eσ33, hr⟩ := bnd_inv hr
    refine kX8_wrong (pc := 58) eσ33 tw_6_96 ⟨nle rfl, nle rfl⟩ (nle rfl) dX8_readsPlace_58 fun hσ33 => ?_
    exact l_osz hr (r_zret (pc := 61) (v := b2i b31) (ty := .boolean) rfl (b2i_nar _) rfl ⟨Nat.le_refl _, Nat.le_refl _⟩ dX8_readsPlace_61)
  replace hr := ite_f hc hr
  refine r_iconst (pc := 43) (v := (0 : Int32)) dX8_readsPlace_43 rfl ?_
  exact l_osz hr (r_zret (pc := 44) (v := b2i false) (ty := .boolean) rfl (b2i_nar _) rfl ⟨Nat.le_refl _, Nat.le_refl _⟩ dX8_readsPlace_44)

theorem kX8_readsPlace {g : GG} {σ : SS} {a1 : Int32} {v : Bool} {σ2 : SS} {M : MM} {F : State → Array Value → List Frame → State → Prop} {pc index : Nat} {ls : List (Nat × Value)} {rest : List Value} (hf : fX8_readsPlace σ a1 = some (v, σ2))  (hl : Cond.methodLink M.1.cls index yX8_readsPlace ∈ lw_gt) (hR : mX8_readsPlace.2.2.2.2.frames + 1 ≤ M.2.2.2.2.frames ∧ 8 + (mX8_readsPlace.2.2.1 + 11) + mX8_readsPlace.2.2.2.2.locals ≤ M.2.2.2.2.locals) (hrest : (rest.map fun v => v.category).sum ≤ 8) (hd : decode M.2.1 pc = .ok (.invokevirtual index, 3)) (k : WT σ2 → RR g M F zF (pc + 3) ls (.int (b2i v) :: rest) σ2) : RR g M F zF pc ls (.int a1 :: .ref (ad g 73) :: rest) σ :=
  r_callV (z := zF) (N := mX8_readsPlace) (nn := 1) (o1 := some (.int (b2i v))) (sX8_readsPlace hf ) (rfl : shp 73 = (8, 0)) (by decide) (shp_le (rfl : shp 73 = (8, 0)) (nle rfl)) (ci := 8) rfl rfl tw_6_118 tw_1_10 hl tw_6_117 tp_44 ⟨by decide, by decide, rfl⟩ hR rfl hrest hd ⟨Nat.zero_le _, Nat.zero_le _⟩ rfl (fun h => k (h rfl))

theorem dX8_isLetter_0 : decode cX8_isLetter 0 = .ok (.aload_n 0, 1) := by decide +kernel
theorem dX8_isLetter_1 : decode cX8_isLetter 1 = .ok (.getfield 162, 3) := by decide +kernel
theorem dX8_isLetter_4 : decode cX8_isLetter 4 = .ok (.iconst 1, 1) := by decide +kernel
theorem dX8_isLetter_5 : decode cX8_isLetter 5 = .ok (.if_icmp .ne 26, 3) := by decide +kernel
theorem dX8_isLetter_8 : decode cX8_isLetter 8 = .ok (.aload_n 0, 1) := by decide +kernel
theorem dX8_isLetter_9 : decode cX8_isLetter 9 = .ok (.getfield 179, 3) := by decide +kernel
theorem dX8_isLetter_12 : decode cX8_isLetter 12 = .ok (.iconst 1, 1) := by decide +kernel
theorem dX8_isLetter_13 : decode cX8_isLetter 13 = .ok (.if_icmp .ne 18, 3) := by decide +kernel
theorem dX8_isLetter_16 : decode cX8_isLetter 16 = .ok (.aload_n 0, 1) := by decide +kernel
theorem dX8_isLetter_17 : decode cX8_isLetter 17 = .ok (.getfield 169, 3) := by decide +kernel
theorem dX8_isLetter_20 : decode cX8_isLetter 20 = .ok (.ldc2_w 222, 3) := by decide +kernel
theorem dX8_isLetter_23 : decode cX8_isLetter 23 = .ok (.lcmp, 1) := by decide +kernel
theorem dX8_isLetter_24 : decode cX8_isLetter 24 = .ok (.ifCond .ge 7, 3) := by decide +kernel
theorem dX8_isLetter_27 : decode cX8_isLetter 27 = .ok (.iconst 1, 1) := by decide +kernel
theorem dX8_isLetter_28 : decode cX8_isLetter 28 = .ok (.goto 4, 3) := by decide +kernel
theorem dX8_isLetter_31 : decode cX8_isLetter 31 = .ok (.iconst 0, 1) := by decide +kernel
theorem dX8_isLetter_32 : decode cX8_isLetter 32 = .ok (.ireturn, 1) := by decide +kernel
def mX8_isLetter : MM := (yX8_isLetter, cX8_isLetter, 1, Option.some Jvm.ClassFile.FieldType.boolean, { frames := 0, cells := 0, slots := 0, locals := 0 })
def fX8_isLetter (σ0 : SS)  : Bool :=
  vthen (fun (_u : Unit) =>
    false
    ) fun j31 =>
  if (gI σ0 73 5) = (1 : Int32) then (
    if (gI σ0 73 9) = (1 : Int32) then (
      if 0 ≤ (lg_cmp (gL σ0 73 10) (7 : Int64)) then (
        j31 ()
        ) else (
        true
        )
      ) else (
      j31 ()
      )
    ) else (
    j31 ()
    )

set_option maxRecDepth 20000 in
theorem sX8_isLetter {g : GG} {σ0 : SS}  {r : Bool} (hr : fX8_isLetter σ0 = r)  : Ct g mX8_isLetter [.ref (ad g 73)] NF σ0 (some (.int (b2i r))) NF σ0 := by
  refine Ct.of (by decide +kernel) (nle rfl) fun hw0 => ?_
  have hw := hw0 rfl
  unfold fX8_isLetter at hr
  change RR g mX8_isLetter (FinR g mX8_isLetter (some (.int (b2i r))) NF σ0) zF 0 [(0, .ref (ad g 73))] [] σ0
  refine r_aload_n (pc := 0) (j := 0) dX8_isLetter_0 rfl rfl ?_
  refine gf8_5 (pc := 1) tw_5_99 rfl dX8_isLetter_1 ?_
  refine r_iconst (pc := 4) (v := (1 : Int32)) dX8_isLetter_4 rfl ?_
  obtain ⟨j31, ej31, hr⟩ := vth_ex hr
  have hj31 : j31 () = r → RR g mX8_isLetter (FinR g mX8_isLetter (some (.int (b2i r))) NF σ0) zF 31 [] [] σ0 := by
    intro  hr
    replace hr := (congrFun ej31 ()).symm.trans hr
    refine r_iconst (pc := 31) (v := (0 : Int32)) dX8_isLetter_31 rfl ?_
    exact l_pz hr (r_zret (pc := 32) (v := b2i false) (ty := .boolean) rfl (b2i_nar _) rfl ⟨Nat.le_refl _, Nat.le_refl _⟩ dX8_isLetter_32)
  refine r_icmp_ne (pc := 5) (tgt := 31) dX8_isLetter_5 rfl (fun hc => ?_) (fun hc => ?_)
  · replace hr := ite_f hc hr
    exact r_pick (ls1 := []) [] rfl (hj31  hr)
  replace hr := ite_t hc hr
  refine r_aload_n (pc := 8) (j := 0) dX8_isLetter_8 rfl rfl ?_
  refine gf8_9 (pc := 9) tw_5_103 rfl dX8_isLetter_9 ?_
  refine r_iconst (pc := 12) (v := (1 : Int32)) dX8_isLetter_12 rfl ?_
  refine r_icmp_ne (pc := 13) (tgt := 31) dX8_isLetter_13 rfl (fun hc => ?_) (fun hc => ?_)
  · replace hr := ite_f hc hr
    exact r_pick (ls1 := []) [] rfl (hj31  hr)
  replace hr := ite_t hc hr
  refine r_aload_n (pc := 16) (j := 0) dX8_isLetter_16 rfl rfl ?_
  refine gf8_10 (pc := 17) tw_5_104 rfl dX8_isLetter_17 ?_
  refine r_ldc2 (pc := 20) (v := (7 : Int64)) dX8_isLetter_20 tw_6_132 ?_
  refine r_lcmp (pc := 23) dX8_isLetter_23 ?_
  refine r_if_ge (pc := 24) (tgt := 31) dX8_isLetter_24 rfl (fun hc => ?_) (fun hc => ?_)
  · replace hr := ite_t hc hr
    exact r_pick (ls1 := []) [] rfl (hj31  hr)
  replace hr := ite_f hc hr
  refine r_iconst (pc := 27) (v := (1 : Int32)) dX8_isLetter_27 rfl ?_
  refine r_goto (pc := 28) (tgt := 32) dX8_isLetter_28 rfl ?_
  exact l_pz hr (r_zret (pc := 32) (v := b2i true) (ty := .boolean) rfl (b2i_nar _) rfl ⟨Nat.le_refl _, Nat.le_refl _⟩ dX8_isLetter_32)

theorem kX8_isLetter {g : GG} {σ0 : SS}  {v : Bool} {M : MM} {F : State → Array Value → List Frame → State → Prop} {pc index : Nat} {ls : List (Nat × Value)} {rest : List Value} (hf : fX8_isLetter σ0 = v)  (hl : Cond.methodLink M.1.cls index yX8_isLetter ∈ lw_gt) (hR : mX8_isLetter.2.2.2.2.frames + 1 ≤ M.2.2.2.2.frames ∧ 8 + (mX8_isLetter.2.2.1 + 11) + mX8_isLetter.2.2.2.2.locals ≤ M.2.2.2.2.locals) (hrest : (rest.map fun v => v.category).sum ≤ 8) (hd : decode M.2.1 pc = .ok (.invokevirtual index, 3)) (k : RR g M F zF (pc + 3) ls (.int (b2i v) :: rest) σ0) : RR g M F zF pc ls (.ref (ad g 73) :: rest) σ0 :=
  r_callV (z := zF) (N := mX8_isLetter) (nn := 0) (o1 := some (.int (b2i v))) (sX8_isLetter hf ) (rfl : shp 73 = (8, 0)) (by decide) (shp_le (rfl : shp 73 = (8, 0)) (nle rfl)) (ci := 8) rfl rfl tw_6_131 tw_1_10 hl tw_6_130 tp_47 ⟨by decide, by decide, rfl⟩ hR rfl hrest hd ⟨Nat.zero_le _, Nat.zero_le _⟩ rfl (fun h => k)

theorem dX8_has_0 : decode cX8_has 0 = .ok (.iload_n 0, 1) := by decide +kernel
theorem dX8_has_1 : decode cX8_has 1 = .ok (.iload_n 1, 1) := by decide +kernel
theorem dX8_has_2 : decode cX8_has 2 = .ok (.ishr, 1) := by decide +kernel
theorem dX8_has_3 : decode cX8_has 3 = .ok (.iconst 1, 1) := by decide +kernel
theorem dX8_has_4 : decode cX8_has 4 = .ok (.iand, 1) := by decide +kernel
theorem dX8_has_5 : decode cX8_has 5 = .ok (.iconst 1, 1) := by decide +kernel
theorem dX8_has_6 : decode cX8_has 6 = .ok (.if_icmp .ne 7, 3) := by decide +kernel
theorem dX8_has_9 : decode cX8_has 9 = .ok (.iconst 1, 1) := by decide +kernel
theorem dX8_has_10 : decode cX8_has 10 = .ok (.goto 4, 3) := by decide +kernel
theorem dX8_has_13 : decode cX8_has 13 = .ok (.iconst 0, 1) := by decide +kernel
theorem dX8_has_14 : decode cX8_has 14 = .ok (.ireturn, 1) := by decide +kernel
def mX8_has : MM := (yX8_has, cX8_has, 2, Option.some Jvm.ClassFile.FieldType.boolean, { frames := 0, cells := 0, slots := 0, locals := 0 })
def fX8_has (σ0 : SS) (a0 : Int32) (a1 : Int32) : Bool :=
  if ((a0 >>> (a1 &&& 31)) &&& (1 : Int32)) = (1 : Int32) then (
    true
    ) else (
    false
    )

set_option maxRecDepth 20000 in
theorem sX8_has {g : GG} {σ0 : SS} {a0 : Int32} {a1 : Int32} {r : Bool} (hr : fX8_has σ0 a0 a1 = r)  : Ct g mX8_has [.int a0, .int a1] NF σ0 (some (.int (b2i r))) NF σ0 := by
  refine Ct.of (by decide +kernel) (nle rfl) fun hw0 => ?_
  have hw := hw0 rfl
  unfold fX8_has at hr
  change RR g mX8_has (FinR g mX8_has (some (.int (b2i r))) NF σ0) zF 0 [(0, .int a0), (1, .int a1)] [] σ0
  refine r_iload_n (pc := 0) (j := 0) dX8_has_0 rfl rfl ?_
  refine r_iload_n (pc := 1) (j := 1) dX8_has_1 rfl rfl ?_
  refine r_ishr (pc := 2) dX8_has_2 ?_
  refine r_iconst (pc := 3) (v := (1 : Int32)) dX8_has_3 rfl ?_
  refine r_iand (pc := 4) dX8_has_4 ?_
  refine r_iconst (pc := 5) (v := (1 : Int32)) dX8_has_5 rfl ?_
  refine r_icmp_ne (pc := 6) (tgt := 13) dX8_has_6 rfl (fun hc => ?_) (fun hc => ?_)
  · replace hr := ite_f hc hr
    refine r_iconst (pc := 13) (v := (0 : Int32)) dX8_has_13 rfl ?_
    exact l_pz hr (r_zret (pc := 14) (v := b2i false) (ty := .boolean) rfl (b2i_nar _) rfl ⟨Nat.le_refl _, Nat.le_refl _⟩ dX8_has_14)
  replace hr := ite_t hc hr
  refine r_iconst (pc := 9) (v := (1 : Int32)) dX8_has_9 rfl ?_
  refine r_goto (pc := 10) (tgt := 14) dX8_has_10 rfl ?_
  exact l_pz hr (r_zret (pc := 14) (v := b2i true) (ty := .boolean) rfl (b2i_nar _) rfl ⟨Nat.le_refl _, Nat.le_refl _⟩ dX8_has_14)

theorem kX8_has {g : GG} {σ0 : SS} {a0 : Int32} {a1 : Int32} {v : Bool} {M : MM} {F : State → Array Value → List Frame → State → Prop} {pc index : Nat} {ls : List (Nat × Value)} {rest : List Value} (hf : fX8_has σ0 a0 a1 = v)  (hl : Cond.methodLink M.1.cls index yX8_has ∈ lw_gt) (hR : mX8_has.2.2.2.2.frames + 1 ≤ M.2.2.2.2.frames ∧ 8 + (mX8_has.2.2.1 + 11) + mX8_has.2.2.2.2.locals ≤ M.2.2.2.2.locals) (hrest : (rest.map fun v => v.category).sum ≤ 8) (hd : decode M.2.1 pc = .ok (.invokestatic index, 3)) (k : RR g M F zF (pc + 3) ls (.int (b2i v) :: rest) σ0) : RR g M F zF pc ls (.int a1 :: .int a0 :: rest) σ0 :=
  r_callS (z := zF) (N := mX8_has) (nn := 2) (o1 := some (.int (b2i v))) (sX8_has hf ) tw_6_135 tw_1_10 hl tw_6_134 ⟨by decide, by decide, rfl⟩ hR rfl hrest hd ⟨Nat.zero_le _, Nat.zero_le _⟩ rfl (fun h => k)

theorem dX8_readsKey_0 : decode cX8_readsKey 0 = .ok (.aload_n 0, 1) := by decide +kernel
theorem dX8_readsKey_1 : decode cX8_readsKey 1 = .ok (.invokevirtual 199, 3) := by decide +kernel
theorem dX8_readsKey_4 : decode cX8_readsKey 4 = .ok (.aload_n 0, 1) := by decide +kernel
theorem dX8_readsKey_5 : decode cX8_readsKey 5 = .ok (.invokevirtual 224, 3) := by decide +kernel
theorem dX8_readsKey_8 : decode cX8_readsKey 8 = .ok (.ifCond .ne 9, 3) := by decide +kernel
theorem dX8_readsKey_11 : decode cX8_readsKey 11 = .ok (.aload_n 0, 1) := by decide +kernel
theorem dX8_readsKey_12 : decode cX8_readsKey 12 = .ok (.iconst 1, 1) := by decide +kernel
theorem dX8_readsKey_13 : decode cX8_readsKey 13 = .ok (.invokevirtual 195, 3) := by decide +kernel
theorem dX8_readsKey_16 : decode cX8_readsKey 16 = .ok (.ireturn, 1) := by decide +kernel
theorem dX8_readsKey_17 : decode cX8_readsKey 17 = .ok (.aload_n 0, 1) := by decide +kernel
theorem dX8_readsKey_18 : decode cX8_readsKey 18 = .ok (.invokevirtual 224, 3) := by decide +kernel
theorem dX8_readsKey_21 : decode cX8_readsKey 21 = .ok (.ifCond .eq 63, 3) := by decide +kernel
theorem dX8_readsKey_24 : decode cX8_readsKey 24 = .ok (.aload_n 0, 1) := by decide +kernel
theorem dX8_readsKey_25 : decode cX8_readsKey 25 = .ok (.getfield 169, 3) := by decide +kernel
theorem dX8_readsKey_28 : decode cX8_readsKey 28 = .ok (.l2i, 1) := by decide +kernel
theorem dX8_readsKey_29 : decode cX8_readsKey 29 = .ok (.iconst 1, 1) := by decide +kernel
theorem dX8_readsKey_30 : decode cX8_readsKey 30 = .ok (.isub, 1) := by decide +kernel
theorem dX8_readsKey_31 : decode cX8_readsKey 31 = .ok (.istore_n 2, 1) := by decide +kernel
theorem dX8_readsKey_32 : decode cX8_readsKey 32 = .ok (.iload_n 2, 1) := by decide +kernel
theorem dX8_readsKey_33 : decode cX8_readsKey 33 = .ok (.aload_n 0, 1) := by decide +kernel
theorem dX8_readsKey_34 : decode cX8_readsKey 34 = .ok (.getfield 20, 3) := by decide +kernel
theorem dX8_readsKey_37 : decode cX8_readsKey 37 = .ok (.iload_n 1, 1) := by decide +kernel
theorem dX8_readsKey_38 : decode cX8_readsKey 38 = .ok (.iaload, 1) := by decide +kernel
theorem dX8_readsKey_39 : decode cX8_readsKey 39 = .ok (.if_icmp .ge 16, 3) := by decide +kernel
theorem dX8_readsKey_42 : decode cX8_readsKey 42 = .ok (.aload_n 0, 1) := by decide +kernel
theorem dX8_readsKey_43 : decode cX8_readsKey 43 = .ok (.getfield 23, 3) := by decide +kernel
theorem dX8_readsKey_46 : decode cX8_readsKey 46 = .ok (.iload_n 1, 1) := by decide +kernel
theorem dX8_readsKey_47 : decode cX8_readsKey 47 = .ok (.iaload, 1) := by decide +kernel
theorem dX8_readsKey_48 : decode cX8_readsKey 48 = .ok (.iload_n 2, 1) := by decide +kernel
theorem dX8_readsKey_49 : decode cX8_readsKey 49 = .ok (.invokestatic 228, 3) := by decide +kernel
theorem dX8_readsKey_52 : decode cX8_readsKey 52 = .ok (.ifCond .eq 9, 3) := by decide +kernel
theorem dX8_readsKey_55 : decode cX8_readsKey 55 = .ok (.aload_n 0, 1) := by decide +kernel
theorem dX8_readsKey_56 : decode cX8_readsKey 56 = .ok (.iconst 5, 1) := by decide +kernel
theorem dX8_readsKey_57 : decode cX8_readsKey 57 = .ok (.invokevirtual 195, 3) := by decide +kernel
theorem dX8_readsKey_60 : decode cX8_readsKey 60 = .ok (.ireturn, 1) := by decide +kernel
theorem dX8_readsKey_61 : decode cX8_readsKey 61 = .ok (.aload_n 0, 1) := by decide +kernel
theorem dX8_readsKey_62 : decode cX8_readsKey 62 = .ok (.getfield 23, 3) := by decide +kernel
theorem dX8_readsKey_65 : decode cX8_readsKey 65 = .ok (.iload_n 1, 1) := by decide +kernel
theorem dX8_readsKey_66 : decode cX8_readsKey 66 = .ok (.aload_n 0, 1) := by decide +kernel
theorem dX8_readsKey_67 : decode cX8_readsKey 67 = .ok (.getfield 23, 3) := by decide +kernel
theorem dX8_readsKey_70 : decode cX8_readsKey 70 = .ok (.iload_n 1, 1) := by decide +kernel
theorem dX8_readsKey_71 : decode cX8_readsKey 71 = .ok (.iaload, 1) := by decide +kernel
theorem dX8_readsKey_72 : decode cX8_readsKey 72 = .ok (.iconst 1, 1) := by decide +kernel
theorem dX8_readsKey_73 : decode cX8_readsKey 73 = .ok (.iload_n 2, 1) := by decide +kernel
theorem dX8_readsKey_74 : decode cX8_readsKey 74 = .ok (.ishl, 1) := by decide +kernel
theorem dX8_readsKey_75 : decode cX8_readsKey 75 = .ok (.ior, 1) := by decide +kernel
theorem dX8_readsKey_76 : decode cX8_readsKey 76 = .ok (.iastore, 1) := by decide +kernel
theorem dX8_readsKey_77 : decode cX8_readsKey 77 = .ok (.aload_n 0, 1) := by decide +kernel
theorem dX8_readsKey_78 : decode cX8_readsKey 78 = .ok (.invokevirtual 199, 3) := by decide +kernel
theorem dX8_readsKey_81 : decode cX8_readsKey 81 = .ok (.goto (-64), 3) := by decide +kernel
theorem dX8_readsKey_84 : decode cX8_readsKey 84 = .ok (.iconst 1, 1) := by decide +kernel
theorem dX8_readsKey_85 : decode cX8_readsKey 85 = .ok (.ireturn, 1) := by decide +kernel
def mX8_readsKey : MM := (yX8_readsKey, cX8_readsKey, 3, Option.some Jvm.ClassFile.FieldType.boolean, { frames := 2, cells := 0, slots := 0, locals := 43 })
def X8_readsKey_L17 (u1_ : Int32)  : Nat → SS → Option (Bool × SS) :=
  lp (fun _ => none) fun rec σ_ =>
    if (fX8_isLetter σ_) = true then (
      vthen ((Int64.toInt32 (gL σ_ 73 10)) - (1 : Int32)) fun v2 =>
      grd (inb u1_ 24) <|
      vthen (fun (_u : Unit) =>
        bnd (fX8_wrong σ_ (5 : Int32)) fun b5 σ7 =>
        some (b5, σ7)
        ) fun j55 =>
      if (gI σ_ 77 (Int32.toNatClampNeg u1_)) ≤ v2 then (
        j55 ()
        ) else (
        if (fX8_has σ_ (gI σ_ 78 (Int32.toNatClampNeg u1_)) v2) = true then (
          j55 ()
          ) else (
          vthen (sI σ_ 78 (Int32.toNatClampNeg u1_) ((gI σ_ 78 (Int32.toNatClampNeg u1_)) ||| ((1 : Int32) <<< (v2 &&& 31)))) fun σ8 =>
          bnd1 (fX8_next σ8) fun σ9 =>
          rec σ9
          )
        )
      ) else (
      some (true, σ_)
      )

def fX8_readsKey (σ : SS) (a1 : Int32) : Option (Bool × SS) :=
  bnd1 (fX8_next σ) fun σ1 =>
  if (fX8_isLetter σ1) = true then (
    X8_readsKey_L17 a1
    fuel σ1
    ) else (
    bnd (fX8_wrong σ1 (1 : Int32)) fun b11 σ13 =>
    some (b11, σ13)
    )

set_option maxRecDepth 20000 in
theorem sX8_readsKey_L17 {g : GG} {r : Bool × SS} {u1_ : Int32}  
    (n : Nat) : ∀ (σ_ : SS), X8_readsKey_L17 u1_ n σ_ = some r → WT σ_ → RR g mX8_readsKey (FinR g mX8_readsKey (some (.int (b2i r.1))) NF r.2) zF 17 [(0, .ref (ad g 73)), (1, .int u1_)] [] σ_ := by
  unfold X8_readsKey_L17
  refine lp_ind (P := fun (rec : SS → Option (Bool × SS)) => ∀ (σ_ : SS), rec σ_ = some r → WT σ_ → RR g mX8_readsKey (FinR g mX8_readsKey (some (.int (b2i r.1))) NF r.2) zF 17 [(0, .ref (ad g 73)), (1, .int u1_)] [] σ_) ?_ ?_ n
  · intro σ_ hr; cases hr
  intro rec ih σ_ hr hw_
  refine r_aload_n (pc := 17) (j := 0) dX8_readsKey_17 rfl rfl ?_
  refine kX8_isLetter (pc := 18) (hf := rfl) tw_6_128 ⟨nle rfl, nle rfl⟩ (nle rfl) dX8_readsKey_18 ?_
  refine r_ifB_eq (pc := 21) (tgt := 84) dX8_readsKey_21 rfl (fun hc => ?_) (fun hc => ?_)
  · replace hr := ite_f hc hr
    refine r_iconst (pc := 84) (v := (1 : Int32)) dX8_readsKey_84 rfl ?_
    exact l_osz hr (r_zret (pc := 85) (v := b2i true) (ty := .boolean) rfl (b2i_nar _) rfl ⟨Nat.le_refl _, Nat.le_refl _⟩ dX8_readsKey_85)
  replace hr := ite_t hc hr
  refine r_aload_n (pc := 24) (j := 0) dX8_readsKey_24 rfl rfl ?_
  refine gf8_10 (pc := 25) tw_5_104 rfl dX8_readsKey_25 ?_
  refine r_l2i (pc := 28) dX8_readsKey_28 ?_
  refine r_iconst (pc := 29) (v := (1 : Int32)) dX8_readsKey_29 rfl ?_
  refine r_isub (pc := 30) dX8_readsKey_30 ?_
  refine r_topi fun v2 ev2 => ?_
  replace hr := vthen_inv hr v2 ev2
  refine r_istore_n (pc := 31) (ls1 := [(2, .int v2), (0, .ref (ad g 73)), (1, .int u1_)]) dX8_readsKey_31 rfl (nle rfl) rfl ?_
  refine r_iload_n (pc := 32) (j := 0) dX8_readsKey_32 rfl rfl ?_
  refine r_aload_n (pc := 33) (j := 1) dX8_readsKey_33 rfl rfl ?_
  refine gf8_15 (pc := 34) tw_5_109 hw_ dX8_readsKey_34 ?_
  refine r_iload_n (pc := 37) (j := 2) dX8_readsKey_37 rfl rfl ?_
  obtain ⟨h3, hr⟩ := grd_inv hr
  refine x_iald (pc := 38) (k := (Int32.toNatClampNeg u1_)) rfl h3 rfl dX8_readsKey_38 ?_
  obtain ⟨j55, ej55, hr⟩ := vth_ex hr
  have hj55 : j55 () = some r → RR g mX8_readsKey (FinR g mX8_readsKey (some (.int (b2i r.1))) NF r.2) zF 55 [(0, .ref (ad g 73))] [] σ_ := by
    intro  hr
    replace hr := (congrFun ej55 ()).symm.trans hr
    refine r_aload_n (pc := 55) (j := 0) dX8_readsKey_55 rfl rfl ?_
    refine r_iconst (pc := 56) (v := (5 : Int32)) dX8_readsKey_56 rfl ?_
    obtain ⟨b5, σ7, eσ7, hr⟩ := bnd_inv hr
    refine kX8_wrong (pc := 57) eσ7 tw_6_96 ⟨nle rfl, nle rfl⟩ (nle rfl) dX8_readsKey_57 fun hσ7 => ?_
    exact l_osz hr (r_zret (pc := 60) (v := b2i b5) (ty := .boolean) rfl (b2i_nar _) rfl ⟨Nat.le_refl _, Nat.le_refl _⟩ dX8_readsKey_60)
  refine r_icmp_ge (pc := 39) (tgt := 55) dX8_readsKey_39 rfl (fun hc => ?_) (fun hc => ?_)
  · replace hr := ite_t hc hr
    exact r_pick (ls1 := [(0, .ref (ad g 73))]) [1] rfl (hj55  hr)
  replace hr := ite_f hc hr
  refine r_aload_n (pc := 42) (j := 1) dX8_readsKey_42 rfl rfl ?_
  refine gf8_16 (pc := 43) tw_5_110 hw_ dX8_readsKey_43 ?_
  refine r_iload_n (pc := 46) (j := 2) dX8_readsKey_46 rfl rfl ?_
  refine x_iald (pc := 47) (k := (Int32.toNatClampNeg u1_)) rfl h3 rfl dX8_readsKey_47 ?_
  refine r_iload_n (pc := 48) (j := 0) dX8_readsKey_48 rfl rfl ?_
  refine kX8_has (pc := 49) (hf := rfl) tw_6_133 ⟨nle rfl, nle rfl⟩ (nle rfl) dX8_readsKey_49 ?_
  refine r_ifB_eq (pc := 52) (tgt := 61) dX8_readsKey_52 rfl (fun hc => ?_) (fun hc => ?_)
  · replace hr := ite_f hc hr
    refine r_aload_n (pc := 61) (j := 1) dX8_readsKey_61 rfl rfl ?_
    refine gf8_16 (pc := 62) tw_5_110 hw_ dX8_readsKey_62 ?_
    refine r_iload_n (pc := 65) (j := 2) dX8_readsKey_65 rfl rfl ?_
    refine r_aload_n (pc := 66) (j := 1) dX8_readsKey_66 rfl rfl ?_
    refine gf8_16 (pc := 67) tw_5_110 hw_ dX8_readsKey_67 ?_
    refine r_iload_n (pc := 70) (j := 2) dX8_readsKey_70 rfl rfl ?_
    refine x_iald (pc := 71) (k := (Int32.toNatClampNeg u1_)) rfl h3 rfl dX8_readsKey_71 ?_
    refine r_iconst (pc := 72) (v := (1 : Int32)) dX8_readsKey_72 rfl ?_
    refine r_iload_n (pc := 73) (j := 0) dX8_readsKey_73 rfl rfl ?_
    refine r_ishl (pc := 74) dX8_readsKey_74 ?_
    refine r_ior (pc := 75) dX8_readsKey_75 ?_
    refine x_iast (pc := 76) (j := (Int32.toNatClampNeg u1_)) rfl h3 rfl dX8_readsKey_76 fun σ8 eσ8 => ?_
    replace hr := vthen_inv hr σ8 eσ8
    have hσ8 := wtI eσ8 hw_
    refine r_aload_n (pc := 77) (j := 1) dX8_readsKey_77 rfl rfl ?_
    obtain ⟨σ9, eσ9, hr⟩ := bnd1_inv hr
    refine kX8_next (pc := 78) eσ9 tw_6_68 ⟨nle rfl, nle rfl⟩ (nle rfl) dX8_readsKey_78 fun hσ9 => ?_
    refine r_goto (pc := 81) (tgt := 17) dX8_readsKey_81 rfl ?_
    exact r_pick (ls1 := [(0, .ref (ad g 73)), (1, .int u1_)]) [1, 2] rfl (ih σ9 hr hσ9)
  replace hr := ite_t hc hr
  exact r_pick (ls1 := [(0, .ref (ad g 73))]) [1] rfl (hj55  hr)

set_option maxRecDepth 20000 in
theorem sX8_readsKey {g : GG} {σ : SS} {a1 : Int32} {r : Bool × SS} (hr : fX8_readsKey σ a1 = some r)  : Ct g mX8_readsKey [.ref (ad g 73), .int a1] NF σ (some (.int (b2i r.1))) NF r.2 := by
  refine Ct.of (by decide +kernel) (nle rfl) fun hw0 => ?_
  have hw := hw0 rfl
  unfold fX8_readsKey at hr
  change RR g mX8_readsKey (FinR g mX8_readsKey (some (.int (b2i r.1))) NF r.2) zF 0 [(0, .ref (ad g 73)), (1, .int a1)] [] σ
  refine r_aload_n (pc := 0) (j := 0) dX8_readsKey_0 rfl rfl ?_
  obtain ⟨σ1, eσ1, hr⟩ := bnd1_inv hr
  refine kX8_next (pc := 1) eσ1 tw_6_68 ⟨nle rfl, nle rfl⟩ (nle rfl) dX8_readsKey_1 fun hσ1 => ?_
  refine r_aload_n (pc := 4) (j := 0) dX8_readsKey_4 rfl rfl ?_
  refine kX8_isLetter (pc := 5) (hf := rfl) tw_6_128 ⟨nle rfl, nle rfl⟩ (nle rfl) dX8_readsKey_5 ?_
  refine r_ifB_ne (pc := 8) (tgt := 17) dX8_readsKey_8 rfl (fun hc => ?_) (fun hc => ?_)
  · replace hr := ite_t hc hr
    refine r_pick (ls1 := [(0, .ref (ad g 73)), (1, .int a1)]) [0, 1] rfl ?_
    refine sX8_readsKey_L17     fuel σ1 hr hσ1
  replace hr := ite_f hc hr
  refine r_aload_n (pc := 11) (j := 0) dX8_readsKey_11 rfl rfl ?_
  refine r_iconst (pc := 12) (v := (1 : Int32)) dX8_readsKey_12 rfl ?_
  obtain ⟨b11, σ13, eσ13, hr⟩ := bnd_inv hr
  refine kX8_wrong (pc := 13) eσ13 tw_6_96 ⟨nle rfl, nle rfl⟩ (nle rfl) dX8_readsKey_13 fun hσ13 => ?_
  exact l_osz hr (r_zret (pc := 16) (v := b2i b11) (ty := .boolean) rfl (b2i_nar _) rfl ⟨Nat.le_refl _, Nat.le_refl _⟩ dX8_readsKey_16)

theorem kX8_readsKey {g : GG} {σ : SS} {a1 : Int32} {v : Bool} {σ2 : SS} {M : MM} {F : State → Array Value → List Frame → State → Prop} {pc index : Nat} {ls : List (Nat × Value)} {rest : List Value} (hf : fX8_readsKey σ a1 = some (v, σ2))  (hl : Cond.methodLink M.1.cls index yX8_readsKey ∈ lw_gt) (hR : mX8_readsKey.2.2.2.2.frames + 1 ≤ M.2.2.2.2.frames ∧ 8 + (mX8_readsKey.2.2.1 + 11) + mX8_readsKey.2.2.2.2.locals ≤ M.2.2.2.2.locals) (hrest : (rest.map fun v => v.category).sum ≤ 8) (hd : decode M.2.1 pc = .ok (.invokevirtual index, 3)) (k : WT σ2 → RR g M F zF (pc + 3) ls (.int (b2i v) :: rest) σ2) : RR g M F zF pc ls (.int a1 :: .ref (ad g 73) :: rest) σ :=
  r_callV (z := zF) (N := mX8_readsKey) (nn := 1) (o1 := some (.int (b2i v))) (sX8_readsKey hf ) (rfl : shp 73 = (8, 0)) (by decide) (shp_le (rfl : shp 73 = (8, 0)) (nle rfl)) (ci := 8) rfl rfl tw_6_127 tw_1_10 hl tw_6_126 tp_46 ⟨by decide, by decide, rfl⟩ hR rfl hrest hd ⟨Nat.zero_le _, Nat.zero_le _⟩ rfl (fun h => k (h rfl))

theorem dX8_readsQuestion_0 : decode cX8_readsQuestion 0 = .ok (.aload_n 0, 1) := by decide +kernel
theorem dX8_readsQuestion_1 : decode cX8_readsQuestion 1 = .ok (.ldc2_w 231, 3) := by decide +kernel
theorem dX8_readsQuestion_4 : decode cX8_readsQuestion 4 = .ok (.invokevirtual 191, 3) := by decide +kernel
theorem dX8_readsQuestion_7 : decode cX8_readsQuestion 7 = .ok (.ifCond .ne 19, 3) := by decide +kernel
theorem dX8_readsQuestion_10 : decode cX8_readsQuestion 10 = .ok (.aload_n 0, 1) := by decide +kernel
theorem dX8_readsQuestion_11 : decode cX8_readsQuestion 11 = .ok (.ldc2_w 233, 3) := by decide +kernel
theorem dX8_readsQuestion_14 : decode cX8_readsQuestion 14 = .ok (.invokevirtual 191, 3) := by decide +kernel
theorem dX8_readsQuestion_17 : decode cX8_readsQuestion 17 = .ok (.ifCond .ne 9, 3) := by decide +kernel
theorem dX8_readsQuestion_20 : decode cX8_readsQuestion 20 = .ok (.aload_n 0, 1) := by decide +kernel
theorem dX8_readsQuestion_21 : decode cX8_readsQuestion 21 = .ok (.iconst 1, 1) := by decide +kernel
theorem dX8_readsQuestion_22 : decode cX8_readsQuestion 22 = .ok (.invokevirtual 195, 3) := by decide +kernel
theorem dX8_readsQuestion_25 : decode cX8_readsQuestion 25 = .ok (.ireturn, 1) := by decide +kernel
theorem dX8_readsQuestion_26 : decode cX8_readsQuestion 26 = .ok (.aload_n 0, 1) := by decide +kernel
theorem dX8_readsQuestion_27 : decode cX8_readsQuestion 27 = .ok (.getfield 13, 3) := by decide +kernel
theorem dX8_readsQuestion_30 : decode cX8_readsQuestion 30 = .ok (.iconst 5, 1) := by decide +kernel
theorem dX8_readsQuestion_31 : decode cX8_readsQuestion 31 = .ok (.aload_n 0, 1) := by decide +kernel
theorem dX8_readsQuestion_32 : decode cX8_readsQuestion 32 = .ok (.getfield 206, 3) := by decide +kernel
theorem dX8_readsQuestion_35 : decode cX8_readsQuestion 35 = .ok (.imul, 1) := by decide +kernel
theorem dX8_readsQuestion_36 : decode cX8_readsQuestion 36 = .ok (.iconst 4, 1) := by decide +kernel
theorem dX8_readsQuestion_37 : decode cX8_readsQuestion 37 = .ok (.iadd, 1) := by decide +kernel
theorem dX8_readsQuestion_38 : decode cX8_readsQuestion 38 = .ok (.iaload, 1) := by decide +kernel
theorem dX8_readsQuestion_39 : decode cX8_readsQuestion 39 = .ok (.istore_n 1, 1) := by decide +kernel
theorem dX8_readsQuestion_40 : decode cX8_readsQuestion 40 = .ok (.iload_n 1, 1) := by decide +kernel
theorem dX8_readsQuestion_41 : decode cX8_readsQuestion 41 = .ok (.bipush 12, 2) := by decide +kernel
theorem dX8_readsQuestion_43 : decode cX8_readsQuestion 43 = .ok (.if_icmp .ne 9, 3) := by decide +kernel
theorem dX8_readsQuestion_46 : decode cX8_readsQuestion 46 = .ok (.aload_n 0, 1) := by decide +kernel
theorem dX8_readsQuestion_47 : decode cX8_readsQuestion 47 = .ok (.iconst 3, 1) := by decide +kernel
theorem dX8_readsQuestion_48 : decode cX8_readsQuestion 48 = .ok (.invokevirtual 195, 3) := by decide +kernel
theorem dX8_readsQuestion_51 : decode cX8_readsQuestion 51 = .ok (.ireturn, 1) := by decide +kernel
theorem dX8_readsQuestion_52 : decode cX8_readsQuestion 52 = .ok (.bipush 12, 2) := by decide +kernel
theorem dX8_readsQuestion_54 : decode cX8_readsQuestion 54 = .ok (.aload_n 0, 1) := by decide +kernel
theorem dX8_readsQuestion_55 : decode cX8_readsQuestion 55 = .ok (.getfield 206, 3) := by decide +kernel
theorem dX8_readsQuestion_58 : decode cX8_readsQuestion 58 = .ok (.imul, 1) := by decide +kernel
theorem dX8_readsQuestion_59 : decode cX8_readsQuestion 59 = .ok (.iload_n 1, 1) := by decide +kernel
theorem dX8_readsQuestion_60 : decode cX8_readsQuestion 60 = .ok (.iadd, 1) := by decide +kernel
theorem dX8_readsQuestion_61 : decode cX8_readsQuestion 61 = .ok (.istore_n 2, 1) := by decide +kernel
theorem dX8_readsQuestion_62 : decode cX8_readsQuestion 62 = .ok (.aload_n 0, 1) := by decide +kernel
theorem dX8_readsQuestion_63 : decode cX8_readsQuestion 63 = .ok (.getfield 17, 3) := by decide +kernel
theorem dX8_readsQuestion_66 : decode cX8_readsQuestion 66 = .ok (.iload_n 2, 1) := by decide +kernel
theorem dX8_readsQuestion_67 : decode cX8_readsQuestion 67 = .ok (.aload_n 0, 1) := by decide +kernel
theorem dX8_readsQuestion_68 : decode cX8_readsQuestion 68 = .ok (.ldc2_w 231, 3) := by decide +kernel
theorem dX8_readsQuestion_71 : decode cX8_readsQuestion 71 = .ok (.invokevirtual 191, 3) := by decide +kernel
theorem dX8_readsQuestion_74 : decode cX8_readsQuestion 74 = .ok (.ifCond .eq 7, 3) := by decide +kernel
theorem dX8_readsQuestion_77 : decode cX8_readsQuestion 77 = .ok (.iconst 1, 1) := by decide +kernel
theorem dX8_readsQuestion_78 : decode cX8_readsQuestion 78 = .ok (.goto 4, 3) := by decide +kernel
theorem dX8_readsQuestion_81 : decode cX8_readsQuestion 81 = .ok (.iconst 2, 1) := by decide +kernel
theorem dX8_readsQuestion_82 : decode cX8_readsQuestion 82 = .ok (.iastore, 1) := by decide +kernel
theorem dX8_readsQuestion_83 : decode cX8_readsQuestion 83 = .ok (.aload_n 0, 1) := by decide +kernel
theorem dX8_readsQuestion_84 : decode cX8_readsQuestion 84 = .ok (.getfield 20, 3) := by decide +kernel
theorem dX8_readsQuestion_87 : decode cX8_readsQuestion 87 = .ok (.iload_n 2, 1) := by decide +kernel
theorem dX8_readsQuestion_88 : decode cX8_readsQuestion 88 = .ok (.iconst 0, 1) := by decide +kernel
theorem dX8_readsQuestion_89 : decode cX8_readsQuestion 89 = .ok (.iastore, 1) := by decide +kernel
theorem dX8_readsQuestion_90 : decode cX8_readsQuestion 90 = .ok (.aload_n 0, 1) := by decide +kernel
theorem dX8_readsQuestion_91 : decode cX8_readsQuestion 91 = .ok (.getfield 23, 3) := by decide +kernel
theorem dX8_readsQuestion_94 : decode cX8_readsQuestion 94 = .ok (.iload_n 2, 1) := by decide +kernel
theorem dX8_readsQuestion_95 : decode cX8_readsQuestion 95 = .ok (.iconst 0, 1) := by decide +kernel
theorem dX8_readsQuestion_96 : decode cX8_readsQuestion 96 = .ok (.iastore, 1) := by decide +kernel
theorem dX8_readsQuestion_97 : decode cX8_readsQuestion 97 = .ok (.aload_n 0, 1) := by decide +kernel
theorem dX8_readsQuestion_98 : decode cX8_readsQuestion 98 = .ok (.getfield 26, 3) := by decide +kernel
theorem dX8_readsQuestion_101 : decode cX8_readsQuestion 101 = .ok (.iload_n 2, 1) := by decide +kernel
theorem dX8_readsQuestion_102 : decode cX8_readsQuestion 102 = .ok (.iconst 1, 1) := by decide +kernel
theorem dX8_readsQuestion_103 : decode cX8_readsQuestion 103 = .ok (.iastore, 1) := by decide +kernel
theorem dX8_readsQuestion_104 : decode cX8_readsQuestion 104 = .ok (.aload_n 0, 1) := by decide +kernel
theorem dX8_readsQuestion_105 : decode cX8_readsQuestion 105 = .ok (.invokevirtual 199, 3) := by decide +kernel
theorem dX8_readsQuestion_108 : decode cX8_readsQuestion 108 = .ok (.aload_n 0, 1) := by decide +kernel
theorem dX8_readsQuestion_109 : decode cX8_readsQuestion 109 = .ok (.iload_n 1, 1) := by decide +kernel
theorem dX8_readsQuestion_110 : decode cX8_readsQuestion 110 = .ok (.invokevirtual 235, 3) := by decide +kernel
theorem dX8_readsQuestion_113 : decode cX8_readsQuestion 113 = .ok (.ifCond .ne 5, 3) := by decide +kernel
theorem dX8_readsQuestion_116 : decode cX8_readsQuestion 116 = .ok (.iconst 0, 1) := by decide +kernel
theorem dX8_readsQuestion_117 : decode cX8_readsQuestion 117 = .ok (.ireturn, 1) := by decide +kernel
theorem dX8_readsQuestion_118 : decode cX8_readsQuestion 118 = .ok (.aload_n 0, 1) := by decide +kernel
theorem dX8_readsQuestion_119 : decode cX8_readsQuestion 119 = .ok (.getfield 162, 3) := by decide +kernel
theorem dX8_readsQuestion_122 : decode cX8_readsQuestion 122 = .ok (.iconst 3, 1) := by decide +kernel
theorem dX8_readsQuestion_123 : decode cX8_readsQuestion 123 = .ok (.if_icmp .ne 26, 3) := by decide +kernel
theorem dX8_readsQuestion_126 : decode cX8_readsQuestion 126 = .ok (.aload_n 0, 1) := by decide +kernel
theorem dX8_readsQuestion_127 : decode cX8_readsQuestion 127 = .ok (.getfield 185, 3) := by decide +kernel
theorem dX8_readsQuestion_130 : decode cX8_readsQuestion 130 = .ok (.bipush 44, 2) := by decide +kernel
theorem dX8_readsQuestion_132 : decode cX8_readsQuestion 132 = .ok (.if_icmp .ne 17, 3) := by decide +kernel
theorem dX8_readsQuestion_135 : decode cX8_readsQuestion 135 = .ok (.aload_n 0, 1) := by decide +kernel
theorem dX8_readsQuestion_136 : decode cX8_readsQuestion 136 = .ok (.invokevirtual 199, 3) := by decide +kernel
theorem dX8_readsQuestion_139 : decode cX8_readsQuestion 139 = .ok (.aload_n 0, 1) := by decide +kernel
theorem dX8_readsQuestion_140 : decode cX8_readsQuestion 140 = .ok (.iload_n 1, 1) := by decide +kernel
theorem dX8_readsQuestion_141 : decode cX8_readsQuestion 141 = .ok (.invokevirtual 235, 3) := by decide +kernel
theorem dX8_readsQuestion_144 : decode cX8_readsQuestion 144 = .ok (.ifCond .ne (-26), 3) := by decide +kernel
theorem dX8_readsQuestion_147 : decode cX8_readsQuestion 147 = .ok (.iconst 0, 1) := by decide +kernel
theorem dX8_readsQuestion_148 : decode cX8_readsQuestion 148 = .ok (.ireturn, 1) := by decide +kernel
theorem dX8_readsQuestion_149 : decode cX8_readsQuestion 149 = .ok (.aload_n 0, 1) := by decide +kernel
theorem dX8_readsQuestion_150 : decode cX8_readsQuestion 150 = .ok (.ldc2_w 238, 3) := by decide +kernel
theorem dX8_readsQuestion_153 : decode cX8_readsQuestion 153 = .ok (.invokevirtual 191, 3) := by decide +kernel
theorem dX8_readsQuestion_156 : decode cX8_readsQuestion 156 = .ok (.ifCond .eq 13, 3) := by decide +kernel
theorem dX8_readsQuestion_159 : decode cX8_readsQuestion 159 = .ok (.aload_n 0, 1) := by decide +kernel
theorem dX8_readsQuestion_160 : decode cX8_readsQuestion 160 = .ok (.iload_n 2, 1) := by decide +kernel
theorem dX8_readsQuestion_161 : decode cX8_readsQuestion 161 = .ok (.invokevirtual 240, 3) := by decide +kernel
theorem dX8_readsQuestion_164 : decode cX8_readsQuestion 164 = .ok (.ifCond .ne 5, 3) := by decide +kernel
theorem dX8_readsQuestion_167 : decode cX8_readsQuestion 167 = .ok (.iconst 0, 1) := by decide +kernel
theorem dX8_readsQuestion_168 : decode cX8_readsQuestion 168 = .ok (.ireturn, 1) := by decide +kernel
theorem dX8_readsQuestion_169 : decode cX8_readsQuestion 169 = .ok (.aload_n 0, 1) := by decide +kernel
theorem dX8_readsQuestion_170 : decode cX8_readsQuestion 170 = .ok (.ldc2_w 243, 3) := by decide +kernel
theorem dX8_readsQuestion_173 : decode cX8_readsQuestion 173 = .ok (.invokevirtual 191, 3) := by decide +kernel
theorem dX8_readsQuestion_176 : decode cX8_readsQuestion 176 = .ok (.ifCond .eq 33, 3) := by decide +kernel
theorem dX8_readsQuestion_179 : decode cX8_readsQuestion 179 = .ok (.aload_n 0, 1) := by decide +kernel
theorem dX8_readsQuestion_180 : decode cX8_readsQuestion 180 = .ok (.invokevirtual 199, 3) := by decide +kernel
theorem dX8_readsQuestion_183 : decode cX8_readsQuestion 183 = .ok (.aload_n 0, 1) := by decide +kernel
theorem dX8_readsQuestion_184 : decode cX8_readsQuestion 184 = .ok (.iconst 0, 1) := by decide +kernel
theorem dX8_readsQuestion_185 : decode cX8_readsQuestion 185 = .ok (.bipush 99, 2) := by decide +kernel
theorem dX8_readsQuestion_187 : decode cX8_readsQuestion 187 = .ok (.invokevirtual 212, 3) := by decide +kernel
theorem dX8_readsQuestion_190 : decode cX8_readsQuestion 190 = .ok (.ifCond .ne 5, 3) := by decide +kernel
theorem dX8_readsQuestion_193 : decode cX8_readsQuestion 193 = .ok (.iconst 0, 1) := by decide +kernel
theorem dX8_readsQuestion_194 : decode cX8_readsQuestion 194 = .ok (.ireturn, 1) := by decide +kernel
theorem dX8_readsQuestion_195 : decode cX8_readsQuestion 195 = .ok (.aload_n 0, 1) := by decide +kernel
theorem dX8_readsQuestion_196 : decode cX8_readsQuestion 196 = .ok (.getfield 26, 3) := by decide +kernel
theorem dX8_readsQuestion_199 : decode cX8_readsQuestion 199 = .ok (.iload_n 2, 1) := by decide +kernel
theorem dX8_readsQuestion_200 : decode cX8_readsQuestion 200 = .ok (.aload_n 0, 1) := by decide +kernel
theorem dX8_readsQuestion_201 : decode cX8_readsQuestion 201 = .ok (.getfield 182, 3) := by decide +kernel
theorem dX8_readsQuestion_204 : decode cX8_readsQuestion 204 = .ok (.iastore, 1) := by decide +kernel
theorem dX8_readsQuestion_205 : decode cX8_readsQuestion 205 = .ok (.aload_n 0, 1) := by decide +kernel
theorem dX8_readsQuestion_206 : decode cX8_readsQuestion 206 = .ok (.invokevirtual 199, 3) := by decide +kernel
theorem dX8_readsQuestion_209 : decode cX8_readsQuestion 209 = .ok (.aload_n 0, 1) := by decide +kernel
theorem dX8_readsQuestion_210 : decode cX8_readsQuestion 210 = .ok (.getfield 13, 3) := by decide +kernel
theorem dX8_readsQuestion_213 : decode cX8_readsQuestion 213 = .ok (.iconst 5, 1) := by decide +kernel
theorem dX8_readsQuestion_214 : decode cX8_readsQuestion 214 = .ok (.aload_n 0, 1) := by decide +kernel
theorem dX8_readsQuestion_215 : decode cX8_readsQuestion 215 = .ok (.getfield 206, 3) := by decide +kernel
theorem dX8_readsQuestion_218 : decode cX8_readsQuestion 218 = .ok (.imul, 1) := by decide +kernel
theorem dX8_readsQuestion_219 : decode cX8_readsQuestion 219 = .ok (.iconst 4, 1) := by decide +kernel
theorem dX8_readsQuestion_220 : decode cX8_readsQuestion 220 = .ok (.iadd, 1) := by decide +kernel
theorem dX8_readsQuestion_221 : decode cX8_readsQuestion 221 = .ok (.iload_n 1, 1) := by decide +kernel
theorem dX8_readsQuestion_222 : decode cX8_readsQuestion 222 = .ok (.iconst 1, 1) := by decide +kernel
theorem dX8_readsQuestion_223 : decode cX8_readsQuestion 223 = .ok (.iadd, 1) := by decide +kernel
theorem dX8_readsQuestion_224 : decode cX8_readsQuestion 224 = .ok (.iastore, 1) := by decide +kernel
theorem dX8_readsQuestion_225 : decode cX8_readsQuestion 225 = .ok (.aload_n 0, 1) := by decide +kernel
theorem dX8_readsQuestion_226 : decode cX8_readsQuestion 226 = .ok (.bipush 59, 2) := by decide +kernel
theorem dX8_readsQuestion_228 : decode cX8_readsQuestion 228 = .ok (.invokevirtual 216, 3) := by decide +kernel
theorem dX8_readsQuestion_231 : decode cX8_readsQuestion 231 = .ok (.ireturn, 1) := by decide +kernel
def mX8_readsQuestion : MM := (yX8_readsQuestion, cX8_readsQuestion, 3, Option.some Jvm.ClassFile.FieldType.boolean, { frames := 3, cells := 0, slots := 0, locals := 67 })
def X8_readsQuestion_L118 (u1_ : Int32) (k149 : SS → Option (Bool × SS)) : Nat → SS → Option (Bool × SS) :=
  lp (fun _ => none) fun rec σ_ =>
    if (gI σ_ 73 5) = (3 : Int32) then (
      if (gI σ_ 73 8) = (44 : Int32) then (
        bnd1 (fX8_next σ_) fun σ16 =>
        bnd (fX8_readsPlace σ16 u1_) fun b18 σ20 =>
        if b18 = true then (
          rec σ20
          ) else (
          some (false, σ20)
          )
        ) else (
        k149 σ_
        )
      ) else (
      k149 σ_
      )

def fX8_readsQuestion (σ : SS)  : Option (Bool × SS) :=
  vthen (fun  (σ1 : SS) =>
    grd (inb (((5 : Int32) * (gI σ1 73 11)) + (4 : Int32)) 10) <|
    vthen (gI σ1 75 (Int32.toNatClampNeg (((5 : Int32) * (gI σ1 73 11)) + (4 : Int32)))) fun v3 =>
    if v3 = (12 : Int32) then (
      bnd (fX8_wrong σ1 (3 : Int32)) fun b42 σ44 =>
      some (b42, σ44)
      ) else (
      vthen (((12 : Int32) * (gI σ1 73 11)) + v3) fun v4 =>
      vthen (fun (s5 : Int32) =>
        grd (inb v4 24) <|
        vthen (sI σ1 76 (Int32.toNatClampNeg v4) s5) fun σ7 =>
        vthen (sI σ7 77 (Int32.toNatClampNeg v4) (0 : Int32)) fun σ8 =>
        vthen (sI σ8 78 (Int32.toNatClampNeg v4) (0 : Int32)) fun σ9 =>
        vthen (sI σ9 79 (Int32.toNatClampNeg v4) (1 : Int32)) fun σ10 =>
        bnd1 (fX8_next σ10) fun σ11 =>
        bnd (fX8_readsPlace σ11 v3) fun b13 σ15 =>
        if b13 = true then (
          X8_readsQuestion_L118 v3
          (fun σ21 =>
            vthen (fun  (σ22 : SS) =>
              vthen (fun  (σ23 : SS) =>
                grd (inb (((5 : Int32) * (gI σ23 73 11)) + (4 : Int32)) 10) <|
                vthen (sI σ23 75 (Int32.toNatClampNeg (((5 : Int32) * (gI σ23 73 11)) + (4 : Int32))) (v3 + (1 : Int32))) fun σ25 =>
                bnd (fX8_takesSign σ25 (59 : Int32)) fun b27 σ29 =>
                some (b27, σ29)
                ) fun j209 =>
              if (fX8_isWord σ22 (24627848 : Int64)) = true then (
                bnd1 (fX8_next σ22) fun σ30 =>
                bnd (fX8_isNumber σ30 (0 : Int32) (99 : Int32)) fun b32 σ34 =>
                if b32 = true then (
                  vthen (sI σ34 79 (Int32.toNatClampNeg v4) (gI σ34 73 7)) fun σ35 =>
                  bnd1 (fX8_next σ35) fun σ36 =>
                  j209 σ36
                  ) else (
                  some (false, σ34)
                  )
                ) else (
                j209 σ22
                )
              ) fun j169 =>
            if (fX8_isWord σ21 (11449 : Int64)) = true then (
              bnd (fX8_readsKey σ21 v4) fun b38 σ40 =>
              if b38 = true then (
                j169 σ40
                ) else (
                some (false, σ40)
                )
              ) else (
              j169 σ21
              )
            )
          fuel σ15
          ) else (
          some (false, σ15)
          )
        ) fun j82 =>
      if (fX8_isWord σ1 (15813 : Int64)) = true then (
        j82 (1 : Int32)
        ) else (
        j82 (2 : Int32)
        )
      )
    ) fun j26 =>
  if (fX8_isWord σ (15813 : Int64)) = true then (
    j26 σ
    ) else (
    if (fX8_isWord σ (427481 : Int64)) = true then (
      j26 σ
      ) else (
      bnd (fX8_wrong σ (1 : Int32)) fun b46 σ48 =>
      some (b46, σ48)
      )
    )

set_option maxRecDepth 20000 in
theorem sX8_readsQuestion_L118 {g : GG} {r : Bool × SS} {u1_ : Int32} {x2_ : Int32} {k149 : SS → Option (Bool × SS)} 
    (hk149 : ∀ (σ_ : SS), k149 σ_ = some r → WT σ_ → RR g mX8_readsQuestion (FinR g mX8_readsQuestion (some (.int (b2i r.1))) NF r.2) zF 149 [(0, .ref (ad g 73)), (1, .int u1_), (2, .int x2_)] [] σ_)
    (n : Nat) : ∀ (σ_ : SS), X8_readsQuestion_L118 u1_ k149 n σ_ = some r → WT σ_ → RR g mX8_readsQuestion (FinR g mX8_readsQuestion (some (.int (b2i r.1))) NF r.2) zF 118 [(0, .ref (ad g 73)), (1, .int u1_), (2, .int x2_)] [] σ_ := by
  unfold X8_readsQuestion_L118
  refine lp_ind (P := fun (rec : SS → Option (Bool × SS)) => ∀ (σ_ : SS), rec σ_ = some r → WT σ_ → RR g mX8_readsQuestion (FinR g mX8_readsQuestion (some (.int (b2i r.1))) NF r.2) zF 118 [(0, .ref (ad g 73)), (1, .int u1_), (2, .int x2_)] [] σ_) ?_ ?_ n
  · intro σ_ hr; cases hr
  intro rec ih σ_ hr hw_
  refine r_aload_n (pc := 118) (j := 0) dX8_readsQuestion_118 rfl rfl ?_
  refine gf8_5 (pc := 119) tw_5_99 rfl dX8_readsQuestion_119 ?_
  refine r_iconst (pc := 122) (v := (3 : Int32)) dX8_readsQuestion_122 rfl ?_
  refine r_icmp_ne (pc := 123) (tgt := 149) dX8_readsQuestion_123 rfl (fun hc => ?_) (fun hc => ?_)
  · replace hr := ite_f hc hr
    exact r_pick (ls1 := [(0, .ref (ad g 73)), (1, .int u1_), (2, .int x2_)]) [0, 1, 2] rfl (hk149 σ_ hr hw_)
  replace hr := ite_t hc hr
  refine r_aload_n (pc := 126) (j := 0) dX8_readsQuestion_126 rfl rfl ?_
  refine gf8_8 (pc := 127) tw_5_102 rfl dX8_readsQuestion_127 ?_
  refine r_bipush (pc := 130) (v := (44 : Int32)) dX8_readsQuestion_130 rfl ?_
  refine r_icmp_ne (pc := 132) (tgt := 149) dX8_readsQuestion_132 rfl (fun hc => ?_) (fun hc => ?_)
  · replace hr := ite_f hc hr
    exact r_pick (ls1 := [(0, .ref (ad g 73)), (1, .int u1_), (2, .int x2_)]) [0, 1, 2] rfl (hk149 σ_ hr hw_)
  replace hr := ite_t hc hr
  refine r_aload_n (pc := 135) (j := 0) dX8_readsQuestion_135 rfl rfl ?_
  obtain ⟨σ16, eσ16, hr⟩ := bnd1_inv hr
  refine kX8_next (pc := 136) eσ16 tw_6_68 ⟨nle rfl, nle rfl⟩ (nle rfl) dX8_readsQuestion_136 fun hσ16 => ?_
  refine r_aload_n (pc := 139) (j := 0) dX8_readsQuestion_139 rfl rfl ?_
  refine r_iload_n (pc := 140) (j := 1) dX8_readsQuestion_140 rfl rfl ?_
  obtain ⟨b18, σ20, eσ20, hr⟩ := bnd_inv hr
  refine kX8_readsPlace (pc := 141) eσ20 tw_6_115 ⟨nle rfl, nle rfl⟩ (nle rfl) dX8_readsQuestion_141 fun hσ20 => ?_
  refine r_ifB_ne (pc := 144) (tgt := 118) dX8_readsQuestion_144 rfl (fun hc => ?_) (fun hc => ?_)
  · replace hr := ite_t hc hr
    exact r_pick (ls1 := [(0, .ref (ad g 73)), (1, .int u1_), (2, .int x2_)]) [0, 1, 2] rfl (ih σ20 hr hσ20)
  replace hr := ite_f hc hr
  refine r_iconst (pc := 147) (v := (0 : Int32)) dX8_readsQuestion_147 rfl ?_
  exact l_osz hr (r_zret (pc := 148) (v := b2i false) (ty := .boolean) rfl (b2i_nar _) rfl ⟨Nat.le_refl _, Nat.le_refl _⟩ dX8_readsQuestion_148)

set_option maxRecDepth 20000 in
theorem sX8_readsQuestion {g : GG} {σ : SS}  {r : Bool × SS} (hr : fX8_readsQuestion σ = some r)  : Ct g mX8_readsQuestion [.ref (ad g 73)] NF σ (some (.int (b2i r.1))) NF r.2 := by
  refine Ct.of (by decide +kernel) (nle rfl) fun hw0 => ?_
  have hw := hw0 rfl
  unfold fX8_readsQuestion at hr
  change RR g mX8_readsQuestion (FinR g mX8_readsQuestion (some (.int (b2i r.1))) NF r.2) zF 0 [(0, .ref (ad g 73))] [] σ
  refine r_aload_n (pc := 0) (j := 0) dX8_readsQuestion_0 rfl rfl ?_
  refine r_ldc2 (pc := 1) (v := (15813 : Int64)) dX8_readsQuestion_1 tw_6_113 ?_
  refine kX8_isWord (pc := 4) (hf := rfl) tw_6_92 ⟨nle rfl, nle rfl⟩ (nle rfl) dX8_readsQuestion_4 ?_
  obtain ⟨j26, ej26, hr⟩ := vth_ex hr
  have hj26 : ∀ (σ1 : SS), j26 σ1 = some r → WT σ1 → RR g mX8_readsQuestion (FinR g mX8_readsQuestion (some (.int (b2i r.1))) NF r.2) zF 26 [(0, .ref (ad g 73))] [] σ1 := by
    intro σ1 hr hσ1
    replace hr := (congrFun ej26 σ1).symm.trans hr
    refine r_aload_n (pc := 26) (j := 0) dX8_readsQuestion_26 rfl rfl ?_
    refine gf8_13 (pc := 27) tw_5_107 hσ1 dX8_readsQuestion_27 ?_
    refine r_iconst (pc := 30) (v := (5 : Int32)) dX8_readsQuestion_30 rfl ?_
    refine r_aload_n (pc := 31) (j := 0) dX8_readsQuestion_31 rfl rfl ?_
    refine gf8_11 (pc := 32) tw_5_105 rfl dX8_readsQuestion_32 ?_
    refine r_imul (pc := 35) dX8_readsQuestion_35 ?_
    refine r_iconst (pc := 36) (v := (4 : Int32)) dX8_readsQuestion_36 rfl ?_
    refine r_iadd (pc := 37) dX8_readsQuestion_37 ?_
    obtain ⟨h2, hr⟩ := grd_inv hr
    refine x_iald (pc := 38) (k := (Int32.toNatClampNeg (((5 : Int32) * (gI σ1 73 11)) + (4 : Int32)))) rfl h2 rfl dX8_readsQuestion_38 ?_
    refine r_topi fun v3 ev3 => ?_
    replace hr := vthen_inv hr v3 ev3
    refine r_istore_n (pc := 39) (ls1 := [(1, .int v3), (0, .ref (ad g 73))]) dX8_readsQuestion_39 rfl (nle rfl) rfl ?_
    refine r_iload_n (pc := 40) (j := 0) dX8_readsQuestion_40 rfl rfl ?_
    refine r_bipush (pc := 41) (v := (12 : Int32)) dX8_readsQuestion_41 rfl ?_
    refine r_icmp_ne (pc := 43) (tgt := 52) dX8_readsQuestion_43 rfl (fun hc => ?_) (fun hc => ?_)
    · replace hr := ite_f hc hr
      refine r_bipush (pc := 52) (v := (12 : Int32)) dX8_readsQuestion_52 rfl ?_
      refine r_aload_n (pc := 54) (j := 1) dX8_readsQuestion_54 rfl rfl ?_
      refine gf8_11 (pc := 55) tw_5_105 rfl dX8_readsQuestion_55 ?_
      refine r_imul (pc := 58) dX8_readsQuestion_58 ?_
      refine r_iload_n (pc := 59) (j := 0) dX8_readsQuestion_59 rfl rfl ?_
      refine r_iadd (pc := 60) dX8_readsQuestion_60 ?_
      refine r_topi fun v4 ev4 => ?_
      replace hr := vthen_inv hr v4 ev4
      refine r_istore_n (pc := 61) (ls1 := [(2, .int v4), (1, .int v3), (0, .ref (ad g 73))]) dX8_readsQuestion_61 rfl (nle rfl) rfl ?_
      refine r_aload_n (pc := 62) (j := 2) dX8_readsQuestion_62 rfl rfl ?_
      refine gf8_14 (pc := 63) tw_5_108 hσ1 dX8_readsQuestion_63 ?_
      refine r_iload_n (pc := 66) (j := 0) dX8_readsQuestion_66 rfl rfl ?_
      refine r_aload_n (pc := 67) (j := 2) dX8_readsQuestion_67 rfl rfl ?_
      refine r_ldc2 (pc := 68) (v := (15813 : Int64)) dX8_readsQuestion_68 tw_6_113 ?_
      refine kX8_isWord (pc := 71) (hf := rfl) tw_6_92 ⟨nle rfl, nle rfl⟩ (nle rfl) dX8_readsQuestion_71 ?_
      obtain ⟨j82, ej82, hr⟩ := vth_ex hr
      have hj82 : ∀ (s5 : Int32), j82 s5 = some r → RR g mX8_readsQuestion (FinR g mX8_readsQuestion (some (.int (b2i r.1))) NF r.2) zF 82 [(0, .ref (ad g 73)), (1, .int v3), (2, .int v4)] [.int s5, .int v4, .ref (ad g 76)] σ1 := by
        intro s5 hr
        replace hr := (congrFun ej82 s5).symm.trans hr
        obtain ⟨h6, hr⟩ := grd_inv hr
        refine x_iast (pc := 82) (j := (Int32.toNatClampNeg v4)) rfl h6 rfl dX8_readsQuestion_82 fun σ7 eσ7 => ?_
        replace hr := vthen_inv hr σ7 eσ7
        have hσ7 := wtI eσ7 hσ1
        refine r_aload_n (pc := 83) (j := 0) dX8_readsQuestion_83 rfl rfl ?_
        refine gf8_15 (pc := 84) tw_5_109 hσ7 dX8_readsQuestion_84 ?_
        refine r_iload_n (pc := 87) (j := 2) dX8_readsQuestion_87 rfl rfl ?_
        refine r_iconst (pc := 88) (v := (0 : Int32)) dX8_readsQuestion_88 rfl ?_
        refine x_iast (pc := 89) (j := (Int32.toNatClampNeg v4)) rfl h6 rfl dX8_readsQuestion_89 fun σ8 eσ8 => ?_
        replace hr := vthen_inv hr σ8 eσ8
        have hσ8 := wtI eσ8 hσ7
        refine r_aload_n (pc := 90) (j := 0) dX8_readsQuestion_90 rfl rfl ?_
        refine gf8_16 (pc := 91) tw_5_110 hσ8 dX8_readsQuestion_91 ?_
        refine r_iload_n (pc := 94) (j := 2) dX8_readsQuestion_94 rfl rfl ?_
        refine r_iconst (pc := 95) (v := (0 : Int32)) dX8_readsQuestion_95 rfl ?_
        refine x_iast (pc := 96) (j := (Int32.toNatClampNeg v4)) rfl h6 rfl dX8_readsQuestion_96 fun σ9 eσ9 => ?_
        replace hr := vthen_inv hr σ9 eσ9
        have hσ9 := wtI eσ9 hσ8
        refine r_aload_n (pc := 97) (j := 0) dX8_readsQuestion_97 rfl rfl ?_
        refine gf8_17 (pc := 98) tw_5_111 hσ9 dX8_readsQuestion_98 ?_
        refine r_iload_n (pc := 101) (j := 2) dX8_readsQuestion_101 rfl rfl ?_
        refine r_iconst (pc := 102) (v := (1 : Int32)) dX8_readsQuestion_102 rfl ?_
        refine x_iast (pc := 103) (j := (Int32.toNatClampNeg v4)) rfl h6 rfl dX8_readsQuestion_103 fun σ10 eσ10 => ?_
        replace hr := vthen_inv hr σ10 eσ10
        have hσ10 := wtI eσ10 hσ9
        refine r_aload_n (pc := 104) (j := 0) dX8_readsQuestion_104 rfl rfl ?_
        obtain ⟨σ11, eσ11, hr⟩ := bnd1_inv hr
        refine kX8_next (pc := 105) eσ11 tw_6_68 ⟨nle rfl, nle rfl⟩ (nle rfl) dX8_readsQuestion_105 fun hσ11 => ?_
        refine r_aload_n (pc := 108) (j := 0) dX8_readsQuestion_108 rfl rfl ?_
        refine r_iload_n (pc := 109) (j := 1) dX8_readsQuestion_109 rfl rfl ?_
        obtain ⟨b13, σ15, eσ15, hr⟩ := bnd_inv hr
        refine kX8_readsPlace (pc := 110) eσ15 tw_6_115 ⟨nle rfl, nle rfl⟩ (nle rfl) dX8_readsQuestion_110 fun hσ15 => ?_
        refine r_ifB_ne (pc := 113) (tgt := 118) dX8_readsQuestion_113 rfl (fun hc => ?_) (fun hc => ?_)
        · replace hr := ite_t hc hr
          refine r_pick (ls1 := [(0, .ref (ad g 73)), (1, .int v3), (2, .int v4)]) [0, 1, 2] rfl ?_
          refine sX8_readsQuestion_L118    (fun σ21 hr hσ21 => ?_) fuel σ15 hr hσ15
          refine r_aload_n (pc := 149) (j := 0) dX8_readsQuestion_149 rfl rfl ?_
          refine r_ldc2 (pc := 150) (v := (11449 : Int64)) dX8_readsQuestion_150 tw_6_123 ?_
          refine kX8_isWord (pc := 153) (hf := rfl) tw_6_92 ⟨nle rfl, nle rfl⟩ (nle rfl) dX8_readsQuestion_153 ?_
          obtain ⟨j169, ej169, hr⟩ := vth_ex hr
          have hj169 : ∀ (σ22 : SS), j169 σ22 = some r → WT σ22 → RR g mX8_readsQuestion (FinR g mX8_readsQuestion (some (.int (b2i r.1))) NF r.2) zF 169 [(0, .ref (ad g 73)), (1, .int v3), (2, .int v4)] [] σ22 := by
            intro σ22 hr hσ22
            replace hr := (congrFun ej169 σ22).symm.trans hr
            refine r_aload_n (pc := 169) (j := 0) dX8_readsQuestion_169 rfl rfl ?_
            refine r_ldc2 (pc := 170) (v := (24627848 : Int64)) dX8_readsQuestion_170 tw_6_136 ?_
            refine kX8_isWord (pc := 173) (hf := rfl) tw_6_92 ⟨nle rfl, nle rfl⟩ (nle rfl) dX8_readsQuestion_173 ?_
            obtain ⟨j209, ej209, hr⟩ := vth_ex hr
            have hj209 : ∀ (σ23 : SS), j209 σ23 = some r → WT σ23 → RR g mX8_readsQuestion (FinR g mX8_readsQuestion (some (.int (b2i r.1))) NF r.2) zF 209 [(0, .ref (ad g 73)), (1, .int v3)] [] σ23 := by
              intro σ23 hr hσ23
              replace hr := (congrFun ej209 σ23).symm.trans hr
              refine r_aload_n (pc := 209) (j := 0) dX8_readsQuestion_209 rfl rfl ?_
              refine gf8_13 (pc := 210) tw_5_107 hσ23 dX8_readsQuestion_210 ?_
              refine r_iconst (pc := 213) (v := (5 : Int32)) dX8_readsQuestion_213 rfl ?_
              refine r_aload_n (pc := 214) (j := 0) dX8_readsQuestion_214 rfl rfl ?_
              refine gf8_11 (pc := 215) tw_5_105 rfl dX8_readsQuestion_215 ?_
              refine r_imul (pc := 218) dX8_readsQuestion_218 ?_
              refine r_iconst (pc := 219) (v := (4 : Int32)) dX8_readsQuestion_219 rfl ?_
              refine r_iadd (pc := 220) dX8_readsQuestion_220 ?_
              refine r_iload_n (pc := 221) (j := 1) dX8_readsQuestion_221 rfl rfl ?_
              refine r_iconst (pc := 222) (v := (1 : Int32)) dX8_readsQuestion_222 rfl ?_
              refine r_iadd (pc := 223) dX8_readsQuestion_223 ?_
              obtain ⟨h24, hr⟩ := grd_inv hr
              refine x_iast (pc := 224) (j := (Int32.toNatClampNeg (((5 : Int32) * (gI σ23 73 11)) + (4 : Int32)))) rfl h24 rfl dX8_readsQuestion_224 fun σ25 eσ25 => ?_
              replace hr := vthen_inv hr σ25 eσ25
              have hσ25 := wtI eσ25 hσ23
              refine r_aload_n (pc := 225) (j := 0) dX8_readsQuestion_225 rfl rfl ?_
              refine r_bipush (pc := 226) (v := (59 : Int32)) dX8_readsQuestion_226 rfl ?_
              obtain ⟨b27, σ29, eσ29, hr⟩ := bnd_inv hr
              refine kX8_takesSign (pc := 228) eσ29 tw_6_104 ⟨nle rfl, nle rfl⟩ (nle rfl) dX8_readsQuestion_228 fun hσ29 => ?_
              exact l_osz hr (r_zret (pc := 231) (v := b2i b27) (ty := .boolean) rfl (b2i_nar _) rfl ⟨Nat.le_refl _, Nat.le_refl _⟩ dX8_readsQuestion_231)
            refine r_ifB_eq (pc := 176) (tgt := 209) dX8_readsQuestion_176 rfl (fun hc => ?_) (fun hc => ?_)
            · replace hr := ite_f hc hr
              exact r_pick (ls1 := [(0, .ref (ad g 73)), (1, .int v3)]) [0, 1] rfl (hj209 σ22 hr hσ22)
            replace hr := ite_t hc hr
            refine r_aload_n (pc := 179) (j := 0) dX8_readsQuestion_179 rfl rfl ?_
            obtain ⟨σ30, eσ30, hr⟩ := bnd1_inv hr
            refine kX8_next (pc := 180) eσ30 tw_6_68 ⟨nle rfl, nle rfl⟩ (nle rfl) dX8_readsQuestion_180 fun hσ30 => ?_
            refine r_aload_n (pc := 183) (j := 0) dX8_readsQuestion_183 rfl rfl ?_
            refine r_iconst (pc := 184) (v := (0 : Int32)) dX8_readsQuestion_184 rfl ?_
            refine r_bipush (pc := 185) (v := (99 : Int32)) dX8_readsQuestion_185 rfl ?_
            obtain ⟨b32, σ34, eσ34, hr⟩ := bnd_inv hr
            refine kX8_isNumber (pc := 187) eσ34 tw_6_100 ⟨nle rfl, nle rfl⟩ (nle rfl) dX8_readsQuestion_187 fun hσ34 => ?_
            refine r_ifB_ne (pc := 190) (tgt := 195) dX8_readsQuestion_190 rfl (fun hc => ?_) (fun hc => ?_)
            · replace hr := ite_t hc hr
              refine r_aload_n (pc := 195) (j := 0) dX8_readsQuestion_195 rfl rfl ?_
              refine gf8_17 (pc := 196) tw_5_111 hσ34 dX8_readsQuestion_196 ?_
              refine r_iload_n (pc := 199) (j := 2) dX8_readsQuestion_199 rfl rfl ?_
              refine r_aload_n (pc := 200) (j := 0) dX8_readsQuestion_200 rfl rfl ?_
              refine gf8_7 (pc := 201) tw_5_101 rfl dX8_readsQuestion_201 ?_
              refine x_iast (pc := 204) (j := (Int32.toNatClampNeg v4)) rfl h6 rfl dX8_readsQuestion_204 fun σ35 eσ35 => ?_
              replace hr := vthen_inv hr σ35 eσ35
              have hσ35 := wtI eσ35 hσ34
              refine r_aload_n (pc := 205) (j := 0) dX8_readsQuestion_205 rfl rfl ?_
              obtain ⟨σ36, eσ36, hr⟩ := bnd1_inv hr
              refine kX8_next (pc := 206) eσ36 tw_6_68 ⟨nle rfl, nle rfl⟩ (nle rfl) dX8_readsQuestion_206 fun hσ36 => ?_
              exact r_pick (ls1 := [(0, .ref (ad g 73)), (1, .int v3)]) [0, 1] rfl (hj209 σ36 hr hσ36)
            replace hr := ite_f hc hr
            refine r_iconst (pc := 193) (v := (0 : Int32)) dX8_readsQuestion_193 rfl ?_
            exact l_osz hr (r_zret (pc := 194) (v := b2i false) (ty := .boolean) rfl (b2i_nar _) rfl ⟨Nat.le_refl _, Nat.le_refl _⟩ dX8_readsQuestion_194)
          refine r_ifB_eq (pc := 156) (tgt := 169) dX8_readsQuestion_156 rfl (fun hc => ?_) (fun hc => ?_)
          · replace hr := ite_f hc hr
            exact r_pick (ls1 := [(0, .ref (ad g 73)), (1, .int v3), (2, .int v4)]) [0, 1, 2] rfl (hj169 σ21 hr hσ21)
          replace hr := ite_t hc hr
          refine r_aload_n (pc := 159) (j := 0) dX8_readsQuestion_159 rfl rfl ?_
          refine r_iload_n (pc := 160) (j := 2) dX8_readsQuestion_160 rfl rfl ?_
          obtain ⟨b38, σ40, eσ40, hr⟩ := bnd_inv hr
          refine kX8_readsKey (pc := 161) eσ40 tw_6_124 ⟨nle rfl, nle rfl⟩ (nle rfl) dX8_readsQuestion_161 fun hσ40 => ?_
          refine r_ifB_ne (pc := 164) (tgt := 169) dX8_readsQuestion_164 rfl (fun hc => ?_) (fun hc => ?_)
          · replace hr := ite_t hc hr
            exact r_pick (ls1 := [(0, .ref (ad g 73)), (1, .int v3), (2, .int v4)]) [0, 1, 2] rfl (hj169 σ40 hr hσ40)
          replace hr := ite_f hc hr
          refine r_iconst (pc := 167) (v := (0 : Int32)) dX8_readsQuestion_167 rfl ?_
          exact l_osz hr (r_zret (pc := 168) (v := b2i false) (ty := .boolean) rfl (b2i_nar _) rfl ⟨Nat.le_refl _, Nat.le_refl _⟩ dX8_readsQuestion_168)
        replace hr := ite_f hc hr
        refine r_iconst (pc := 116) (v := (0 : Int32)) dX8_readsQuestion_116 rfl ?_
        exact l_osz hr (r_zret (pc := 117) (v := b2i false) (ty := .boolean) rfl (b2i_nar _) rfl ⟨Nat.le_refl _, Nat.le_refl _⟩ dX8_readsQuestion_117)
      refine r_ifB_eq (pc := 74) (tgt := 81) dX8_readsQuestion_74 rfl (fun hc => ?_) (fun hc => ?_)
      · replace hr := ite_f hc hr
        refine r_iconst (pc := 81) (v := (2 : Int32)) dX8_readsQuestion_81 rfl ?_
        exact r_pick (ls1 := [(0, .ref (ad g 73)), (1, .int v3), (2, .int v4)]) [2, 1, 0] rfl (hj82 (2 : Int32) hr)
      replace hr := ite_t hc hr
      refine r_iconst (pc := 77) (v := (1 : Int32)) dX8_readsQuestion_77 rfl ?_
      refine r_goto (pc := 78) (tgt := 82) dX8_readsQuestion_78 rfl ?_
      exact r_pick (ls1 := [(0, .ref (ad g 73)), (1, .int v3), (2, .int v4)]) [2, 1, 0] rfl (hj82 (1 : Int32) hr)
    replace hr := ite_t hc hr
    refine r_aload_n (pc := 46) (j := 1) dX8_readsQuestion_46 rfl rfl ?_
    refine r_iconst (pc := 47) (v := (3 : Int32)) dX8_readsQuestion_47 rfl ?_
    obtain ⟨b42, σ44, eσ44, hr⟩ := bnd_inv hr
    refine kX8_wrong (pc := 48) eσ44 tw_6_96 ⟨nle rfl, nle rfl⟩ (nle rfl) dX8_readsQuestion_48 fun hσ44 => ?_
    exact l_osz hr (r_zret (pc := 51) (v := b2i b42) (ty := .boolean) rfl (b2i_nar _) rfl ⟨Nat.le_refl _, Nat.le_refl _⟩ dX8_readsQuestion_51)
  refine r_ifB_ne (pc := 7) (tgt := 26) dX8_readsQuestion_7 rfl (fun hc => ?_) (fun hc => ?_)
  · replace hr := ite_t hc hr
    exact r_pick (ls1 := [(0, .ref (ad g 73))]) [0] rfl (hj26 σ hr hw)
  replace hr := ite_f hc hr
  refine r_aload_n (pc := 10) (j := 0) dX8_readsQuestion_10 rfl rfl ?_
  refine r_ldc2 (pc := 11) (v := (427481 : Int64)) dX8_readsQuestion_11 tw_6_114 ?_
  refine kX8_isWord (pc := 14) (hf := rfl) tw_6_92 ⟨nle rfl, nle rfl⟩ (nle rfl) dX8_readsQuestion_14 ?_
  refine r_ifB_ne (pc := 17) (tgt := 26) dX8_readsQuestion_17 rfl (fun hc => ?_) (fun hc => ?_)
  · replace hr := ite_t hc hr
    exact r_pick (ls1 := [(0, .ref (ad g 73))]) [0] rfl (hj26 σ hr hw)
  replace hr := ite_f hc hr
  refine r_aload_n (pc := 20) (j := 0) dX8_readsQuestion_20 rfl rfl ?_
  refine r_iconst (pc := 21) (v := (1 : Int32)) dX8_readsQuestion_21 rfl ?_
  obtain ⟨b46, σ48, eσ48, hr⟩ := bnd_inv hr
  refine kX8_wrong (pc := 22) eσ48 tw_6_96 ⟨nle rfl, nle rfl⟩ (nle rfl) dX8_readsQuestion_22 fun hσ48 => ?_
  exact l_osz hr (r_zret (pc := 25) (v := b2i b46) (ty := .boolean) rfl (b2i_nar _) rfl ⟨Nat.le_refl _, Nat.le_refl _⟩ dX8_readsQuestion_25)

theorem kX8_readsQuestion {g : GG} {σ : SS}  {v : Bool} {σ2 : SS} {M : MM} {F : State → Array Value → List Frame → State → Prop} {pc index : Nat} {ls : List (Nat × Value)} {rest : List Value} (hf : fX8_readsQuestion σ = some (v, σ2))  (hl : Cond.methodLink M.1.cls index yX8_readsQuestion ∈ lw_gt) (hR : mX8_readsQuestion.2.2.2.2.frames + 1 ≤ M.2.2.2.2.frames ∧ 8 + (mX8_readsQuestion.2.2.1 + 11) + mX8_readsQuestion.2.2.2.2.locals ≤ M.2.2.2.2.locals) (hrest : (rest.map fun v => v.category).sum ≤ 8) (hd : decode M.2.1 pc = .ok (.invokevirtual index, 3)) (k : WT σ2 → RR g M F zF (pc + 3) ls (.int (b2i v) :: rest) σ2) : RR g M F zF pc ls (.ref (ad g 73) :: rest) σ :=
  r_callV (z := zF) (N := mX8_readsQuestion) (nn := 0) (o1 := some (.int (b2i v))) (sX8_readsQuestion hf ) (rfl : shp 73 = (8, 0)) (by decide) (shp_le (rfl : shp 73 = (8, 0)) (nle rfl)) (ci := 8) rfl rfl tw_6_112 tw_1_10 hl tw_6_111 tp_43 ⟨by decide, by decide, rfl⟩ hR rfl hrest hd ⟨Nat.zero_le _, Nat.zero_le _⟩ rfl (fun h => k (h rfl))

theorem dX8_reads_0 : decode cX8_reads 0 = .ok (.aload_n 0, 1) := by decide +kernel
theorem dX8_reads_1 : decode cX8_reads 1 = .ok (.getfield 13, 3) := by decide +kernel
theorem dX8_reads_4 : decode cX8_reads 4 = .ok (.iconst 5, 1) := by decide +kernel
theorem dX8_reads_5 : decode cX8_reads 5 = .ok (.aload_n 0, 1) := by decide +kernel
theorem dX8_reads_6 : decode cX8_reads 6 = .ok (.getfield 206, 3) := by decide +kernel
theorem dX8_reads_9 : decode cX8_reads 9 = .ok (.imul, 1) := by decide +kernel
theorem dX8_reads_10 : decode cX8_reads 10 = .ok (.iconst 4, 1) := by decide +kernel
theorem dX8_reads_11 : decode cX8_reads 11 = .ok (.iadd, 1) := by decide +kernel
theorem dX8_reads_12 : decode cX8_reads 12 = .ok (.iconst 0, 1) := by decide +kernel
theorem dX8_reads_13 : decode cX8_reads 13 = .ok (.iastore, 1) := by decide +kernel
theorem dX8_reads_14 : decode cX8_reads 14 = .ok (.aload_n 0, 1) := by decide +kernel
theorem dX8_reads_15 : decode cX8_reads 15 = .ok (.iconst 0, 1) := by decide +kernel
theorem dX8_reads_16 : decode cX8_reads 16 = .ok (.ldc2_w 245, 3) := by decide +kernel
theorem dX8_reads_19 : decode cX8_reads 19 = .ok (.iconst 4, 1) := by decide +kernel
theorem dX8_reads_20 : decode cX8_reads 20 = .ok (.bipush 40, 2) := by decide +kernel
theorem dX8_reads_22 : decode cX8_reads 22 = .ok (.invokevirtual 247, 3) := by decide +kernel
theorem dX8_reads_25 : decode cX8_reads 25 = .ok (.ifCond .eq 17, 3) := by decide +kernel
theorem dX8_reads_28 : decode cX8_reads 28 = .ok (.aload_n 0, 1) := by decide +kernel
theorem dX8_reads_29 : decode cX8_reads 29 = .ok (.iconst 2, 1) := by decide +kernel
theorem dX8_reads_30 : decode cX8_reads 30 = .ok (.ldc2_w 251, 3) := by decide +kernel
theorem dX8_reads_33 : decode cX8_reads 33 = .ok (.iconst 1, 1) := by decide +kernel
theorem dX8_reads_34 : decode cX8_reads 34 = .ok (.bipush 6, 2) := by decide +kernel
theorem dX8_reads_36 : decode cX8_reads 36 = .ok (.invokevirtual 247, 3) := by decide +kernel
theorem dX8_reads_39 : decode cX8_reads 39 = .ok (.ifCond .ne 5, 3) := by decide +kernel
theorem dX8_reads_42 : decode cX8_reads 42 = .ok (.iconst 0, 1) := by decide +kernel
theorem dX8_reads_43 : decode cX8_reads 43 = .ok (.ireturn, 1) := by decide +kernel
theorem dX8_reads_44 : decode cX8_reads 44 = .ok (.aload_n 0, 1) := by decide +kernel
theorem dX8_reads_45 : decode cX8_reads 45 = .ok (.getfield 162, 3) := by decide +kernel
theorem dX8_reads_48 : decode cX8_reads 48 = .ok (.ifCond .eq 12, 3) := by decide +kernel
theorem dX8_reads_51 : decode cX8_reads 51 = .ok (.aload_n 0, 1) := by decide +kernel
theorem dX8_reads_52 : decode cX8_reads 52 = .ok (.invokevirtual 253, 3) := by decide +kernel
theorem dX8_reads_55 : decode cX8_reads 55 = .ok (.ifCond .ne (-11), 3) := by decide +kernel
theorem dX8_reads_58 : decode cX8_reads 58 = .ok (.iconst 0, 1) := by decide +kernel
theorem dX8_reads_59 : decode cX8_reads 59 = .ok (.ireturn, 1) := by decide +kernel
theorem dX8_reads_60 : decode cX8_reads 60 = .ok (.iconst 1, 1) := by decide +kernel
theorem dX8_reads_61 : decode cX8_reads 61 = .ok (.ireturn, 1) := by decide +kernel
def mX8_reads : MM := (yX8_reads, cX8_reads, 1, Option.some Jvm.ClassFile.FieldType.boolean, { frames := 4, cells := 0, slots := 0, locals := 91 })
def X8_reads_L44   : Nat → SS → Option (Bool × SS) :=
  lp (fun _ => none) fun rec σ_ =>
    if (gI σ_ 73 5) = 0 then (
      some (true, σ_)
      ) else (
      bnd (fX8_readsQuestion σ_) fun b12 σ14 =>
      if b12 = true then (
        rec σ14
        ) else (
        some (false, σ14)
        )
      )

def fX8_reads (σ : SS)  : Option (Bool × SS) :=
  grd (inb (((5 : Int32) * (gI σ 73 11)) + (4 : Int32)) 10) <|
  vthen (sI σ 75 (Int32.toNatClampNeg (((5 : Int32) * (gI σ 73 11)) + (4 : Int32))) (0 : Int32)) fun σ2 =>
  bnd (fX8_readsTwo σ2 (0 : Int32) (632645 : Int64) (4 : Int32) (40 : Int32)) fun b4 σ6 =>
  if b4 = true then (
    bnd (fX8_readsTwo σ6 (2 : Int32) (2552 : Int64) (1 : Int32) (6 : Int32)) fun b8 σ10 =>
    if b8 = true then (
      X8_reads_L44
      fuel σ10
      ) else (
      some (false, σ10)
      )
    ) else (
    some (false, σ6)
    )

set_option maxRecDepth 20000 in
theorem sX8_reads_L44 {g : GG} {r : Bool × SS}   
    (n : Nat) : ∀ (σ_ : SS), X8_reads_L44 n σ_ = some r → WT σ_ → RR g mX8_reads (FinR g mX8_reads (some (.int (b2i r.1))) NF r.2) zF 44 [(0, .ref (ad g 73))] [] σ_ := by
  unfold X8_reads_L44
  refine lp_ind (P := fun (rec : SS → Option (Bool × SS)) => ∀ (σ_ : SS), rec σ_ = some r → WT σ_ → RR g mX8_reads (FinR g mX8_reads (some (.int (b2i r.1))) NF r.2) zF 44 [(0, .ref (ad g 73))] [] σ_) ?_ ?_ n
  · intro σ_ hr; cases hr
  intro rec ih σ_ hr hw_
  refine r_aload_n (pc := 44) (j := 0) dX8_reads_44 rfl rfl ?_
  refine gf8_5 (pc := 45) tw_5_99 rfl dX8_reads_45 ?_
  refine r_if_eq (pc := 48) (tgt := 60) dX8_reads_48 rfl (fun hc => ?_) (fun hc => ?_)
  · replace hr := ite_t hc hr
    refine r_iconst (pc := 60) (v := (1 : Int32)) dX8_reads_60 rfl ?_
    exact l_osz hr (r_zret (pc := 61) (v := b2i true) (ty := .boolean) rfl (b2i_nar _) rfl ⟨Nat.le_refl _, Nat.le_refl _⟩ dX8_reads_61)
  replace hr := ite_f hc hr
  refine r_aload_n (pc := 51) (j := 0) dX8_reads_51 rfl rfl ?_
  obtain ⟨b12, σ14, eσ14, hr⟩ := bnd_inv hr
  refine kX8_readsQuestion (pc := 52) eσ14 tw_6_109 ⟨nle rfl, nle rfl⟩ (nle rfl) dX8_reads_52 fun hσ14 => ?_
  refine r_ifB_ne (pc := 55) (tgt := 44) dX8_reads_55 rfl (fun hc => ?_) (fun hc => ?_)
  · replace hr := ite_t hc hr
    exact r_pick (ls1 := [(0, .ref (ad g 73))]) [0] rfl (ih σ14 hr hσ14)
  replace hr := ite_f hc hr
  refine r_iconst (pc := 58) (v := (0 : Int32)) dX8_reads_58 rfl ?_
  exact l_osz hr (r_zret (pc := 59) (v := b2i false) (ty := .boolean) rfl (b2i_nar _) rfl ⟨Nat.le_refl _, Nat.le_refl _⟩ dX8_reads_59)

set_option maxRecDepth 20000 in
theorem sX8_reads {g : GG} {σ : SS}  {r : Bool × SS} (hr : fX8_reads σ = some r)  : Ct g mX8_reads [.ref (ad g 73)] NF σ (some (.int (b2i r.1))) NF r.2 := by
  refine Ct.of (by decide +kernel) (nle rfl) fun hw0 => ?_
  have hw := hw0 rfl
  unfold fX8_reads at hr
  change RR g mX8_reads (FinR g mX8_reads (some (.int (b2i r.1))) NF r.2) zF 0 [(0, .ref (ad g 73))] [] σ
  refine r_aload_n (pc := 0) (j := 0) dX8_reads_0 rfl rfl ?_
  refine gf8_13 (pc := 1) tw_5_107 hw dX8_reads_1 ?_
  refine r_iconst (pc := 4) (v := (5 : Int32)) dX8_reads_4 rfl ?_
  refine r_aload_n (pc := 5) (j := 0) dX8_reads_5 rfl rfl ?_
  refine gf8_11 (pc := 6) tw_5_105 rfl dX8_reads_6 ?_
  refine r_imul (pc := 9) dX8_reads_9 ?_
  refine r_iconst (pc := 10) (v := (4 : Int32)) dX8_reads_10 rfl ?_
  refine r_iadd (pc := 11) dX8_reads_11 ?_
  refine r_iconst (pc := 12) (v := (0 : Int32)) dX8_reads_12 rfl ?_
  obtain ⟨h1, hr⟩ := grd_inv hr
  refine x_iast (pc := 13) (j := (Int32.toNatClampNeg (((5 : Int32) * (gI σ 73 11)) + (4 : Int32)))) rfl h1 rfl dX8_reads_13 fun σ2 eσ2 => ?_
  replace hr := vthen_inv hr σ2 eσ2
  have hσ2 := wtI eσ2 hw
  refine r_aload_n (pc := 14) (j := 0) dX8_reads_14 rfl rfl ?_
  refine r_iconst (pc := 15) (v := (0 : Int32)) dX8_reads_15 rfl ?_
  refine r_ldc2 (pc := 16) (v := (632645 : Int64)) dX8_reads_16 tw_6_83 ?_
  refine r_iconst (pc := 19) (v := (4 : Int32)) dX8_reads_19 rfl ?_
  refine r_bipush (pc := 20) (v := (40 : Int32)) dX8_reads_20 rfl ?_
  obtain ⟨b4, σ6, eσ6, hr⟩ := bnd_inv hr
  refine kX8_readsTwo (pc := 22) eσ6 tw_6_84 ⟨nle rfl, nle rfl⟩ (nle rfl) dX8_reads_22 fun hσ6 => ?_
  refine r_ifB_eq (pc := 25) (tgt := 42) dX8_reads_25 rfl (fun hc => ?_) (fun hc => ?_)
  · replace hr := ite_f hc hr
    refine r_iconst (pc := 42) (v := (0 : Int32)) dX8_reads_42 rfl ?_
    exact l_osz hr (r_zret (pc := 43) (v := b2i false) (ty := .boolean) rfl (b2i_nar _) rfl ⟨Nat.le_refl _, Nat.le_refl _⟩ dX8_reads_43)
  replace hr := ite_t hc hr
  refine r_aload_n (pc := 28) (j := 0) dX8_reads_28 rfl rfl ?_
  refine r_iconst (pc := 29) (v := (2 : Int32)) dX8_reads_29 rfl ?_
  refine r_ldc2 (pc := 30) (v := (2552 : Int64)) dX8_reads_30 tw_6_108 ?_
  refine r_iconst (pc := 33) (v := (1 : Int32)) dX8_reads_33 rfl ?_
  refine r_bipush (pc := 34) (v := (6 : Int32)) dX8_reads_34 rfl ?_
  obtain ⟨b8, σ10, eσ10, hr⟩ := bnd_inv hr
  refine kX8_readsTwo (pc := 36) eσ10 tw_6_84 ⟨nle rfl, nle rfl⟩ (nle rfl) dX8_reads_36 fun hσ10 => ?_
  refine r_ifB_ne (pc := 39) (tgt := 44) dX8_reads_39 rfl (fun hc => ?_) (fun hc => ?_)
  · replace hr := ite_t hc hr
    refine r_pick (ls1 := [(0, .ref (ad g 73))]) [0] rfl ?_
    refine sX8_reads_L44     fuel σ10 hr hσ10
  replace hr := ite_f hc hr
  refine r_iconst (pc := 42) (v := (0 : Int32)) dX8_reads_42 rfl ?_
  exact l_osz hr (r_zret (pc := 43) (v := b2i false) (ty := .boolean) rfl (b2i_nar _) rfl ⟨Nat.le_refl _, Nat.le_refl _⟩ dX8_reads_43)

theorem kX8_reads {g : GG} {σ : SS}  {v : Bool} {σ2 : SS} {M : MM} {F : State → Array Value → List Frame → State → Prop} {pc index : Nat} {ls : List (Nat × Value)} {rest : List Value} (hf : fX8_reads σ = some (v, σ2))  (hl : Cond.methodLink M.1.cls index yX8_reads ∈ lw_gt) (hR : mX8_reads.2.2.2.2.frames + 1 ≤ M.2.2.2.2.frames ∧ 8 + (mX8_reads.2.2.1 + 11) + mX8_reads.2.2.2.2.locals ≤ M.2.2.2.2.locals) (hrest : (rest.map fun v => v.category).sum ≤ 8) (hd : decode M.2.1 pc = .ok (.invokevirtual index, 3)) (k : WT σ2 → RR g M F zF (pc + 3) ls (.int (b2i v) :: rest) σ2) : RR g M F zF pc ls (.ref (ad g 73) :: rest) σ :=
  r_callV (z := zF) (N := mX8_reads) (nn := 0) (o1 := some (.int (b2i v))) (sX8_reads hf ) (rfl : shp 73 = (8, 0)) (by decide) (shp_le (rfl : shp 73 = (8, 0)) (nle rfl)) (ci := 8) rfl rfl tw_6_82 tw_1_10 hl tw_6_81 tp_36 ⟨by decide, by decide, rfl⟩ hR rfl hrest hd ⟨Nat.zero_le _, Nat.zero_le _⟩ rfl (fun h => k (h rfl))

theorem dX8_form_0 : decode cX8_form 0 = .ok (.iload_n 1, 1) := by decide +kernel
theorem dX8_form_1 : decode cX8_form 1 = .ok (.iconst 1, 1) := by decide +kernel
theorem dX8_form_2 : decode cX8_form 2 = .ok (.sipush 400, 3) := by decide +kernel
theorem dX8_form_5 : decode cX8_form 5 = .ok (.invokestatic 165, 3) := by decide +kernel
theorem dX8_form_8 : decode cX8_form 8 = .ok (.ifCond .eq 11, 3) := by decide +kernel
theorem dX8_form_11 : decode cX8_form 11 = .ok (.iload_n 1, 1) := by decide +kernel
theorem dX8_form_12 : decode cX8_form 12 = .ok (.aload_n 0, 1) := by decide +kernel
theorem dX8_form_13 : decode cX8_form 13 = .ok (.getfield 142, 3) := by decide +kernel
theorem dX8_form_16 : decode cX8_form 16 = .ok (.if_icmp .le 5, 3) := by decide +kernel
theorem dX8_form_19 : decode cX8_form 19 = .ok (.iconst (-1), 1) := by decide +kernel
theorem dX8_form_20 : decode cX8_form 20 = .ok (.ireturn, 1) := by decide +kernel
theorem dX8_form_21 : decode cX8_form 21 = .ok (.aload_n 0, 1) := by decide +kernel
theorem dX8_form_22 : decode cX8_form 22 = .ok (.iconst 0, 1) := by decide +kernel
theorem dX8_form_23 : decode cX8_form 23 = .ok (.putfield 149, 3) := by decide +kernel
theorem dX8_form_26 : decode cX8_form 26 = .ok (.aload_n 0, 1) := by decide +kernel
theorem dX8_form_27 : decode cX8_form 27 = .ok (.iload_n 1, 1) := by decide +kernel
theorem dX8_form_28 : decode cX8_form 28 = .ok (.putfield 152, 3) := by decide +kernel
theorem dX8_form_31 : decode cX8_form 31 = .ok (.aload_n 0, 1) := by decide +kernel
theorem dX8_form_32 : decode cX8_form 32 = .ok (.iconst 0, 1) := by decide +kernel
theorem dX8_form_33 : decode cX8_form 33 = .ok (.putfield 142, 3) := by decide +kernel
theorem dX8_form_36 : decode cX8_form 36 = .ok (.aload_n 0, 1) := by decide +kernel
theorem dX8_form_37 : decode cX8_form 37 = .ok (.invokevirtual 199, 3) := by decide +kernel
theorem dX8_form_40 : decode cX8_form 40 = .ok (.aload_n 0, 1) := by decide +kernel
theorem dX8_form_41 : decode cX8_form 41 = .ok (.iconst 1, 1) := by decide +kernel
theorem dX8_form_42 : decode cX8_form 42 = .ok (.aload_n 0, 1) := by decide +kernel
theorem dX8_form_43 : decode cX8_form 43 = .ok (.getfield 206, 3) := by decide +kernel
theorem dX8_form_46 : decode cX8_form 46 = .ok (.isub, 1) := by decide +kernel
theorem dX8_form_47 : decode cX8_form 47 = .ok (.putfield 206, 3) := by decide +kernel
theorem dX8_form_50 : decode cX8_form 50 = .ok (.aload_n 0, 1) := by decide +kernel
theorem dX8_form_51 : decode cX8_form 51 = .ok (.invokevirtual 256, 3) := by decide +kernel
theorem dX8_form_54 : decode cX8_form 54 = .ok (.ifCond .ne 18, 3) := by decide +kernel
theorem dX8_form_57 : decode cX8_form 57 = .ok (.aload_n 0, 1) := by decide +kernel
theorem dX8_form_58 : decode cX8_form 58 = .ok (.iconst 1, 1) := by decide +kernel
theorem dX8_form_59 : decode cX8_form 59 = .ok (.aload_n 0, 1) := by decide +kernel
theorem dX8_form_60 : decode cX8_form 60 = .ok (.getfield 206, 3) := by decide +kernel
theorem dX8_form_63 : decode cX8_form 63 = .ok (.isub, 1) := by decide +kernel
theorem dX8_form_64 : decode cX8_form 64 = .ok (.putfield 206, 3) := by decide +kernel
theorem dX8_form_67 : decode cX8_form 67 = .ok (.aload_n 0, 1) := by decide +kernel
theorem dX8_form_68 : decode cX8_form 68 = .ok (.getfield 188, 3) := by decide +kernel
theorem dX8_form_71 : decode cX8_form 71 = .ok (.ireturn, 1) := by decide +kernel
theorem dX8_form_72 : decode cX8_form 72 = .ok (.aload_n 0, 1) := by decide +kernel
theorem dX8_form_73 : decode cX8_form 73 = .ok (.iconst 1, 1) := by decide +kernel
theorem dX8_form_74 : decode cX8_form 74 = .ok (.putfield 202, 3) := by decide +kernel
theorem dX8_form_77 : decode cX8_form 77 = .ok (.aload_n 0, 1) := by decide +kernel
theorem dX8_form_78 : decode cX8_form 78 = .ok (.iconst 0, 1) := by decide +kernel
theorem dX8_form_79 : decode cX8_form 79 = .ok (.putfield 259, 3) := by decide +kernel
theorem dX8_form_82 : decode cX8_form 82 = .ok (.iconst 0, 1) := by decide +kernel
theorem dX8_form_83 : decode cX8_form 83 = .ok (.istore_n 2, 1) := by decide +kernel
theorem dX8_form_84 : decode cX8_form 84 = .ok (.iload_n 2, 1) := by decide +kernel
theorem dX8_form_85 : decode cX8_form 85 = .ok (.bipush 12, 2) := by decide +kernel
theorem dX8_form_87 : decode cX8_form 87 = .ok (.if_icmp .ge 16, 3) := by decide +kernel
theorem dX8_form_90 : decode cX8_form 90 = .ok (.aload_n 0, 1) := by decide +kernel
theorem dX8_form_91 : decode cX8_form 91 = .ok (.getfield 35, 3) := by decide +kernel
theorem dX8_form_94 : decode cX8_form 94 = .ok (.iload_n 2, 1) := by decide +kernel
theorem dX8_form_95 : decode cX8_form 95 = .ok (.iconst 0, 1) := by decide +kernel
theorem dX8_form_96 : decode cX8_form 96 = .ok (.iastore, 1) := by decide +kernel
theorem dX8_form_97 : decode cX8_form 97 = .ok (.iinc 2 1, 3) := by decide +kernel
theorem dX8_form_100 : decode cX8_form 100 = .ok (.goto (-16), 3) := by decide +kernel
theorem dX8_form_103 : decode cX8_form 103 = .ok (.aload_n 0, 1) := by decide +kernel
theorem dX8_form_104 : decode cX8_form 104 = .ok (.getfield 13, 3) := by decide +kernel
theorem dX8_form_107 : decode cX8_form 107 = .ok (.iconst 5, 1) := by decide +kernel
theorem dX8_form_108 : decode cX8_form 108 = .ok (.aload_n 0, 1) := by decide +kernel
theorem dX8_form_109 : decode cX8_form 109 = .ok (.getfield 206, 3) := by decide +kernel
theorem dX8_form_112 : decode cX8_form 112 = .ok (.imul, 1) := by decide +kernel
theorem dX8_form_113 : decode cX8_form 113 = .ok (.iconst 4, 1) := by decide +kernel
theorem dX8_form_114 : decode cX8_form 114 = .ok (.iadd, 1) := by decide +kernel
theorem dX8_form_115 : decode cX8_form 115 = .ok (.iaload, 1) := by decide +kernel
theorem dX8_form_116 : decode cX8_form 116 = .ok (.ireturn, 1) := by decide +kernel
def mX8_form : MM := (yX8_form, cX8_form, 3, Option.some Jvm.ClassFile.FieldType.int, { frames := 5, cells := 0, slots := 0, locals := 111 })
def X8_form_L84   : Nat → Int32 → SS → Option (Int32 × SS) :=
  lp (fun _ _ => none) fun rec v2_ σ_ =>
    if (12 : Int32) ≤ v2_ then (
      grd (inb (((5 : Int32) * (gI σ_ 73 11)) + (4 : Int32)) 10) <|
      some ((gI σ_ 75 (Int32.toNatClampNeg (((5 : Int32) * (gI σ_ 73 11)) + (4 : Int32)))), σ_)
      ) else (
      grd (inb v2_ 12) <|
      vthen (sI σ_ 82 (Int32.toNatClampNeg v2_) (0 : Int32)) fun σ14 =>
      rec (v2_ + (1 : Int32)) σ14
      )

def fX8_form (σ : SS) (a1 : Int32) : Option (Int32 × SS) :=
  if (fX8_in σ a1 (1 : Int32) (400 : Int32)) = true then (
    if a1 ≤ (gI σ 73 1) then (
      vthen (sI σ 73 2 (0 : Int32)) fun σ1 =>
      vthen (sI σ1 73 3 a1) fun σ2 =>
      vthen (sI σ2 73 1 (0 : Int32)) fun σ3 =>
      bnd1 (fX8_next σ3) fun σ4 =>
      vthen (sI σ4 73 11 ((1 : Int32) - (gI σ4 73 11))) fun σ5 =>
      bnd (fX8_reads σ5) fun b7 σ9 =>
      if b7 = true then (
        vthen (sI σ9 73 12 (1 : Int32)) fun σ10 =>
        vthen (sI σ10 73 65 (0 : Int32)) fun σ11 =>
        X8_form_L84
        fuel (0 : Int32) σ11
        ) else (
        vthen (sI σ9 73 11 ((1 : Int32) - (gI σ9 73 11))) fun σ15 =>
        some ((gI σ15 73 4), σ15)
        )
      ) else (
      some ((-1 : Int32), σ)
      )
    ) else (
    some ((-1 : Int32), σ)
    )

set_option maxRecDepth 20000 in
theorem sX8_form_L84 {g : GG} {r : Int32 × SS}   
    (n : Nat) : ∀ (v2_ : Int32) (σ_ : SS), X8_form_L84 n v2_ σ_ = some r → WT σ_ → RR g mX8_form (FinR g mX8_form (some (.int r.1)) NF r.2) zF 84 [(0, .ref (ad g 73)), (2, .int v2_)] [] σ_ := by
  unfold X8_form_L84
  refine lp_ind (P := fun (rec : Int32 → SS → Option (Int32 × SS)) => ∀ (v2_ : Int32) (σ_ : SS), rec v2_ σ_ = some r → WT σ_ → RR g mX8_form (FinR g mX8_form (some (.int r.1)) NF r.2) zF 84 [(0, .ref (ad g 73)), (2, .int v2_)] [] σ_) ?_ ?_ n
  · intro v2_ σ_ hr; cases hr
  intro rec ih v2_ σ_ hr hw_
  refine r_iload_n (pc := 84) (j := 1) dX8_form_84 rfl rfl ?_
  refine r_bipush (pc := 85) (v := (12 : Int32)) dX8_form_85 rfl ?_
  refine r_icmp_ge (pc := 87) (tgt := 103) dX8_form_87 rfl (fun hc => ?_) (fun hc => ?_)
  · replace hr := ite_t hc hr
    refine r_aload_n (pc := 103) (j := 0) dX8_form_103 rfl rfl ?_
    refine gf8_13 (pc := 104) tw_5_107 hw_ dX8_form_104 ?_
    refine r_iconst (pc := 107) (v := (5 : Int32)) dX8_form_107 rfl ?_
    refine r_aload_n (pc := 108) (j := 0) dX8_form_108 rfl rfl ?_
    refine gf8_11 (pc := 109) tw_5_105 rfl dX8_form_109 ?_
    refine r_imul (pc := 112) dX8_form_112 ?_
    refine r_iconst (pc := 113) (v := (4 : Int32)) dX8_form_113 rfl ?_
    refine r_iadd (pc := 114) dX8_form_114 ?_
    obtain ⟨h12, hr⟩ := grd_inv hr
    refine x_iald (pc := 115) (k := (Int32.toNatClampNeg (((5 : Int32) * (gI σ_ 73 11)) + (4 : Int32)))) rfl h12 rfl dX8_form_115 ?_
    exact l_osi hr (r_iret (pc := 116) (v := (gI σ_ 75 (Int32.toNatClampNeg (((5 : Int32) * (gI σ_ 73 11)) + (4 : Int32))))) rfl rfl ⟨Nat.le_refl _, Nat.le_refl _⟩ dX8_form_116)
  replace hr := ite_f hc hr
  refine r_aload_n (pc := 90) (j := 0) dX8_form_90 rfl rfl ?_
  refine gf8_20 (pc := 91) tw_5_114 hw_ dX8_form_91 ?_
  refine r_iload_n (pc := 94) (j := 1) dX8_form_94 rfl rfl ?_
  refine r_iconst (pc := 95) (v := (0 : Int32)) dX8_form_95 rfl ?_
  obtain ⟨h13, hr⟩ := grd_inv hr
  refine x_iast (pc := 96) (j := (Int32.toNatClampNeg v2_)) rfl h13 rfl dX8_form_96 fun σ14 eσ14 => ?_
  replace hr := vthen_inv hr σ14 eσ14
  have hσ14 := wtI eσ14 hw_
  refine r_iinc (pc := 97) (j := 1) (v := (v2_ + (1 : Int32))) (ls1 := [(2, .int (v2_ + (1 : Int32))), (0, .ref (ad g 73))]) dX8_form_97 rfl rfl (nle rfl) rfl ?_
  refine r_goto (pc := 100) (tgt := 84) dX8_form_100 rfl ?_
  exact r_pick (ls1 := [(0, .ref (ad g 73)), (2, .int (v2_ + (1 : Int32)))]) [1, 0] rfl (ih (v2_ + (1 : Int32)) σ14 hr hσ14)

set_option maxRecDepth 20000 in
theorem sX8_form {g : GG} {σ : SS} {a1 : Int32} {r : Int32 × SS} (hr : fX8_form σ a1 = some r)  : Ct g mX8_form [.ref (ad g 73), .int a1] NF σ (some (.int r.1)) NF r.2 := by
  refine Ct.of (by decide +kernel) (nle rfl) fun hw0 => ?_
  have hw := hw0 rfl
  unfold fX8_form at hr
  change RR g mX8_form (FinR g mX8_form (some (.int r.1)) NF r.2) zF 0 [(0, .ref (ad g 73)), (1, .int a1)] [] σ
  refine r_iload_n (pc := 0) (j := 1) dX8_form_0 rfl rfl ?_
  refine r_iconst (pc := 1) (v := (1 : Int32)) dX8_form_1 rfl ?_
  refine r_sipush (pc := 2) (v := (400 : Int32)) dX8_form_2 rfl ?_
  refine kX8_in (pc := 5) (hf := rfl) tw_6_65 ⟨nle rfl, nle rfl⟩ (nle rfl) dX8_form_5 ?_
  refine r_ifB_eq (pc := 8) (tgt := 19) dX8_form_8 rfl (fun hc => ?_) (fun hc => ?_)
  · replace hr := ite_f hc hr
    refine r_iconst (pc := 19) (v := (-1 : Int32)) dX8_form_19 rfl ?_
    exact l_osi hr (r_iret (pc := 20) (v := (-1 : Int32)) rfl rfl ⟨Nat.le_refl _, Nat.le_refl _⟩ dX8_form_20)
  replace hr := ite_t hc hr
  refine r_iload_n (pc := 11) (j := 1) dX8_form_11 rfl rfl ?_
  refine r_aload_n (pc := 12) (j := 0) dX8_form_12 rfl rfl ?_
  refine gf8_1 (pc := 13) tw_5_95 rfl dX8_form_13 ?_
  refine r_icmp_le (pc := 16) (tgt := 21) dX8_form_16 rfl (fun hc => ?_) (fun hc => ?_)
  · replace hr := ite_t hc hr
    refine r_aload_n (pc := 21) (j := 0) dX8_form_21 rfl rfl ?_
    refine r_iconst (pc := 22) (v := (0 : Int32)) dX8_form_22 rfl ?_
    refine pf8_2 (pc := 23) tw_5_96 rfl dX8_form_23 fun σ1 eσ1 => ?_
    replace hr := vthen_inv hr σ1 eσ1
    have hσ1 := wtI eσ1 hw
    refine r_aload_n (pc := 26) (j := 0) dX8_form_26 rfl rfl ?_
    refine r_iload_n (pc := 27) (j := 1) dX8_form_27 rfl rfl ?_
    refine pf8_3 (pc := 28) tw_5_97 rfl dX8_form_28 fun σ2 eσ2 => ?_
    replace hr := vthen_inv hr σ2 eσ2
    have hσ2 := wtI eσ2 hσ1
    refine r_aload_n (pc := 31) (j := 0) dX8_form_31 rfl rfl ?_
    refine r_iconst (pc := 32) (v := (0 : Int32)) dX8_form_32 rfl ?_
    refine pf8_1 (pc := 33) tw_5_95 rfl dX8_form_33 fun σ3 eσ3 => ?_
    replace hr := vthen_inv hr σ3 eσ3
    have hσ3 := wtI eσ3 hσ2
    refine r_aload_n (pc := 36) (j := 0) dX8_form_36 rfl rfl ?_
    obtain ⟨σ4, eσ4, hr⟩ := bnd1_inv hr
    refine kX8_next (pc := 37) eσ4 tw_6_68 ⟨nle rfl, nle rfl⟩ (nle rfl) dX8_form_37 fun hσ4 => ?_
    refine r_aload_n (pc := 40) (j := 0) dX8_form_40 rfl rfl ?_
    refine r_iconst (pc := 41) (v := (1 : Int32)) dX8_form_41 rfl ?_
    refine r_aload_n (pc := 42) (j := 0) dX8_form_42 rfl rfl ?_
    refine gf8_11 (pc := 43) tw_5_105 rfl dX8_form_43 ?_
    refine r_isub (pc := 46) dX8_form_46 ?_
    refine pf8_11 (pc := 47) tw_5_105 rfl dX8_form_47 fun σ5 eσ5 => ?_
    replace hr := vthen_inv hr σ5 eσ5
    have hσ5 := wtI eσ5 hσ4
    refine r_aload_n (pc := 50) (j := 0) dX8_form_50 rfl rfl ?_
    obtain ⟨b7, σ9, eσ9, hr⟩ := bnd_inv hr
    refine kX8_reads (pc := 51) eσ9 tw_6_79 ⟨nle rfl, nle rfl⟩ (nle rfl) dX8_form_51 fun hσ9 => ?_
    refine r_ifB_ne (pc := 54) (tgt := 72) dX8_form_54 rfl (fun hc => ?_) (fun hc => ?_)
    · replace hr := ite_t hc hr
      refine r_aload_n (pc := 72) (j := 0) dX8_form_72 rfl rfl ?_
      refine r_iconst (pc := 73) (v := (1 : Int32)) dX8_form_73 rfl ?_
      refine pf8_12 (pc := 74) tw_5_106 rfl rfl dX8_form_74 fun σ10 eσ10 => ?_
      replace hr := vthen_inv hr σ10 eσ10
      have hσ10 := wtI eσ10 hσ9
      refine r_aload_n (pc := 77) (j := 0) dX8_form_77 rfl rfl ?_
      refine r_iconst (pc := 78) (v := (0 : Int32)) dX8_form_78 rfl ?_
      refine pf8_65 (pc := 79) tw_5_159 rfl dX8_form_79 fun σ11 eσ11 => ?_
      replace hr := vthen_inv hr σ11 eσ11
      have hσ11 := wtI eσ11 hσ10
      refine r_iconst (pc := 82) (v := (0 : Int32)) dX8_form_82 rfl ?_
      refine r_istore_n (pc := 83) (ls1 := [(2, .int (0 : Int32)), (0, .ref (ad g 73)), (1, .int a1)]) dX8_form_83 rfl (nle rfl) rfl ?_
      refine r_pick (ls1 := [(0, .ref (ad g 73)), (2, .int (0 : Int32))]) [1, 0] rfl ?_
      refine sX8_form_L84     fuel (0 : Int32) σ11 hr hσ11
    replace hr := ite_f hc hr
    refine r_aload_n (pc := 57) (j := 0) dX8_form_57 rfl rfl ?_
    refine r_iconst (pc := 58) (v := (1 : Int32)) dX8_form_58 rfl ?_
    refine r_aload_n (pc := 59) (j := 0) dX8_form_59 rfl rfl ?_
    refine gf8_11 (pc := 60) tw_5_105 rfl dX8_form_60 ?_
    refine r_isub (pc := 63) dX8_form_63 ?_
    refine pf8_11 (pc := 64) tw_5_105 rfl dX8_form_64 fun σ15 eσ15 => ?_
    replace hr := vthen_inv hr σ15 eσ15
    have hσ15 := wtI eσ15 hσ9
    refine r_aload_n (pc := 67) (j := 0) dX8_form_67 rfl rfl ?_
    refine gf8_4 (pc := 68) tw_5_98 rfl dX8_form_68 ?_
    exact l_osi hr (r_iret (pc := 71) (v := (gI σ15 73 4)) rfl rfl ⟨Nat.le_refl _, Nat.le_refl _⟩ dX8_form_71)
  replace hr := ite_f hc hr
  refine r_iconst (pc := 19) (v := (-1 : Int32)) dX8_form_19 rfl ?_
  exact l_osi hr (r_iret (pc := 20) (v := (-1 : Int32)) rfl rfl ⟨Nat.le_refl _, Nat.le_refl _⟩ dX8_form_20)

theorem kX8_form {g : GG} {σ : SS} {a1 : Int32} {v : Int32} {σ2 : SS} {M : MM} {F : State → Array Value → List Frame → State → Prop} {pc index : Nat} {ls : List (Nat × Value)} {rest : List Value} (hf : fX8_form σ a1 = some (v, σ2))  (hl : Cond.methodLink M.1.cls index yX8_form ∈ lw_gt) (hR : mX8_form.2.2.2.2.frames + 1 ≤ M.2.2.2.2.frames ∧ 8 + (mX8_form.2.2.1 + 11) + mX8_form.2.2.2.2.locals ≤ M.2.2.2.2.locals) (hrest : (rest.map fun v => v.category).sum ≤ 8) (hd : decode M.2.1 pc = .ok (.invokevirtual index, 3)) (k : WT σ2 → RR g M F zF (pc + 3) ls (.int v :: rest) σ2) : RR g M F zF pc ls (.int a1 :: .ref (ad g 73) :: rest) σ :=
  r_callV (z := zF) (N := mX8_form) (nn := 1) (o1 := some (.int v)) (sX8_form hf ) (rfl : shp 73 = (8, 0)) (by decide) (shp_le (rfl : shp 73 = (8, 0)) (nle rfl)) (ci := 8) rfl rfl tw_6_64 tw_1_10 hl tw_6_62 tw_6_63 ⟨by decide, by decide, rfl⟩ hR rfl hrest hd ⟨Nat.zero_le _, Nat.zero_le _⟩ rfl (fun h => k (h rfl))

theorem dX6_notBelow_0 : decode cX6_notBelow 0 = .ok (.iconst 0, 1) := by decide +kernel
theorem dX6_notBelow_1 : decode cX6_notBelow 1 = .ok (.istore_n 2, 1) := by decide +kernel
theorem dX6_notBelow_2 : decode cX6_notBelow 2 = .ok (.iconst 0, 1) := by decide +kernel
theorem dX6_notBelow_3 : decode cX6_notBelow 3 = .ok (.istore_n 3, 1) := by decide +kernel
theorem dX6_notBelow_4 : decode cX6_notBelow 4 = .ok (.iload_n 3, 1) := by decide +kernel
theorem dX6_notBelow_5 : decode cX6_notBelow 5 = .ok (.aload_n 0, 1) := by decide +kernel
theorem dX6_notBelow_6 : decode cX6_notBelow 6 = .ok (.getfield 18, 3) := by decide +kernel
theorem dX6_notBelow_9 : decode cX6_notBelow 9 = .ok (.aload_n 0, 1) := by decide +kernel
theorem dX6_notBelow_10 : decode cX6_notBelow 10 = .ok (.getfield 22, 3) := by decide +kernel
theorem dX6_notBelow_13 : decode cX6_notBelow 13 = .ok (.imul, 1) := by decide +kernel
theorem dX6_notBelow_14 : decode cX6_notBelow 14 = .ok (.if_icmp .ge 22, 3) := by decide +kernel
theorem dX6_notBelow_17 : decode cX6_notBelow 17 = .ok (.aload_n 0, 1) := by decide +kernel
theorem dX6_notBelow_18 : decode cX6_notBelow 18 = .ok (.getfield 9, 3) := by decide +kernel
theorem dX6_notBelow_21 : decode cX6_notBelow 21 = .ok (.iload_n 3, 1) := by decide +kernel
theorem dX6_notBelow_22 : decode cX6_notBelow 22 = .ok (.iaload, 1) := by decide +kernel
theorem dX6_notBelow_23 : decode cX6_notBelow 23 = .ok (.iload_n 1, 1) := by decide +kernel
theorem dX6_notBelow_24 : decode cX6_notBelow 24 = .ok (.if_icmp .lt 6, 3) := by decide +kernel
theorem dX6_notBelow_27 : decode cX6_notBelow 27 = .ok (.iinc 2 1, 3) := by decide +kernel
theorem dX6_notBelow_30 : decode cX6_notBelow 30 = .ok (.iinc 3 1, 3) := by decide +kernel
theorem dX6_notBelow_33 : decode cX6_notBelow 33 = .ok (.goto (-29), 3) := by decide +kernel
theorem dX6_notBelow_36 : decode cX6_notBelow 36 = .ok (.iload_n 2, 1) := by decide +kernel
theorem dX6_notBelow_37 : decode cX6_notBelow 37 = .ok (.ireturn, 1) := by decide +kernel
def mX6_notBelow : MM := (yX6_notBelow, cX6_notBelow, 4, Option.some Jvm.ClassFile.FieldType.int, { frames := 0, cells := 0, slots := 0, locals := 0 })
def X6_notBelow_L4 (σ_ : SS) (o0_ : Nat) (u1_ : Int32)  : Nat → Int32 → Int32 → Option Int32 :=
  lp (fun _ _ => none) fun rec v2_ v3_ =>
    if ((gI σ_ o0_ 0) * (gI σ_ o0_ 1)) ≤ v3_ then (
      some v2_
      ) else (
      grd (inb v3_ 1600) <|
      if (gI σ_ (o0_ + 1) (Int32.toNatClampNeg v3_)) < u1_ then (
        rec v2_ (v3_ + (1 : Int32))
        ) else (
        rec (v2_ + (1 : Int32)) (v3_ + (1 : Int32))
        )
      )

def fX6_notBelow (σ0 : SS) (a0 : Nat) (a1 : Int32) : Option Int32 :=
  X6_notBelow_L4 σ0 a0 a1
  fuel (0 : Int32) (0 : Int32)

set_option maxRecDepth 20000 in
theorem sX6_notBelow_L4 {g : GG} {r : Int32} {σ_ : SS} {σ0 : SS} {o0_ : Nat} {u1_ : Int32}  (hs0_ : shp o0_ = (6, 0))
    (hw_ : WT σ_)
    (h0_ : σ_ = σ0)
    (n : Nat) : ∀ (v2_ : Int32) (v3_ : Int32), X6_notBelow_L4 σ_ o0_ u1_ n v2_ v3_ = some r → RR g mX6_notBelow (FinR g mX6_notBelow (some (.int r)) NF σ0) zF 4 [(0, .ref (ad g o0_)), (1, .int u1_), (2, .int v2_), (3, .int v3_)] [] σ_ := by
  unfold X6_notBelow_L4
  refine lp_ind (P := fun (rec : Int32 → Int32 → Option Int32) => ∀ (v2_ : Int32) (v3_ : Int32), rec v2_ v3_ = some r → RR g mX6_notBelow (FinR g mX6_notBelow (some (.int r)) NF σ0) zF 4 [(0, .ref (ad g o0_)), (1, .int u1_), (2, .int v2_), (3, .int v3_)] [] σ_) ?_ ?_ n
  · intro v2_ v3_ hr; cases hr
  intro rec ih v2_ v3_ hr
  subst h0_
  refine r_iload_n (pc := 4) (j := 3) dX6_notBelow_4 rfl rfl ?_
  refine r_aload_n (pc := 5) (j := 0) dX6_notBelow_5 rfl rfl ?_
  refine gf6_0 (pc := 6) tw_1_32 hs0_ dX6_notBelow_6 ?_
  refine r_aload_n (pc := 9) (j := 0) dX6_notBelow_9 rfl rfl ?_
  refine gf6_1 (pc := 10) tw_1_37 hs0_ dX6_notBelow_10 ?_
  refine r_imul (pc := 13) dX6_notBelow_13 ?_
  refine r_icmp_ge (pc := 14) (tgt := 36) dX6_notBelow_14 rfl (fun hc => ?_) (fun hc => ?_)
  · replace hr := ite_t hc hr
    refine r_iload_n (pc := 36) (j := 2) dX6_notBelow_36 rfl rfl ?_
    exact l_opi hr (r_iret (pc := 37) (v := v2_) rfl rfl ⟨Nat.le_refl _, Nat.le_refl _⟩ dX6_notBelow_37)
  replace hr := ite_f hc hr
  refine r_aload_n (pc := 17) (j := 0) dX6_notBelow_17 rfl rfl ?_
  refine gf6_2 (pc := 18) tw_1_39 hw_ hs0_ dX6_notBelow_18 ?_
  refine r_iload_n (pc := 21) (j := 3) dX6_notBelow_21 rfl rfl ?_
  obtain ⟨h1, hr⟩ := grd_inv hr
  refine x_iald (pc := 22) (k := (Int32.toNatClampNeg v3_)) (sh6_2 hs0_) h1 rfl dX6_notBelow_22 ?_
  refine r_iload_n (pc := 23) (j := 1) dX6_notBelow_23 rfl rfl ?_
  refine r_icmp_lt (pc := 24) (tgt := 30) dX6_notBelow_24 rfl (fun hc => ?_) (fun hc => ?_)
  · replace hr := ite_t hc hr
    refine r_iinc (pc := 30) (j := 3) (v := (v3_ + (1 : Int32))) (ls1 := [(3, .int (v3_ + (1 : Int32))), (0, .ref (ad g o0_)), (1, .int u1_), (2, .int v2_)]) dX6_notBelow_30 rfl rfl (nle rfl) rfl ?_
    refine r_goto (pc := 33) (tgt := 4) dX6_notBelow_33 rfl ?_
    exact r_pick (ls1 := [(0, .ref (ad g o0_)), (1, .int u1_), (2, .int v2_), (3, .int (v3_ + (1 : Int32)))]) [1, 2, 3, 0] rfl (ih v2_ (v3_ + (1 : Int32)) hr)
  replace hr := ite_f hc hr
  refine r_iinc (pc := 27) (j := 2) (v := (v2_ + (1 : Int32))) (ls1 := [(2, .int (v2_ + (1 : Int32))), (0, .ref (ad g o0_)), (1, .int u1_), (3, .int v3_)]) dX6_notBelow_27 rfl rfl (nle rfl) rfl ?_
  refine r_iinc (pc := 30) (j := 3) (v := (v3_ + (1 : Int32))) (ls1 := [(3, .int (v3_ + (1 : Int32))), (2, .int (v2_ + (1 : Int32))), (0, .ref (ad g o0_)), (1, .int u1_)]) dX6_notBelow_30 rfl rfl (nle rfl) rfl ?_
  refine r_goto (pc := 33) (tgt := 4) dX6_notBelow_33 rfl ?_
  exact r_pick (ls1 := [(0, .ref (ad g o0_)), (1, .int u1_), (2, .int (v2_ + (1 : Int32))), (3, .int (v3_ + (1 : Int32)))]) [2, 3, 1, 0] rfl (ih (v2_ + (1 : Int32)) (v3_ + (1 : Int32)) hr)

set_option maxRecDepth 20000 in
theorem sX6_notBelow {g : GG} {σ0 : SS} {a0 : Nat} {a1 : Int32} {r : Int32} (hr : fX6_notBelow σ0 a0 a1 = some r) (hs0 : shp a0 = (6, 0)) : Ct g mX6_notBelow [.ref (ad g a0), .int a1] NF σ0 (some (.int r)) NF σ0 := by
  refine Ct.of (by decide +kernel) (nle rfl) fun hw0 => ?_
  have hw := hw0 rfl
  unfold fX6_notBelow at hr
  change RR g mX6_notBelow (FinR g mX6_notBelow (some (.int r)) NF σ0) zF 0 [(0, .ref (ad g a0)), (1, .int a1)] [] σ0
  refine r_iconst (pc := 0) (v := (0 : Int32)) dX6_notBelow_0 rfl ?_
  refine r_istore_n (pc := 1) (ls1 := [(2, .int (0 : Int32)), (0, .ref (ad g a0)), (1, .int a1)]) dX6_notBelow_1 rfl (nle rfl) rfl ?_
  refine r_iconst (pc := 2) (v := (0 : Int32)) dX6_notBelow_2 rfl ?_
  refine r_istore_n (pc := 3) (ls1 := [(3, .int (0 : Int32)), (2, .int (0 : Int32)), (0, .ref (ad g a0)), (1, .int a1)]) dX6_notBelow_3 rfl (nle rfl) rfl ?_
  refine r_pick (ls1 := [(0, .ref (ad g a0)), (1, .int a1), (2, .int (0 : Int32)), (3, .int (0 : Int32))]) [2, 3, 1, 0] rfl ?_
  refine sX6_notBelow_L4 hs0 hw rfl  fuel (0 : Int32) (0 : Int32) hr

theorem kX6_notBelow {g : GG} {σ0 : SS} {a0 : Nat} {a1 : Int32} {v : Int32} {M : MM} {F : State → Array Value → List Frame → State → Prop} {pc index : Nat} {ls : List (Nat × Value)} {rest : List Value} (hf : fX6_notBelow σ0 a0 a1 = some v) (hs0 : shp a0 = (6, 0)) (hl : Cond.methodLink M.1.cls index yX6_notBelow ∈ lw_gt) (hR : mX6_notBelow.2.2.2.2.frames + 1 ≤ M.2.2.2.2.frames ∧ 8 + (mX6_notBelow.2.2.1 + 11) + mX6_notBelow.2.2.2.2.locals ≤ M.2.2.2.2.locals) (hrest : (rest.map fun v => v.category).sum ≤ 8) (hd : decode M.2.1 pc = .ok (.invokevirtual index, 3)) (k : RR g M F zF (pc + 3) ls (.int v :: rest) σ0) : RR g M F zF pc ls (.int a1 :: .ref (ad g a0) :: rest) σ0 :=
  r_callV (z := zF) (N := mX6_notBelow) (nn := 1) (o1 := some (.int v)) (sX6_notBelow hf hs0) hs0 (by decide) (shp_le hs0 (nle rfl)) (ci := 6) rfl rfl tw_3_78 tw_1_2 hl tw_3_76 tw_3_77 ⟨by decide, by decide, rfl⟩ hR rfl hrest hd ⟨Nat.zero_le _, Nat.zero_le _⟩ rfl (fun h => k)

theorem dX6_sumNotBelow_0 : decode cX6_sumNotBelow 0 = .ok (.iconst 0, 1) := by decide +kernel
theorem dX6_sumNotBelow_1 : decode cX6_sumNotBelow 1 = .ok (.istore_n 2, 1) := by decide +kernel
theorem dX6_sumNotBelow_2 : decode cX6_sumNotBelow 2 = .ok (.iconst 0, 1) := by decide +kernel
theorem dX6_sumNotBelow_3 : decode cX6_sumNotBelow 3 = .ok (.istore_n 3, 1) := by decide +kernel
theorem dX6_sumNotBelow_4 : decode cX6_sumNotBelow 4 = .ok (.iload_n 3, 1) := by decide +kernel
theorem dX6_sumNotBelow_5 : decode cX6_sumNotBelow 5 = .ok (.aload_n 0, 1) := by decide +kernel
theorem dX6_sumNotBelow_6 : decode cX6_sumNotBelow 6 = .ok (.getfield 18, 3) := by decide +kernel
theorem dX6_sumNotBelow_9 : decode cX6_sumNotBelow 9 = .ok (.aload_n 0, 1) := by decide +kernel
theorem dX6_sumNotBelow_10 : decode cX6_sumNotBelow 10 = .ok (.getfield 22, 3) := by decide +kernel
theorem dX6_sumNotBelow_13 : decode cX6_sumNotBelow 13 = .ok (.imul, 1) := by decide +kernel
theorem dX6_sumNotBelow_14 : decode cX6_sumNotBelow 14 = .ok (.if_icmp .ge 28, 3) := by decide +kernel
theorem dX6_sumNotBelow_17 : decode cX6_sumNotBelow 17 = .ok (.aload_n 0, 1) := by decide +kernel
theorem dX6_sumNotBelow_18 : decode cX6_sumNotBelow 18 = .ok (.getfield 9, 3) := by decide +kernel
theorem dX6_sumNotBelow_21 : decode cX6_sumNotBelow 21 = .ok (.iload_n 3, 1) := by decide +kernel
theorem dX6_sumNotBelow_22 : decode cX6_sumNotBelow 22 = .ok (.iaload, 1) := by decide +kernel
theorem dX6_sumNotBelow_23 : decode cX6_sumNotBelow 23 = .ok (.iload_n 1, 1) := by decide +kernel
theorem dX6_sumNotBelow_24 : decode cX6_sumNotBelow 24 = .ok (.if_icmp .lt 12, 3) := by decide +kernel
theorem dX6_sumNotBelow_27 : decode cX6_sumNotBelow 27 = .ok (.iload_n 2, 1) := by decide +kernel
theorem dX6_sumNotBelow_28 : decode cX6_sumNotBelow 28 = .ok (.aload_n 0, 1) := by decide +kernel
theorem dX6_sumNotBelow_29 : decode cX6_sumNotBelow 29 = .ok (.getfield 9, 3) := by decide +kernel
theorem dX6_sumNotBelow_32 : decode cX6_sumNotBelow 32 = .ok (.iload_n 3, 1) := by decide +kernel
theorem dX6_sumNotBelow_33 : decode cX6_sumNotBelow 33 = .ok (.iaload, 1) := by decide +kernel
theorem dX6_sumNotBelow_34 : decode cX6_sumNotBelow 34 = .ok (.iadd, 1) := by decide +kernel
theorem dX6_sumNotBelow_35 : decode cX6_sumNotBelow 35 = .ok (.istore_n 2, 1) := by decide +kernel
theorem dX6_sumNotBelow_36 : decode cX6_sumNotBelow 36 = .ok (.iinc 3 1, 3) := by decide +kernel
theorem dX6_sumNotBelow_39 : decode cX6_sumNotBelow 39 = .ok (.goto (-35), 3) := by decide +kernel
theorem dX6_sumNotBelow_42 : decode cX6_sumNotBelow 42 = .ok (.iload_n 2, 1) := by decide +kernel
theorem dX6_sumNotBelow_43 : decode cX6_sumNotBelow 43 = .ok (.ireturn, 1) := by decide +kernel
def mX6_sumNotBelow : MM := (yX6_sumNotBelow, cX6_sumNotBelow, 4, Option.some Jvm.ClassFile.FieldType.int, { frames := 0, cells := 0, slots := 0, locals := 0 })
def X6_sumNotBelow_L4 (σ_ : SS) (o0_ : Nat) (u1_ : Int32)  : Nat → Int32 → Int32 → Option Int32 :=
  lp (fun _ _ => none) fun rec v2_ v3_ =>
    if ((gI σ_ o0_ 0) * (gI σ_ o0_ 1)) ≤ v3_ then (
      some v2_
      ) else (
      grd (inb v3_ 1600) <|
      if (gI σ_ (o0_ + 1) (Int32.toNatClampNeg v3_)) < u1_ then (
        rec v2_ (v3_ + (1 : Int32))
        ) else (
        vthen (v2_ + (gI σ_ (o0_ + 1) (Int32.toNatClampNeg v3_))) fun v2 =>
        rec v2 (v3_ + (1 : Int32))
        )
      )

def fX6_sumNotBelow (σ0 : SS) (a0 : Nat) (a1 : Int32) : Option Int32 :=
  X6_sumNotBelow_L4 σ0 a0 a1
  fuel (0 : Int32) (0 : Int32)

set_option maxRecDepth 20000 in
theorem sX6_sumNotBelow_L4 {g : GG} {r : Int32} {σ_ : SS} {σ0 : SS} {o0_ : Nat} {u1_ : Int32}  (hs0_ : shp o0_ = (6, 0))
    (hw_ : WT σ_)
    (h0_ : σ_ = σ0)
    (n : Nat) : ∀ (v2_ : Int32) (v3_ : Int32), X6_sumNotBelow_L4 σ_ o0_ u1_ n v2_ v3_ = some r → RR g mX6_sumNotBelow (FinR g mX6_sumNotBelow (some (.int r)) NF σ0) zF 4 [(0, .ref (ad g o0_)), (1, .int u1_), (2, .int v2_), (3, .int v3_)] [] σ_ := by
  unfold X6_sumNotBelow_L4
  refine lp_ind (P := fun (rec : Int32 → Int32 → Option Int32) => ∀ (v2_ : Int32) (v3_ : Int32), rec v2_ v3_ = some r → RR g mX6_sumNotBelow (FinR g mX6_sumNotBelow (some (.int r)) NF σ0) zF 4 [(0, .ref (ad g o0_)), (1, .int u1_), (2, .int v2_), (3, .int v3_)] [] σ_) ?_ ?_ n
  · intro v2_ v3_ hr; cases hr
  intro rec ih v2_ v3_ hr
  subst h0_
  refine r_iload_n (pc := 4) (j := 3) dX6_sumNotBelow_4 rfl rfl ?_
  refine r_aload_n (pc := 5) (j := 0) dX6_sumNotBelow_5 rfl rfl ?_
  refine gf6_0 (pc := 6) tw_1_32 hs0_ dX6_sumNotBelow_6 ?_
  refine r_aload_n (pc := 9) (j := 0) dX6_sumNotBelow_9 rfl rfl ?_
  refine gf6_1 (pc := 10) tw_1_37 hs0_ dX6_sumNotBelow_10 ?_
  refine r_imul (pc := 13) dX6_sumNotBelow_13 ?_
  refine r_icmp_ge (pc := 14) (tgt := 42) dX6_sumNotBelow_14 rfl (fun hc => ?_) (fun hc => ?_)
  · replace hr := ite_t hc hr
    refine r_iload_n (pc := 42) (j := 2) dX6_sumNotBelow_42 rfl rfl ?_
    exact l_opi hr (r_iret (pc := 43) (v := v2_) rfl rfl ⟨Nat.le_refl _, Nat.le_refl _⟩ dX6_sumNotBelow_43)
  replace hr := ite_f hc hr
  refine r_aload_n (pc := 17) (j := 0) dX6_sumNotBelow_17 rfl rfl ?_
  refine gf6_2 (pc := 18) tw_1_39 hw_ hs0_ dX6_sumNotBelow_18 ?_
  refine r_iload_n (pc := 21) (j := 3) dX6_sumNotBelow_21 rfl rfl ?_
  obtain ⟨h1, hr⟩ := grd_inv hr
  refine x_iald (pc := 22) (k := (Int32.toNatClampNeg v3_)) (sh6_2 hs0_) h1 rfl dX6_sumNotBelow_22 ?_
  refine r_iload_n (pc := 23) (j := 1) dX6_sumNotBelow_23 rfl rfl ?_
  refine r_icmp_lt (pc := 24) (tgt := 36) dX6_sumNotBelow_24 rfl (fun hc => ?_) (fun hc => ?_)
  · replace hr := ite_t hc hr
    refine r_iinc (pc := 36) (j := 3) (v := (v3_ + (1 : Int32))) (ls1 := [(3, .int (v3_ + (1 : Int32))), (0, .ref (ad g o0_)), (1, .int u1_), (2, .int v2_)]) dX6_sumNotBelow_36 rfl rfl (nle rfl) rfl ?_
    refine r_goto (pc := 39) (tgt := 4) dX6_sumNotBelow_39 rfl ?_
    exact r_pick (ls1 := [(0, .ref (ad g o0_)), (1, .int u1_), (2, .int v2_), (3, .int (v3_ + (1 : Int32)))]) [1, 2, 3, 0] rfl (ih v2_ (v3_ + (1 : Int32)) hr)
  replace hr := ite_f hc hr
  refine r_iload_n (pc := 27) (j := 2) dX6_sumNotBelow_27 rfl rfl ?_
  refine r_aload_n (pc := 28) (j := 0) dX6_sumNotBelow_28 rfl rfl ?_
  refine gf6_2 (pc := 29) tw_1_39 hw_ hs0_ dX6_sumNotBelow_29 ?_
  refine r_iload_n (pc := 32) (j := 3) dX6_sumNotBelow_32 rfl rfl ?_
  refine x_iald (pc := 33) (k := (Int32.toNatClampNeg v3_)) (sh6_2 hs0_) h1 rfl dX6_sumNotBelow_33 ?_
  refine r_iadd (pc := 34) dX6_sumNotBelow_34 ?_
  refine r_topi fun v2 ev2 => ?_
  replace hr := vthen_inv hr v2 ev2
  refine r_istore_n (pc := 35) (ls1 := [(2, .int v2), (0, .ref (ad g o0_)), (1, .int u1_), (3, .int v3_)]) dX6_sumNotBelow_35 rfl (nle rfl) rfl ?_
  refine r_iinc (pc := 36) (j := 3) (v := (v3_ + (1 : Int32))) (ls1 := [(3, .int (v3_ + (1 : Int32))), (2, .int v2), (0, .ref (ad g o0_)), (1, .int u1_)]) dX6_sumNotBelow_36 rfl rfl (nle rfl) rfl ?_
  refine r_goto (pc := 39) (tgt := 4) dX6_sumNotBelow_39 rfl ?_
  exact r_pick (ls1 := [(0, .ref (ad g o0_)), (1, .int u1_), (2, .int v2), (3, .int (v3_ + (1 : Int32)))]) [2, 3, 1, 0] rfl (ih v2 (v3_ + (1 : Int32)) hr)

set_option maxRecDepth 20000 in
theorem sX6_sumNotBelow {g : GG} {σ0 : SS} {a0 : Nat} {a1 : Int32} {r : Int32} (hr : fX6_sumNotBelow σ0 a0 a1 = some r) (hs0 : shp a0 = (6, 0)) : Ct g mX6_sumNotBelow [.ref (ad g a0), .int a1] NF σ0 (some (.int r)) NF σ0 := by
  refine Ct.of (by decide +kernel) (nle rfl) fun hw0 => ?_
  have hw := hw0 rfl
  unfold fX6_sumNotBelow at hr
  change RR g mX6_sumNotBelow (FinR g mX6_sumNotBelow (some (.int r)) NF σ0) zF 0 [(0, .ref (ad g a0)), (1, .int a1)] [] σ0
  refine r_iconst (pc := 0) (v := (0 : Int32)) dX6_sumNotBelow_0 rfl ?_
  refine r_istore_n (pc := 1) (ls1 := [(2, .int (0 : Int32)), (0, .ref (ad g a0)), (1, .int a1)]) dX6_sumNotBelow_1 rfl (nle rfl) rfl ?_
  refine r_iconst (pc := 2) (v := (0 : Int32)) dX6_sumNotBelow_2 rfl ?_
  refine r_istore_n (pc := 3) (ls1 := [(3, .int (0 : Int32)), (2, .int (0 : Int32)), (0, .ref (ad g a0)), (1, .int a1)]) dX6_sumNotBelow_3 rfl (nle rfl) rfl ?_
  refine r_pick (ls1 := [(0, .ref (ad g a0)), (1, .int a1), (2, .int (0 : Int32)), (3, .int (0 : Int32))]) [2, 3, 1, 0] rfl ?_
  refine sX6_sumNotBelow_L4 hs0 hw rfl  fuel (0 : Int32) (0 : Int32) hr

theorem kX6_sumNotBelow {g : GG} {σ0 : SS} {a0 : Nat} {a1 : Int32} {v : Int32} {M : MM} {F : State → Array Value → List Frame → State → Prop} {pc index : Nat} {ls : List (Nat × Value)} {rest : List Value} (hf : fX6_sumNotBelow σ0 a0 a1 = some v) (hs0 : shp a0 = (6, 0)) (hl : Cond.methodLink M.1.cls index yX6_sumNotBelow ∈ lw_gt) (hR : mX6_sumNotBelow.2.2.2.2.frames + 1 ≤ M.2.2.2.2.frames ∧ 8 + (mX6_sumNotBelow.2.2.1 + 11) + mX6_sumNotBelow.2.2.2.2.locals ≤ M.2.2.2.2.locals) (hrest : (rest.map fun v => v.category).sum ≤ 8) (hd : decode M.2.1 pc = .ok (.invokevirtual index, 3)) (k : RR g M F zF (pc + 3) ls (.int v :: rest) σ0) : RR g M F zF pc ls (.int a1 :: .ref (ad g a0) :: rest) σ0 :=
  r_callV (z := zF) (N := mX6_sumNotBelow) (nn := 1) (o1 := some (.int v)) (sX6_sumNotBelow hf hs0) hs0 (by decide) (shp_le hs0 (nle rfl)) (ci := 6) rfl rfl tw_3_82 tw_1_2 hl tw_3_80 tw_3_81 ⟨by decide, by decide, rfl⟩ hR rfl hrest hd ⟨Nat.zero_le _, Nat.zero_le _⟩ rfl (fun h => k)

theorem dX7_count_0 : decode cX7_count 0 = .ok (.iload_n 1, 1) := by decide +kernel
theorem dX7_count_1 : decode cX7_count 1 = .ok (.tableswitch 151 0 10 #[59, 67, 75, 83, 91, 99, 107, 112, 117, 125, 142], 59) := by decide +kernel
theorem dX7_count_60 : decode cX7_count 60 = .ok (.aload_n 0, 1) := by decide +kernel
theorem dX7_count_61 : decode cX7_count 61 = .ok (.getfield 18, 3) := by decide +kernel
theorem dX7_count_64 : decode cX7_count 64 = .ok (.getfield 100, 3) := by decide +kernel
theorem dX7_count_67 : decode cX7_count 67 = .ok (.ireturn, 1) := by decide +kernel
theorem dX7_count_68 : decode cX7_count 68 = .ok (.aload_n 0, 1) := by decide +kernel
theorem dX7_count_69 : decode cX7_count 69 = .ok (.getfield 18, 3) := by decide +kernel
theorem dX7_count_72 : decode cX7_count 72 = .ok (.getfield 103, 3) := by decide +kernel
theorem dX7_count_75 : decode cX7_count 75 = .ok (.ireturn, 1) := by decide +kernel
theorem dX7_count_76 : decode cX7_count 76 = .ok (.aload_n 0, 1) := by decide +kernel
theorem dX7_count_77 : decode cX7_count 77 = .ok (.getfield 32, 3) := by decide +kernel
theorem dX7_count_80 : decode cX7_count 80 = .ok (.getfield 97, 3) := by decide +kernel
theorem dX7_count_83 : decode cX7_count 83 = .ok (.ireturn, 1) := by decide +kernel
theorem dX7_count_84 : decode cX7_count 84 = .ok (.aload_n 0, 1) := by decide +kernel
theorem dX7_count_85 : decode cX7_count 85 = .ok (.getfield 32, 3) := by decide +kernel
theorem dX7_count_88 : decode cX7_count 88 = .ok (.getfield 106, 3) := by decide +kernel
theorem dX7_count_91 : decode cX7_count 91 = .ok (.ireturn, 1) := by decide +kernel
theorem dX7_count_92 : decode cX7_count 92 = .ok (.aload_n 0, 1) := by decide +kernel
theorem dX7_count_93 : decode cX7_count 93 = .ok (.getfield 32, 3) := by decide +kernel
theorem dX7_count_96 : decode cX7_count 96 = .ok (.getfield 109, 3) := by decide +kernel
theorem dX7_count_99 : decode cX7_count 99 = .ok (.ireturn, 1) := by decide +kernel
theorem dX7_count_100 : decode cX7_count 100 = .ok (.aload_n 0, 1) := by decide +kernel
theorem dX7_count_101 : decode cX7_count 101 = .ok (.getfield 32, 3) := by decide +kernel
theorem dX7_count_104 : decode cX7_count 104 = .ok (.getfield 110, 3) := by decide +kernel
theorem dX7_count_107 : decode cX7_count 107 = .ok (.ireturn, 1) := by decide +kernel
theorem dX7_count_108 : decode cX7_count 108 = .ok (.aload_n 0, 1) := by decide +kernel
theorem dX7_count_109 : decode cX7_count 109 = .ok (.getfield 77, 3) := by decide +kernel
theorem dX7_count_112 : decode cX7_count 112 = .ok (.ireturn, 1) := by decide +kernel
theorem dX7_count_113 : decode cX7_count 113 = .ok (.aload_n 0, 1) := by decide +kernel
theorem dX7_count_114 : decode cX7_count 114 = .ok (.getfield 46, 3) := by decide +kernel
theorem dX7_count_117 : decode cX7_count 117 = .ok (.ireturn, 1) := by decide +kernel
theorem dX7_count_118 : decode cX7_count 118 = .ok (.aload_n 0, 1) := by decide +kernel
theorem dX7_count_119 : decode cX7_count 119 = .ok (.getfield 69, 3) := by decide +kernel
theorem dX7_count_122 : decode cX7_count 122 = .ok (.getfield 94, 3) := by decide +kernel
theorem dX7_count_125 : decode cX7_count 125 = .ok (.ireturn, 1) := by decide +kernel
theorem dX7_count_126 : decode cX7_count 126 = .ok (.aload_n 0, 1) := by decide +kernel
theorem dX7_count_127 : decode cX7_count 127 = .ok (.getfield 18, 3) := by decide +kernel
theorem dX7_count_130 : decode cX7_count 130 = .ok (.aload_n 0, 1) := by decide +kernel
theorem dX7_count_131 : decode cX7_count 131 = .ok (.getfield 62, 3) := by decide +kernel
theorem dX7_count_134 : decode cX7_count 134 = .ok (.getfield 111, 3) := by decide +kernel
theorem dX7_count_137 : decode cX7_count 137 = .ok (.iconst 0, 1) := by decide +kernel
theorem dX7_count_138 : decode cX7_count 138 = .ok (.iaload, 1) := by decide +kernel
theorem dX7_count_139 : decode cX7_count 139 = .ok (.invokevirtual 114, 3) := by decide +kernel
theorem dX7_count_142 : decode cX7_count 142 = .ok (.ireturn, 1) := by decide +kernel
theorem dX7_count_143 : decode cX7_count 143 = .ok (.aload_n 0, 1) := by decide +kernel
theorem dX7_count_144 : decode cX7_count 144 = .ok (.getfield 18, 3) := by decide +kernel
theorem dX7_count_147 : decode cX7_count 147 = .ok (.iconst 0, 1) := by decide +kernel
theorem dX7_count_148 : decode cX7_count 148 = .ok (.invokevirtual 118, 3) := by decide +kernel
theorem dX7_count_151 : decode cX7_count 151 = .ok (.ireturn, 1) := by decide +kernel
theorem dX7_count_152 : decode cX7_count 152 = .ok (.iconst (-1), 1) := by decide +kernel
theorem dX7_count_153 : decode cX7_count 153 = .ok (.ireturn, 1) := by decide +kernel
def mX7_count : MM := (yX7_count, cX7_count, 2, Option.some Jvm.ClassFile.FieldType.int, { frames := 1, cells := 0, slots := 0, locals := 23 })
def fX7_count (σ0 : SS) (a1 : Int32) : Option Int32 :=
  if a1 = (0 : Int32) then (
    some (gI σ0 (gR σ0 1 2) 0)
    ) else
  if a1 = (1 : Int32) then (
    some (gI σ0 (gR σ0 1 2) 1)
    ) else
  if a1 = (2 : Int32) then (
    some (gI σ0 (gR σ0 1 5) 5)
    ) else
  if a1 = (3 : Int32) then (
    some (gI σ0 (gR σ0 1 5) 6)
    ) else
  if a1 = (4 : Int32) then (
    some (gI σ0 (gR σ0 1 5) 1)
    ) else
  if a1 = (5 : Int32) then (
    some (gI σ0 (gR σ0 1 5) 2)
    ) else
  if a1 = (6 : Int32) then (
    some (gI σ0 1 1)
    ) else
  if a1 = (7 : Int32) then (
    some (gI σ0 1 8)
    ) else
  if a1 = (8 : Int32) then (
    some (gI σ0 58 0)
    ) else
  if a1 = (9 : Int32) then (
    bnd1 (fX6_notBelow σ0 (gR σ0 1 2) (gI σ0 32 0)) fun v1 =>
    some v1
    ) else
  if a1 = (10 : Int32) then (
    bnd1 (fX6_sumNotBelow σ0 (gR σ0 1 2) (0 : Int32)) fun v4 =>
    some v4
    ) else
  some (-1 : Int32)

set_option maxRecDepth 20000 in
theorem sX7_count {g : GG} {σ0 : SS} {a1 : Int32} {r : Int32} (hr : fX7_count σ0 a1 = some r)  : Ct g mX7_count [.ref (ad g 1), .int a1] NF σ0 (some (.int r)) NF σ0 := by
  refine Ct.of (by decide +kernel) (nle rfl) fun hw0 => ?_
  have hw := hw0 rfl
  unfold fX7_count at hr
  change RR g mX7_count (FinR g mX7_count (some (.int r)) NF σ0) zF 0 [(0, .ref (ad g 1)), (1, .int a1)] [] σ0
  refine r_iload_n (pc := 0) (j := 1) dX7_count_0 rfl rfl ?_
  by_cases hc0 : a1 = (0 : Int32)
  · replace hr := ite_t hc0 hr
    refine r_tabIn (pc := 1) (off := 59) (tgt := 60) dX7_count_1 (by rw [hc0]; decide) (by rw [hc0]; decide) (by rw [hc0]; rfl) rfl ?_
    refine r_aload_n (pc := 60) (j := 0) dX7_count_60 rfl rfl ?_
    refine gf7_2 (pc := 61) tw_2_111 hw dX7_count_61 ?_
    refine gf6_0 (pc := 64) tw_1_35 (wt_sc hw).1 dX7_count_64 ?_
    exact l_opi hr (r_iret (pc := 67) (v := (gI σ0 (gR σ0 1 2) 0)) rfl rfl ⟨Nat.le_refl _, Nat.le_refl _⟩ dX7_count_67)
  replace hr := ite_f hc0 hr
  by_cases hc1 : a1 = (1 : Int32)
  · replace hr := ite_t hc1 hr
    refine r_tabIn (pc := 1) (off := 67) (tgt := 68) dX7_count_1 (by rw [hc1]; decide) (by rw [hc1]; decide) (by rw [hc1]; rfl) rfl ?_
    refine r_aload_n (pc := 68) (j := 0) dX7_count_68 rfl rfl ?_
    refine gf7_2 (pc := 69) tw_2_111 hw dX7_count_69 ?_
    refine gf6_1 (pc := 72) tw_1_38 (wt_sc hw).1 dX7_count_72 ?_
    exact l_opi hr (r_iret (pc := 75) (v := (gI σ0 (gR σ0 1 2) 1)) rfl rfl ⟨Nat.le_refl _, Nat.le_refl _⟩ dX7_count_75)
  replace hr := ite_f hc1 hr
  by_cases hc2 : a1 = (2 : Int32)
  · replace hr := ite_t hc2 hr
    refine r_tabIn (pc := 1) (off := 75) (tgt := 76) dX7_count_1 (by rw [hc2]; decide) (by rw [hc2]; decide) (by rw [hc2]; rfl) rfl ?_
    refine r_aload_n (pc := 76) (j := 0) dX7_count_76 rfl rfl ?_
    refine gf7_5 (pc := 77) tw_2_114 hw dX7_count_77 ?_
    refine gf1_5 (pc := 80) tw_1_79 (wt_fo hw).1 dX7_count_80 ?_
    exact l_opi hr (r_iret (pc := 83) (v := (gI σ0 (gR σ0 1 5) 5)) rfl rfl ⟨Nat.le_refl _, Nat.le_refl _⟩ dX7_count_83)
  replace hr := ite_f hc2 hr
  by_cases hc3 : a1 = (3 : Int32)
  · replace hr := ite_t hc3 hr
    refine r_tabIn (pc := 1) (off := 83) (tgt := 84) dX7_count_1 (by rw [hc3]; decide) (by rw [hc3]; decide) (by rw [hc3]; rfl) rfl ?_
    refine r_aload_n (pc := 84) (j := 0) dX7_count_84 rfl rfl ?_
    refine gf7_5 (pc := 85) tw_2_114 hw dX7_count_85 ?_
    refine gf1_6 (pc := 88) tw_1_84 (wt_fo hw).1 dX7_count_88 ?_
    exact l_opi hr (r_iret (pc := 91) (v := (gI σ0 (gR σ0 1 5) 6)) rfl rfl ⟨Nat.le_refl _, Nat.le_refl _⟩ dX7_count_91)
  replace hr := ite_f hc3 hr
  by_cases hc4 : a1 = (4 : Int32)
  · replace hr := ite_t hc4 hr
    refine r_tabIn (pc := 1) (off := 91) (tgt := 92) dX7_count_1 (by rw [hc4]; decide) (by rw [hc4]; decide) (by rw [hc4]; rfl) rfl ?_
    refine r_aload_n (pc := 92) (j := 0) dX7_count_92 rfl rfl ?_
    refine gf7_5 (pc := 93) tw_2_114 hw dX7_count_93 ?_
    refine gf1_1 (pc := 96) tw_1_65 (wt_fo hw).1 dX7_count_96 ?_
    exact l_opi hr (r_iret (pc := 99) (v := (gI σ0 (gR σ0 1 5) 1)) rfl rfl ⟨Nat.le_refl _, Nat.le_refl _⟩ dX7_count_99)
  replace hr := ite_f hc4 hr
  by_cases hc5 : a1 = (5 : Int32)
  · replace hr := ite_t hc5 hr
    refine r_tabIn (pc := 1) (off := 99) (tgt := 100) dX7_count_1 (by rw [hc5]; decide) (by rw [hc5]; decide) (by rw [hc5]; rfl) rfl ?_
    refine r_aload_n (pc := 100) (j := 0) dX7_count_100 rfl rfl ?_
    refine gf7_5 (pc := 101) tw_2_114 hw dX7_count_101 ?_
    refine gf1_2 (pc := 104) tw_1_69 (wt_fo hw).1 dX7_count_104 ?_
    exact l_opi hr (r_iret (pc := 107) (v := (gI σ0 (gR σ0 1 5) 2)) rfl rfl ⟨Nat.le_refl _, Nat.le_refl _⟩ dX7_count_107)
  replace hr := ite_f hc5 hr
  by_cases hc6 : a1 = (6 : Int32)
  · replace hr := ite_t hc6 hr
    refine r_tabIn (pc := 1) (off := 107) (tgt := 108) dX7_count_1 (by rw [hc6]; decide) (by rw [hc6]; decide) (by rw [hc6]; rfl) rfl ?_
    refine r_aload_n (pc := 108) (j := 0) dX7_count_108 rfl rfl ?_
    refine gf7_1 (pc := 109) tw_2_110 rfl dX7_count_109 ?_
    exact l_opi hr (r_iret (pc := 112) (v := (gI σ0 1 1)) rfl rfl ⟨Nat.le_refl _, Nat.le_refl _⟩ dX7_count_112)
  replace hr := ite_f hc6 hr
  by_cases hc7 : a1 = (7 : Int32)
  · replace hr := ite_t hc7 hr
    refine r_tabIn (pc := 1) (off := 112) (tgt := 113) dX7_count_1 (by rw [hc7]; decide) (by rw [hc7]; decide) (by rw [hc7]; rfl) rfl ?_
    refine r_aload_n (pc := 113) (j := 0) dX7_count_113 rfl rfl ?_
    refine gf7_8 (pc := 114) tw_2_117 rfl dX7_count_114 ?_
    exact l_opi hr (r_iret (pc := 117) (v := (gI σ0 1 8)) rfl rfl ⟨Nat.le_refl _, Nat.le_refl _⟩ dX7_count_117)
  replace hr := ite_f hc7 hr
  by_cases hc8 : a1 = (8 : Int32)
  · replace hr := ite_t hc8 hr
    refine r_tabIn (pc := 1) (off := 117) (tgt := 118) dX7_count_1 (by rw [hc8]; decide) (by rw [hc8]; decide) (by rw [hc8]; rfl) rfl ?_
    refine r_aload_n (pc := 118) (j := 0) dX7_count_118 rfl rfl ?_
    refine gf7_13 (pc := 119) tw_2_122 hw dX7_count_119 ?_
    refine gf4_0 (pc := 122) tw_2_79 rfl dX7_count_122 ?_
    exact l_opi hr (r_iret (pc := 125) (v := (gI σ0 58 0)) rfl rfl ⟨Nat.le_refl _, Nat.le_refl _⟩ dX7_count_125)
  replace hr := ite_f hc8 hr
  by_cases hc9 : a1 = (9 : Int32)
  · replace hr := ite_t hc9 hr
    refine r_tabIn (pc := 1) (off := 125) (tgt := 126) dX7_count_1 (by rw [hc9]; decide) (by rw [hc9]; decide) (by rw [hc9]; rfl) rfl ?_
    refine r_aload_n (pc := 126) (j := 0) dX7_count_126 rfl rfl ?_
    refine gf7_2 (pc := 127) tw_2_111 hw dX7_count_127 ?_
    refine r_aload_n (pc := 130) (j := 0) dX7_count_130 rfl rfl ?_
    refine gf7_12 (pc := 131) tw_2_121 hw dX7_count_131 ?_
    refine gf3_0 (pc := 134) tw_2_23 hw dX7_count_134 ?_
    refine r_iconst (pc := 137) (v := (0 : Int32)) dX7_count_137 rfl ?_
    refine x_iald (pc := 138) (k := 0) rfl (by decide) rfl dX7_count_138 ?_
    obtain ⟨v1, hv1, hr⟩ := bnd1_inv hr
    refine kX6_notBelow (pc := 139) hv1 (wt_sc hw).1 tw_3_75 ⟨nle rfl, nle rfl⟩ (nle rfl) dX7_count_139 ?_
    exact l_opi hr (r_iret (pc := 142) (v := v1) rfl rfl ⟨Nat.le_refl _, Nat.le_refl _⟩ dX7_count_142)
  replace hr := ite_f hc9 hr
  by_cases hc10 : a1 = (10 : Int32)
  · replace hr := ite_t hc10 hr
    refine r_tabIn (pc := 1) (off := 142) (tgt := 143) dX7_count_1 (by rw [hc10]; decide) (by rw [hc10]; decide) (by rw [hc10]; rfl) rfl ?_
    refine r_aload_n (pc := 143) (j := 0) dX7_count_143 rfl rfl ?_
    refine gf7_2 (pc := 144) tw_2_111 hw dX7_count_144 ?_
    refine r_iconst (pc := 147) (v := (0 : Int32)) dX7_count_147 rfl ?_
    obtain ⟨v4, hv4, hr⟩ := bnd1_inv hr
    refine kX6_sumNotBelow (pc := 148) hv4 (wt_sc hw).1 tw_3_79 ⟨nle rfl, nle rfl⟩ (nle rfl) dX7_count_148 ?_
    exact l_opi hr (r_iret (pc := 151) (v := v4) rfl rfl ⟨Nat.le_refl _, Nat.le_refl _⟩ dX7_count_151)
  replace hr := ite_f hc10 hr
  refine r_tabOut (pc := 1) (tgt := 152) dX7_count_1 (tab_out (by decide) (by decide) fun k h1 h2 => ?_) rfl ?_
  · rcases (show k = 0 ∨ k = 1 ∨ k = 2 ∨ k = 3 ∨ k = 4 ∨ k = 5 ∨ k = 6 ∨ k = 7 ∨ k = 8 ∨ k = 9 ∨ k = 10 by omega) with rfl | rfl | rfl | rfl | rfl | rfl | rfl | rfl | rfl | rfl | rfl
    · exact hc0
    · exact hc1
    · exact hc2
    · exact hc3
    · exact hc4
    · exact hc5
    · exact hc6
    · exact hc7
    · exact hc8
    · exact hc9
    · exact hc10
  refine r_iconst (pc := 152) (v := (-1 : Int32)) dX7_count_152 rfl ?_
  exact l_opi hr (r_iret (pc := 153) (v := (-1 : Int32)) rfl rfl ⟨Nat.le_refl _, Nat.le_refl _⟩ dX7_count_153)

theorem kX7_count {g : GG} {σ0 : SS} {a1 : Int32} {v : Int32} {M : MM} {F : State → Array Value → List Frame → State → Prop} {pc index : Nat} {ls : List (Nat × Value)} {rest : List Value} (hf : fX7_count σ0 a1 = some v)  (hl : Cond.methodLink M.1.cls index yX7_count ∈ lw_gt) (hR : mX7_count.2.2.2.2.frames + 1 ≤ M.2.2.2.2.frames ∧ 8 + (mX7_count.2.2.1 + 11) + mX7_count.2.2.2.2.locals ≤ M.2.2.2.2.locals) (hrest : (rest.map fun v => v.category).sum ≤ 8) (hd : decode M.2.1 pc = .ok (.invokevirtual index, 3)) (k : RR g M F zF (pc + 3) ls (.int v :: rest) σ0) : RR g M F zF pc ls (.int a1 :: .ref (ad g 1) :: rest) σ0 :=
  r_callV (z := zF) (N := mX7_count) (nn := 1) (o1 := some (.int v)) (sX7_count hf ) (rfl : shp 1 = (7, 0)) (by decide) (shp_le (rfl : shp 1 = (7, 0)) (nle rfl)) (ci := 7) rfl rfl tw_3_74 tw_1_1 hl tw_3_72 tw_3_73 ⟨by decide, by decide, rfl⟩ hR rfl hrest hd ⟨Nat.zero_le _, Nat.zero_le _⟩ rfl (fun h => k)

theorem dX8_headOf_0 : decode cX8_headOf 0 = .ok (.aload_n 0, 1) := by decide +kernel
theorem dX8_headOf_1 : decode cX8_headOf 1 = .ok (.getfield 202, 3) := by decide +kernel
theorem dX8_headOf_4 : decode cX8_headOf 4 = .ok (.ifCond .eq 19, 3) := by decide +kernel
theorem dX8_headOf_7 : decode cX8_headOf 7 = .ok (.aload_n 0, 1) := by decide +kernel
theorem dX8_headOf_8 : decode cX8_headOf 8 = .ok (.getfield 13, 3) := by decide +kernel
theorem dX8_headOf_11 : decode cX8_headOf 11 = .ok (.iconst 5, 1) := by decide +kernel
theorem dX8_headOf_12 : decode cX8_headOf 12 = .ok (.aload_n 0, 1) := by decide +kernel
theorem dX8_headOf_13 : decode cX8_headOf 13 = .ok (.getfield 206, 3) := by decide +kernel
theorem dX8_headOf_16 : decode cX8_headOf 16 = .ok (.imul, 1) := by decide +kernel
theorem dX8_headOf_17 : decode cX8_headOf 17 = .ok (.iload_n 1, 1) := by decide +kernel
theorem dX8_headOf_18 : decode cX8_headOf 18 = .ok (.iadd, 1) := by decide +kernel
theorem dX8_headOf_19 : decode cX8_headOf 19 = .ok (.iaload, 1) := by decide +kernel
theorem dX8_headOf_20 : decode cX8_headOf 20 = .ok (.goto 4, 3) := by decide +kernel
theorem dX8_headOf_23 : decode cX8_headOf 23 = .ok (.iconst 0, 1) := by decide +kernel
theorem dX8_headOf_24 : decode cX8_headOf 24 = .ok (.ireturn, 1) := by decide +kernel
def mX8_headOf : MM := (yX8_headOf, cX8_headOf, 2, Option.some Jvm.ClassFile.FieldType.int, { frames := 0, cells := 0, slots := 0, locals := 0 })
def fX8_headOf (σ0 : SS) (a1 : Int32) : Option Int32 :=
  if (gI σ0 73 12) = 0 then (
    some (0 : Int32)
    ) else (
    grd (inb (((5 : Int32) * (gI σ0 73 11)) + a1) 10) <|
    some (gI σ0 75 (Int32.toNatClampNeg (((5 : Int32) * (gI σ0 73 11)) + a1)))
    )

set_option maxRecDepth 20000 in
theorem sX8_headOf {g : GG} {σ0 : SS} {a1 : Int32} {r : Int32} (hr : fX8_headOf σ0 a1 = some r)  : Ct g mX8_headOf [.ref (ad g 73), .int a1] NF σ0 (some (.int r)) NF σ0 := by
  refine Ct.of (by decide +kernel) (nle rfl) fun hw0 => ?_
  have hw := hw0 rfl
  unfold fX8_headOf at hr
  change RR g mX8_headOf (FinR g mX8_headOf (some (.int r)) NF σ0) zF 0 [(0, .ref (ad g 73)), (1, .int a1)] [] σ0
  refine r_aload_n (pc := 0) (j := 0) dX8_headOf_0 rfl rfl ?_
  refine gf8_12 (pc := 1) tw_5_106 rfl dX8_headOf_1 ?_
  refine r_if_eq (pc := 4) (tgt := 23) dX8_headOf_4 rfl (fun hc => ?_) (fun hc => ?_)
  · replace hr := ite_t hc hr
    refine r_iconst (pc := 23) (v := (0 : Int32)) dX8_headOf_23 rfl ?_
    exact l_opi hr (r_iret (pc := 24) (v := (0 : Int32)) rfl rfl ⟨Nat.le_refl _, Nat.le_refl _⟩ dX8_headOf_24)
  replace hr := ite_f hc hr
  refine r_aload_n (pc := 7) (j := 0) dX8_headOf_7 rfl rfl ?_
  refine gf8_13 (pc := 8) tw_5_107 hw dX8_headOf_8 ?_
  refine r_iconst (pc := 11) (v := (5 : Int32)) dX8_headOf_11 rfl ?_
  refine r_aload_n (pc := 12) (j := 0) dX8_headOf_12 rfl rfl ?_
  refine gf8_11 (pc := 13) tw_5_105 rfl dX8_headOf_13 ?_
  refine r_imul (pc := 16) dX8_headOf_16 ?_
  refine r_iload_n (pc := 17) (j := 1) dX8_headOf_17 rfl rfl ?_
  refine r_iadd (pc := 18) dX8_headOf_18 ?_
  obtain ⟨h1, hr⟩ := grd_inv hr
  refine x_iald (pc := 19) (k := (Int32.toNatClampNeg (((5 : Int32) * (gI σ0 73 11)) + a1))) rfl h1 rfl dX8_headOf_19 ?_
  refine r_goto (pc := 20) (tgt := 24) dX8_headOf_20 rfl ?_
  exact l_opi hr (r_iret (pc := 24) (v := (gI σ0 75 (Int32.toNatClampNeg (((5 : Int32) * (gI σ0 73 11)) + a1)))) rfl rfl ⟨Nat.le_refl _, Nat.le_refl _⟩ dX8_headOf_24)

theorem kX8_headOf {g : GG} {σ0 : SS} {a1 : Int32} {v : Int32} {M : MM} {F : State → Array Value → List Frame → State → Prop} {pc index : Nat} {ls : List (Nat × Value)} {rest : List Value} (hf : fX8_headOf σ0 a1 = some v)  (hl : Cond.methodLink M.1.cls index yX8_headOf ∈ lw_gt) (hR : mX8_headOf.2.2.2.2.frames + 1 ≤ M.2.2.2.2.frames ∧ 8 + (mX8_headOf.2.2.1 + 11) + mX8_headOf.2.2.2.2.locals ≤ M.2.2.2.2.locals) (hrest : (rest.map fun v => v.category).sum ≤ 8) (hd : decode M.2.1 pc = .ok (.invokevirtual index, 3)) (k : RR g M F zF (pc + 3) ls (.int v :: rest) σ0) : RR g M F zF pc ls (.int a1 :: .ref (ad g 73) :: rest) σ0 :=
  r_callV (z := zF) (N := mX8_headOf) (nn := 1) (o1 := some (.int v)) (sX8_headOf hf ) (rfl : shp 73 = (8, 0)) (by decide) (shp_le (rfl : shp 73 = (8, 0)) (nle rfl)) (ci := 8) rfl rfl tw_6_152 tw_1_10 hl tw_6_151 tp_50 ⟨by decide, by decide, rfl⟩ hR rfl hrest hd ⟨Nat.zero_le _, Nat.zero_le _⟩ rfl (fun h => k)

theorem dX8_questions_0 : decode cX8_questions 0 = .ok (.aload_n 0, 1) := by decide +kernel
theorem dX8_questions_1 : decode cX8_questions 1 = .ok (.iconst 4, 1) := by decide +kernel
theorem dX8_questions_2 : decode cX8_questions 2 = .ok (.invokevirtual 262, 3) := by decide +kernel
theorem dX8_questions_5 : decode cX8_questions 5 = .ok (.ireturn, 1) := by decide +kernel
def mX8_questions : MM := (yX8_questions, cX8_questions, 1, Option.some Jvm.ClassFile.FieldType.int, { frames := 1, cells := 0, slots := 0, locals := 21 })
def fX8_questions (σ0 : SS)  : Option Int32 :=
  bnd1 (fX8_headOf σ0 (4 : Int32)) fun v1 =>
  some v1

set_option maxRecDepth 20000 in
theorem sX8_questions {g : GG} {σ0 : SS}  {r : Int32} (hr : fX8_questions σ0 = some r)  : Ct g mX8_questions [.ref (ad g 73)] NF σ0 (some (.int r)) NF σ0 := by
  refine Ct.of (by decide +kernel) (nle rfl) fun hw0 => ?_
  have hw := hw0 rfl
  unfold fX8_questions at hr
  change RR g mX8_questions (FinR g mX8_questions (some (.int r)) NF σ0) zF 0 [(0, .ref (ad g 73))] [] σ0
  refine r_aload_n (pc := 0) (j := 0) dX8_questions_0 rfl rfl ?_
  refine r_iconst (pc := 1) (v := (4 : Int32)) dX8_questions_1 rfl ?_
  obtain ⟨v1, hv1, hr⟩ := bnd1_inv hr
  refine kX8_headOf (pc := 2) hv1 tw_6_149 ⟨nle rfl, nle rfl⟩ (nle rfl) dX8_questions_2 ?_
  exact l_opi hr (r_iret (pc := 5) (v := v1) rfl rfl ⟨Nat.le_refl _, Nat.le_refl _⟩ dX8_questions_5)

theorem kX8_questions {g : GG} {σ0 : SS}  {v : Int32} {M : MM} {F : State → Array Value → List Frame → State → Prop} {pc index : Nat} {ls : List (Nat × Value)} {rest : List Value} (hf : fX8_questions σ0 = some v)  (hl : Cond.methodLink M.1.cls index yX8_questions ∈ lw_gt) (hR : mX8_questions.2.2.2.2.frames + 1 ≤ M.2.2.2.2.frames ∧ 8 + (mX8_questions.2.2.1 + 11) + mX8_questions.2.2.2.2.locals ≤ M.2.2.2.2.locals) (hrest : (rest.map fun v => v.category).sum ≤ 8) (hd : decode M.2.1 pc = .ok (.invokevirtual index, 3)) (k : RR g M F zF (pc + 3) ls (.int v :: rest) σ0) : RR g M F zF pc ls (.ref (ad g 73) :: rest) σ0 :=
  r_callV (z := zF) (N := mX8_questions) (nn := 0) (o1 := some (.int v)) (sX8_questions hf ) (rfl : shp 73 = (8, 0)) (by decide) (shp_le (rfl : shp 73 = (8, 0)) (nle rfl)) (ci := 8) rfl rfl tw_6_148 tw_1_10 hl tw_6_147 tp_49 ⟨by decide, by decide, rfl⟩ hR rfl hrest hd ⟨Nat.zero_le _, Nat.zero_le _⟩ rfl (fun h => k)

theorem dX8_boxesOf_0 : decode cX8_boxesOf 0 = .ok (.aload_n 0, 1) := by decide +kernel
theorem dX8_boxesOf_1 : decode cX8_boxesOf 1 = .ok (.getfield 20, 3) := by decide +kernel
theorem dX8_boxesOf_4 : decode cX8_boxesOf 4 = .ok (.bipush 12, 2) := by decide +kernel
theorem dX8_boxesOf_6 : decode cX8_boxesOf 6 = .ok (.aload_n 0, 1) := by decide +kernel
theorem dX8_boxesOf_7 : decode cX8_boxesOf 7 = .ok (.getfield 206, 3) := by decide +kernel
theorem dX8_boxesOf_10 : decode cX8_boxesOf 10 = .ok (.imul, 1) := by decide +kernel
theorem dX8_boxesOf_11 : decode cX8_boxesOf 11 = .ok (.iload_n 1, 1) := by decide +kernel
theorem dX8_boxesOf_12 : decode cX8_boxesOf 12 = .ok (.iadd, 1) := by decide +kernel
theorem dX8_boxesOf_13 : decode cX8_boxesOf 13 = .ok (.iaload, 1) := by decide +kernel
theorem dX8_boxesOf_14 : decode cX8_boxesOf 14 = .ok (.ireturn, 1) := by decide +kernel
def mX8_boxesOf : MM := (yX8_boxesOf, cX8_boxesOf, 2, Option.some Jvm.ClassFile.FieldType.int, { frames := 0, cells := 0, slots := 0, locals := 0 })
def fX8_boxesOf (σ0 : SS) (a1 : Int32) : Option Int32 :=
  grd (inb (((12 : Int32) * (gI σ0 73 11)) + a1) 24) <|
  some (gI σ0 77 (Int32.toNatClampNeg (((12 : Int32) * (gI σ0 73 11)) + a1)))

set_option maxRecDepth 20000 in
theorem sX8_boxesOf {g : GG} {σ0 : SS} {a1 : Int32} {r : Int32} (hr : fX8_boxesOf σ0 a1 = some r)  : Ct g mX8_boxesOf [.ref (ad g 73), .int a1] NF σ0 (some (.int r)) NF σ0 := by
  refine Ct.of (by decide +kernel) (nle rfl) fun hw0 => ?_
  have hw := hw0 rfl
  unfold fX8_boxesOf at hr
  change RR g mX8_boxesOf (FinR g mX8_boxesOf (some (.int r)) NF σ0) zF 0 [(0, .ref (ad g 73)), (1, .int a1)] [] σ0
  refine r_aload_n (pc := 0) (j := 0) dX8_boxesOf_0 rfl rfl ?_
  refine gf8_15 (pc := 1) tw_5_109 hw dX8_boxesOf_1 ?_
  refine r_bipush (pc := 4) (v := (12 : Int32)) dX8_boxesOf_4 rfl ?_
  refine r_aload_n (pc := 6) (j := 0) dX8_boxesOf_6 rfl rfl ?_
  refine gf8_11 (pc := 7) tw_5_105 rfl dX8_boxesOf_7 ?_
  refine r_imul (pc := 10) dX8_boxesOf_10 ?_
  refine r_iload_n (pc := 11) (j := 1) dX8_boxesOf_11 rfl rfl ?_
  refine r_iadd (pc := 12) dX8_boxesOf_12 ?_
  obtain ⟨h1, hr⟩ := grd_inv hr
  refine x_iald (pc := 13) (k := (Int32.toNatClampNeg (((12 : Int32) * (gI σ0 73 11)) + a1))) rfl h1 rfl dX8_boxesOf_13 ?_
  exact l_opi hr (r_iret (pc := 14) (v := (gI σ0 77 (Int32.toNatClampNeg (((12 : Int32) * (gI σ0 73 11)) + a1)))) rfl rfl ⟨Nat.le_refl _, Nat.le_refl _⟩ dX8_boxesOf_14)

theorem kX8_boxesOf {g : GG} {σ0 : SS} {a1 : Int32} {v : Int32} {M : MM} {F : State → Array Value → List Frame → State → Prop} {pc index : Nat} {ls : List (Nat × Value)} {rest : List Value} (hf : fX8_boxesOf σ0 a1 = some v)  (hl : Cond.methodLink M.1.cls index yX8_boxesOf ∈ lw_gt) (hR : mX8_boxesOf.2.2.2.2.frames + 1 ≤ M.2.2.2.2.frames ∧ 8 + (mX8_boxesOf.2.2.1 + 11) + mX8_boxesOf.2.2.2.2.locals ≤ M.2.2.2.2.locals) (hrest : (rest.map fun v => v.category).sum ≤ 8) (hd : decode M.2.1 pc = .ok (.invokevirtual index, 3)) (k : RR g M F zF (pc + 3) ls (.int v :: rest) σ0) : RR g M F zF pc ls (.int a1 :: .ref (ad g 73) :: rest) σ0 :=
  r_callV (z := zF) (N := mX8_boxesOf) (nn := 1) (o1 := some (.int v)) (sX8_boxesOf hf ) (rfl : shp 73 = (8, 0)) (by decide) (shp_le (rfl : shp 73 = (8, 0)) (nle rfl)) (ci := 8) rfl rfl tw_7_30 tw_1_10 hl tw_7_29 tp_63 ⟨by decide, by decide, rfl⟩ hR rfl hrest hd ⟨Nat.zero_le _, Nat.zero_le _⟩ rfl (fun h => k)

theorem dX8_allBoxes_0 : decode cX8_allBoxes 0 = .ok (.iconst 0, 1) := by decide +kernel
theorem dX8_allBoxes_1 : decode cX8_allBoxes 1 = .ok (.istore_n 1, 1) := by decide +kernel
theorem dX8_allBoxes_2 : decode cX8_allBoxes 2 = .ok (.iconst 0, 1) := by decide +kernel
theorem dX8_allBoxes_3 : decode cX8_allBoxes 3 = .ok (.istore_n 2, 1) := by decide +kernel
theorem dX8_allBoxes_4 : decode cX8_allBoxes 4 = .ok (.iload_n 2, 1) := by decide +kernel
theorem dX8_allBoxes_5 : decode cX8_allBoxes 5 = .ok (.aload_n 0, 1) := by decide +kernel
theorem dX8_allBoxes_6 : decode cX8_allBoxes 6 = .ok (.invokevirtual 266, 3) := by decide +kernel
theorem dX8_allBoxes_9 : decode cX8_allBoxes 9 = .ok (.if_icmp .ge 17, 3) := by decide +kernel
theorem dX8_allBoxes_12 : decode cX8_allBoxes 12 = .ok (.iload_n 1, 1) := by decide +kernel
theorem dX8_allBoxes_13 : decode cX8_allBoxes 13 = .ok (.aload_n 0, 1) := by decide +kernel
theorem dX8_allBoxes_14 : decode cX8_allBoxes 14 = .ok (.iload_n 2, 1) := by decide +kernel
theorem dX8_allBoxes_15 : decode cX8_allBoxes 15 = .ok (.invokevirtual 272, 3) := by decide +kernel
theorem dX8_allBoxes_18 : decode cX8_allBoxes 18 = .ok (.iadd, 1) := by decide +kernel
theorem dX8_allBoxes_19 : decode cX8_allBoxes 19 = .ok (.istore_n 1, 1) := by decide +kernel
theorem dX8_allBoxes_20 : decode cX8_allBoxes 20 = .ok (.iinc 2 1, 3) := by decide +kernel
theorem dX8_allBoxes_23 : decode cX8_allBoxes 23 = .ok (.goto (-19), 3) := by decide +kernel
theorem dX8_allBoxes_26 : decode cX8_allBoxes 26 = .ok (.iload_n 1, 1) := by decide +kernel
theorem dX8_allBoxes_27 : decode cX8_allBoxes 27 = .ok (.ireturn, 1) := by decide +kernel
def mX8_allBoxes : MM := (yX8_allBoxes, cX8_allBoxes, 3, Option.some Jvm.ClassFile.FieldType.int, { frames := 2, cells := 0, slots := 0, locals := 41 })
def X8_allBoxes_L4 (σ_ : SS)   : Nat → Int32 → Int32 → Option Int32 :=
  lp (fun _ _ => none) fun rec v1_ v2_ =>
    bnd1 (fX8_questions σ_) fun v1 =>
    if v1 ≤ v2_ then (
      some v1_
      ) else (
      bnd1 (fX8_boxesOf σ_ v2_) fun v4 =>
      vthen (v1_ + v4) fun v7 =>
      rec v7 (v2_ + (1 : Int32))
      )

def fX8_allBoxes (σ0 : SS)  : Option Int32 :=
  X8_allBoxes_L4 σ0
  fuel (0 : Int32) (0 : Int32)

set_option maxRecDepth 20000 in
theorem sX8_allBoxes_L4 {g : GG} {r : Int32} {σ_ : SS} {σ0 : SS}   
    (hw_ : WT σ_)
    (h0_ : σ_ = σ0)
    (n : Nat) : ∀ (v1_ : Int32) (v2_ : Int32), X8_allBoxes_L4 σ_ n v1_ v2_ = some r → RR g mX8_allBoxes (FinR g mX8_allBoxes (some (.int r)) NF σ0) zF 4 [(0, .ref (ad g 73)), (1, .int v1_), (2, .int v2_)] [] σ_ := by
  unfold X8_allBoxes_L4
  refine lp_ind (P := fun (rec : Int32 → Int32 → Option Int32) => ∀ (v1_ : Int32) (v2_ : Int32), rec v1_ v2_ = some r → RR g mX8_allBoxes (FinR g mX8_allBoxes (some (.int r)) NF σ0) zF 4 [(0, .ref (ad g 73)), (1, .int v1_), (2, .int v2_)] [] σ_) ?_ ?_ n
  · intro v1_ v2_ hr; cases hr
  intro rec ih v1_ v2_ hr
  subst h0_
  refine r_iload_n (pc := 4) (j := 2) dX8_allBoxes_4 rfl rfl ?_
  refine r_aload_n (pc := 5) (j := 0) dX8_allBoxes_5 rfl rfl ?_
  obtain ⟨v1, hv1, hr⟩ := bnd1_inv hr
  refine kX8_questions (pc := 6) hv1 tw_6_145 ⟨nle rfl, nle rfl⟩ (nle rfl) dX8_allBoxes_6 ?_
  refine r_icmp_ge (pc := 9) (tgt := 26) dX8_allBoxes_9 rfl (fun hc => ?_) (fun hc => ?_)
  · replace hr := ite_t hc hr
    refine r_iload_n (pc := 26) (j := 1) dX8_allBoxes_26 rfl rfl ?_
    exact l_opi hr (r_iret (pc := 27) (v := v1_) rfl rfl ⟨Nat.le_refl _, Nat.le_refl _⟩ dX8_allBoxes_27)
  replace hr := ite_f hc hr
  refine r_iload_n (pc := 12) (j := 1) dX8_allBoxes_12 rfl rfl ?_
  refine r_aload_n (pc := 13) (j := 0) dX8_allBoxes_13 rfl rfl ?_
  refine r_iload_n (pc := 14) (j := 2) dX8_allBoxes_14 rfl rfl ?_
  obtain ⟨v4, hv4, hr⟩ := bnd1_inv hr
  refine kX8_boxesOf (pc := 15) hv4 tw_7_27 ⟨nle rfl, nle rfl⟩ (nle rfl) dX8_allBoxes_15 ?_
  refine r_iadd (pc := 18) dX8_allBoxes_18 ?_
  refine r_topi fun v7 ev7 => ?_
  replace hr := vthen_inv hr v7 ev7
  refine r_istore_n (pc := 19) (ls1 := [(1, .int v7), (0, .ref (ad g 73)), (2, .int v2_)]) dX8_allBoxes_19 rfl (nle rfl) rfl ?_
  refine r_iinc (pc := 20) (j := 2) (v := (v2_ + (1 : Int32))) (ls1 := [(2, .int (v2_ + (1 : Int32))), (1, .int v7), (0, .ref (ad g 73))]) dX8_allBoxes_20 rfl rfl (nle rfl) rfl ?_
  refine r_goto (pc := 23) (tgt := 4) dX8_allBoxes_23 rfl ?_
  exact r_pick (ls1 := [(0, .ref (ad g 73)), (1, .int v7), (2, .int (v2_ + (1 : Int32)))]) [2, 1, 0] rfl (ih v7 (v2_ + (1 : Int32)) hr)

set_option maxRecDepth 20000 in
theorem sX8_allBoxes {g : GG} {σ0 : SS}  {r : Int32} (hr : fX8_allBoxes σ0 = some r)  : Ct g mX8_allBoxes [.ref (ad g 73)] NF σ0 (some (.int r)) NF σ0 := by
  refine Ct.of (by decide +kernel) (nle rfl) fun hw0 => ?_
  have hw := hw0 rfl
  unfold fX8_allBoxes at hr
  change RR g mX8_allBoxes (FinR g mX8_allBoxes (some (.int r)) NF σ0) zF 0 [(0, .ref (ad g 73))] [] σ0
  refine r_iconst (pc := 0) (v := (0 : Int32)) dX8_allBoxes_0 rfl ?_
  refine r_istore_n (pc := 1) (ls1 := [(1, .int (0 : Int32)), (0, .ref (ad g 73))]) dX8_allBoxes_1 rfl (nle rfl) rfl ?_
  refine r_iconst (pc := 2) (v := (0 : Int32)) dX8_allBoxes_2 rfl ?_
  refine r_istore_n (pc := 3) (ls1 := [(2, .int (0 : Int32)), (1, .int (0 : Int32)), (0, .ref (ad g 73))]) dX8_allBoxes_3 rfl (nle rfl) rfl ?_
  refine r_pick (ls1 := [(0, .ref (ad g 73)), (1, .int (0 : Int32)), (2, .int (0 : Int32))]) [2, 1, 0] rfl ?_
  refine sX8_allBoxes_L4  hw rfl  fuel (0 : Int32) (0 : Int32) hr

theorem kX8_allBoxes {g : GG} {σ0 : SS}  {v : Int32} {M : MM} {F : State → Array Value → List Frame → State → Prop} {pc index : Nat} {ls : List (Nat × Value)} {rest : List Value} (hf : fX8_allBoxes σ0 = some v)  (hl : Cond.methodLink M.1.cls index yX8_allBoxes ∈ lw_gt) (hR : mX8_allBoxes.2.2.2.2.frames + 1 ≤ M.2.2.2.2.frames ∧ 8 + (mX8_allBoxes.2.2.1 + 11) + mX8_allBoxes.2.2.2.2.locals ≤ M.2.2.2.2.locals) (hrest : (rest.map fun v => v.category).sum ≤ 8) (hd : decode M.2.1 pc = .ok (.invokevirtual index, 3)) (k : RR g M F zF (pc + 3) ls (.int v :: rest) σ0) : RR g M F zF pc ls (.ref (ad g 73) :: rest) σ0 :=
  r_callV (z := zF) (N := mX8_allBoxes) (nn := 0) (o1 := some (.int v)) (sX8_allBoxes hf ) (rfl : shp 73 = (8, 0)) (by decide) (shp_le (rfl : shp 73 = (8, 0)) (nle rfl)) (ci := 8) rfl rfl tw_7_26 tw_1_10 hl tw_7_25 tp_62 ⟨by decide, by decide, rfl⟩ hR rfl hrest hd ⟨Nat.zero_le _, Nat.zero_le _⟩ rfl (fun h => k)

theorem dX8_all_0 : decode cX8_all 0 = .ok (.aload_n 0, 1) := by decide +kernel
theorem dX8_all_1 : decode cX8_all 1 = .ok (.getfield 132, 3) := by decide +kernel
theorem dX8_all_4 : decode cX8_all 4 = .ok (.aload_n 0, 1) := by decide +kernel
theorem dX8_all_5 : decode cX8_all 5 = .ok (.getfield 136, 3) := by decide +kernel
theorem dX8_all_8 : decode cX8_all 8 = .ok (.imul, 1) := by decide +kernel
theorem dX8_all_9 : decode cX8_all 9 = .ok (.ireturn, 1) := by decide +kernel
def mX8_all : MM := (yX8_all, cX8_all, 1, Option.some Jvm.ClassFile.FieldType.int, { frames := 0, cells := 0, slots := 0, locals := 0 })
def fX8_all (σ0 : SS)  : Int32 :=
  ((gI σ0 73 29) * (gI σ0 73 30))

set_option maxRecDepth 20000 in
theorem sX8_all {g : GG} {σ0 : SS}  {r : Int32} (hr : fX8_all σ0 = r)  : Ct g mX8_all [.ref (ad g 73)] NF σ0 (some (.int r)) NF σ0 := by
  refine Ct.of (by decide +kernel) (nle rfl) fun hw0 => ?_
  have hw := hw0 rfl
  unfold fX8_all at hr
  change RR g mX8_all (FinR g mX8_all (some (.int r)) NF σ0) zF 0 [(0, .ref (ad g 73))] [] σ0
  refine r_aload_n (pc := 0) (j := 0) dX8_all_0 rfl rfl ?_
  refine gf8_29 (pc := 1) tw_5_123 rfl dX8_all_1 ?_
  refine r_aload_n (pc := 4) (j := 0) dX8_all_4 rfl rfl ?_
  refine gf8_30 (pc := 5) tw_5_124 rfl dX8_all_5 ?_
  refine r_imul (pc := 8) dX8_all_8 ?_
  exact l_pi hr (r_iret (pc := 9) (v := ((gI σ0 73 29) * (gI σ0 73 30))) rfl rfl ⟨Nat.le_refl _, Nat.le_refl _⟩ dX8_all_9)

theorem kX8_all {g : GG} {σ0 : SS}  {v : Int32} {M : MM} {F : State → Array Value → List Frame → State → Prop} {pc index : Nat} {ls : List (Nat × Value)} {rest : List Value} (hf : fX8_all σ0 = v)  (hl : Cond.methodLink M.1.cls index yX8_all ∈ lw_gt) (hR : mX8_all.2.2.2.2.frames + 1 ≤ M.2.2.2.2.frames ∧ 8 + (mX8_all.2.2.1 + 11) + mX8_all.2.2.2.2.locals ≤ M.2.2.2.2.locals) (hrest : (rest.map fun v => v.category).sum ≤ 8) (hd : decode M.2.1 pc = .ok (.invokevirtual index, 3)) (k : RR g M F zF (pc + 3) ls (.int v :: rest) σ0) : RR g M F zF pc ls (.ref (ad g 73) :: rest) σ0 :=
  r_callV (z := zF) (N := mX8_all) (nn := 0) (o1 := some (.int v)) (sX8_all hf ) (rfl : shp 73 = (8, 0)) (by decide) (shp_le (rfl : shp 73 = (8, 0)) (nle rfl)) (ci := 8) rfl rfl tw_6_218 tw_1_10 hl tw_6_217 tp_57 ⟨by decide, by decide, rfl⟩ hR rfl hrest hd ⟨Nat.zero_le _, Nat.zero_le _⟩ rfl (fun h => k)

theorem dX8_inked_0 : decode cX8_inked 0 = .ok (.iconst 0, 1) := by decide +kernel
theorem dX8_inked_1 : decode cX8_inked 1 = .ok (.istore_n 1, 1) := by decide +kernel
theorem dX8_inked_2 : decode cX8_inked 2 = .ok (.iconst 0, 1) := by decide +kernel
theorem dX8_inked_3 : decode cX8_inked 3 = .ok (.istore_n 2, 1) := by decide +kernel
theorem dX8_inked_4 : decode cX8_inked 4 = .ok (.iload_n 2, 1) := by decide +kernel
theorem dX8_inked_5 : decode cX8_inked 5 = .ok (.aload_n 0, 1) := by decide +kernel
theorem dX8_inked_6 : decode cX8_inked 6 = .ok (.invokevirtual 275, 3) := by decide +kernel
theorem dX8_inked_9 : decode cX8_inked 9 = .ok (.if_icmp .ge 32, 3) := by decide +kernel
theorem dX8_inked_12 : decode cX8_inked 12 = .ok (.iload_n 1, 1) := by decide +kernel
theorem dX8_inked_13 : decode cX8_inked 13 = .ok (.aload_n 0, 1) := by decide +kernel
theorem dX8_inked_14 : decode cX8_inked 14 = .ok (.getfield 38, 3) := by decide +kernel
theorem dX8_inked_17 : decode cX8_inked 17 = .ok (.iload_n 2, 1) := by decide +kernel
theorem dX8_inked_18 : decode cX8_inked 18 = .ok (.iaload, 1) := by decide +kernel
theorem dX8_inked_19 : decode cX8_inked 19 = .ok (.aload_n 0, 1) := by decide +kernel
theorem dX8_inked_20 : decode cX8_inked 20 = .ok (.getfield 53, 3) := by decide +kernel
theorem dX8_inked_23 : decode cX8_inked 23 = .ok (.iconst 0, 1) := by decide +kernel
theorem dX8_inked_24 : decode cX8_inked 24 = .ok (.iaload, 1) := by decide +kernel
theorem dX8_inked_25 : decode cX8_inked 25 = .ok (.if_icmp .ge 7, 3) := by decide +kernel
theorem dX8_inked_28 : decode cX8_inked 28 = .ok (.iconst 0, 1) := by decide +kernel
theorem dX8_inked_29 : decode cX8_inked 29 = .ok (.goto 4, 3) := by decide +kernel
theorem dX8_inked_32 : decode cX8_inked 32 = .ok (.iconst 1, 1) := by decide +kernel
theorem dX8_inked_33 : decode cX8_inked 33 = .ok (.iadd, 1) := by decide +kernel
theorem dX8_inked_34 : decode cX8_inked 34 = .ok (.istore_n 1, 1) := by decide +kernel
theorem dX8_inked_35 : decode cX8_inked 35 = .ok (.iinc 2 1, 3) := by decide +kernel
theorem dX8_inked_38 : decode cX8_inked 38 = .ok (.goto (-34), 3) := by decide +kernel
theorem dX8_inked_41 : decode cX8_inked 41 = .ok (.iload_n 1, 1) := by decide +kernel
theorem dX8_inked_42 : decode cX8_inked 42 = .ok (.ireturn, 1) := by decide +kernel
def mX8_inked : MM := (yX8_inked, cX8_inked, 3, Option.some Jvm.ClassFile.FieldType.int, { frames := 1, cells := 0, slots := 0, locals := 20 })
def X8_inked_L4 (σ_ : SS)   : Nat → Int32 → Int32 → Option Int32 :=
  lp (fun _ _ => none) fun rec v1_ v2_ =>
    if (fX8_all σ_) ≤ v2_ then (
      some v1_
      ) else (
      grd (inb v2_ 1600) <|
      if (gI σ_ 88 0) ≤ (gI σ_ 83 (Int32.toNatClampNeg v2_)) then (
        vthen (v1_ + (1 : Int32)) fun v2 =>
        rec v2 (v2_ + (1 : Int32))
        ) else (
        vthen (v1_ + (0 : Int32)) fun v3 =>
        rec v3 (v2_ + (1 : Int32))
        )
      )

def fX8_inked (σ0 : SS)  : Option Int32 :=
  X8_inked_L4 σ0
  fuel (0 : Int32) (0 : Int32)

set_option maxRecDepth 20000 in
theorem sX8_inked_L4 {g : GG} {r : Int32} {σ_ : SS} {σ0 : SS}   
    (hw_ : WT σ_)
    (h0_ : σ_ = σ0)
    (n : Nat) : ∀ (v1_ : Int32) (v2_ : Int32), X8_inked_L4 σ_ n v1_ v2_ = some r → RR g mX8_inked (FinR g mX8_inked (some (.int r)) NF σ0) zF 4 [(0, .ref (ad g 73)), (1, .int v1_), (2, .int v2_)] [] σ_ := by
  unfold X8_inked_L4
  refine lp_ind (P := fun (rec : Int32 → Int32 → Option Int32) => ∀ (v1_ : Int32) (v2_ : Int32), rec v1_ v2_ = some r → RR g mX8_inked (FinR g mX8_inked (some (.int r)) NF σ0) zF 4 [(0, .ref (ad g 73)), (1, .int v1_), (2, .int v2_)] [] σ_) ?_ ?_ n
  · intro v1_ v2_ hr; cases hr
  intro rec ih v1_ v2_ hr
  subst h0_
  refine r_iload_n (pc := 4) (j := 2) dX8_inked_4 rfl rfl ?_
  refine r_aload_n (pc := 5) (j := 0) dX8_inked_5 rfl rfl ?_
  refine kX8_all (pc := 6) (hf := rfl) tw_6_215 ⟨nle rfl, nle rfl⟩ (nle rfl) dX8_inked_6 ?_
  refine r_icmp_ge (pc := 9) (tgt := 41) dX8_inked_9 rfl (fun hc => ?_) (fun hc => ?_)
  · replace hr := ite_t hc hr
    refine r_iload_n (pc := 41) (j := 1) dX8_inked_41 rfl rfl ?_
    exact l_opi hr (r_iret (pc := 42) (v := v1_) rfl rfl ⟨Nat.le_refl _, Nat.le_refl _⟩ dX8_inked_42)
  replace hr := ite_f hc hr
  refine r_iload_n (pc := 12) (j := 1) dX8_inked_12 rfl rfl ?_
  refine r_aload_n (pc := 13) (j := 0) dX8_inked_13 rfl rfl ?_
  refine gf8_21 (pc := 14) tw_5_115 hw_ dX8_inked_14 ?_
  refine r_iload_n (pc := 17) (j := 2) dX8_inked_17 rfl rfl ?_
  obtain ⟨h1, hr⟩ := grd_inv hr
  refine x_iald (pc := 18) (k := (Int32.toNatClampNeg v2_)) rfl h1 rfl dX8_inked_18 ?_
  refine r_aload_n (pc := 19) (j := 0) dX8_inked_19 rfl rfl ?_
  refine gf8_26 (pc := 20) tw_5_120 hw_ dX8_inked_20 ?_
  refine r_iconst (pc := 23) (v := (0 : Int32)) dX8_inked_23 rfl ?_
  refine x_iald (pc := 24) (k := 0) rfl (by decide) rfl dX8_inked_24 ?_
  refine r_icmp_ge (pc := 25) (tgt := 32) dX8_inked_25 rfl (fun hc => ?_) (fun hc => ?_)
  · replace hr := ite_t hc hr
    refine r_iconst (pc := 32) (v := (1 : Int32)) dX8_inked_32 rfl ?_
    refine r_iadd (pc := 33) dX8_inked_33 ?_
    refine r_topi fun v2 ev2 => ?_
    replace hr := vthen_inv hr v2 ev2
    refine r_istore_n (pc := 34) (ls1 := [(1, .int v2), (0, .ref (ad g 73)), (2, .int v2_)]) dX8_inked_34 rfl (nle rfl) rfl ?_
    refine r_iinc (pc := 35) (j := 2) (v := (v2_ + (1 : Int32))) (ls1 := [(2, .int (v2_ + (1 : Int32))), (1, .int v2), (0, .ref (ad g 73))]) dX8_inked_35 rfl rfl (nle rfl) rfl ?_
    refine r_goto (pc := 38) (tgt := 4) dX8_inked_38 rfl ?_
    exact r_pick (ls1 := [(0, .ref (ad g 73)), (1, .int v2), (2, .int (v2_ + (1 : Int32)))]) [2, 1, 0] rfl (ih v2 (v2_ + (1 : Int32)) hr)
  replace hr := ite_f hc hr
  refine r_iconst (pc := 28) (v := (0 : Int32)) dX8_inked_28 rfl ?_
  refine r_goto (pc := 29) (tgt := 33) dX8_inked_29 rfl ?_
  refine r_iadd (pc := 33) dX8_inked_33 ?_
  refine r_topi fun v3 ev3 => ?_
  replace hr := vthen_inv hr v3 ev3
  refine r_istore_n (pc := 34) (ls1 := [(1, .int v3), (0, .ref (ad g 73)), (2, .int v2_)]) dX8_inked_34 rfl (nle rfl) rfl ?_
  refine r_iinc (pc := 35) (j := 2) (v := (v2_ + (1 : Int32))) (ls1 := [(2, .int (v2_ + (1 : Int32))), (1, .int v3), (0, .ref (ad g 73))]) dX8_inked_35 rfl rfl (nle rfl) rfl ?_
  refine r_goto (pc := 38) (tgt := 4) dX8_inked_38 rfl ?_
  exact r_pick (ls1 := [(0, .ref (ad g 73)), (1, .int v3), (2, .int (v2_ + (1 : Int32)))]) [2, 1, 0] rfl (ih v3 (v2_ + (1 : Int32)) hr)

set_option maxRecDepth 20000 in
theorem sX8_inked {g : GG} {σ0 : SS}  {r : Int32} (hr : fX8_inked σ0 = some r)  : Ct g mX8_inked [.ref (ad g 73)] NF σ0 (some (.int r)) NF σ0 := by
  refine Ct.of (by decide +kernel) (nle rfl) fun hw0 => ?_
  have hw := hw0 rfl
  unfold fX8_inked at hr
  change RR g mX8_inked (FinR g mX8_inked (some (.int r)) NF σ0) zF 0 [(0, .ref (ad g 73))] [] σ0
  refine r_iconst (pc := 0) (v := (0 : Int32)) dX8_inked_0 rfl ?_
  refine r_istore_n (pc := 1) (ls1 := [(1, .int (0 : Int32)), (0, .ref (ad g 73))]) dX8_inked_1 rfl (nle rfl) rfl ?_
  refine r_iconst (pc := 2) (v := (0 : Int32)) dX8_inked_2 rfl ?_
  refine r_istore_n (pc := 3) (ls1 := [(2, .int (0 : Int32)), (1, .int (0 : Int32)), (0, .ref (ad g 73))]) dX8_inked_3 rfl (nle rfl) rfl ?_
  refine r_pick (ls1 := [(0, .ref (ad g 73)), (1, .int (0 : Int32)), (2, .int (0 : Int32))]) [2, 1, 0] rfl ?_
  refine sX8_inked_L4  hw rfl  fuel (0 : Int32) (0 : Int32) hr

theorem kX8_inked {g : GG} {σ0 : SS}  {v : Int32} {M : MM} {F : State → Array Value → List Frame → State → Prop} {pc index : Nat} {ls : List (Nat × Value)} {rest : List Value} (hf : fX8_inked σ0 = some v)  (hl : Cond.methodLink M.1.cls index yX8_inked ∈ lw_gt) (hR : mX8_inked.2.2.2.2.frames + 1 ≤ M.2.2.2.2.frames ∧ 8 + (mX8_inked.2.2.1 + 11) + mX8_inked.2.2.2.2.locals ≤ M.2.2.2.2.locals) (hrest : (rest.map fun v => v.category).sum ≤ 8) (hd : decode M.2.1 pc = .ok (.invokevirtual index, 3)) (k : RR g M F zF (pc + 3) ls (.int v :: rest) σ0) : RR g M F zF pc ls (.ref (ad g 73) :: rest) σ0 :=
  r_callV (z := zF) (N := mX8_inked) (nn := 0) (o1 := some (.int v)) (sX8_inked hf ) (rfl : shp 73 = (8, 0)) (by decide) (shp_le (rfl : shp 73 = (8, 0)) (nle rfl)) (ci := 8) rfl rfl tw_7_34 tw_1_10 hl tw_7_33 tp_64 ⟨by decide, by decide, rfl⟩ hR rfl hrest hd ⟨Nat.zero_le _, Nat.zero_le _⟩ rfl (fun h => k)

theorem dX8_darkness_0 : decode cX8_darkness 0 = .ok (.iconst 0, 1) := by decide +kernel
theorem dX8_darkness_1 : decode cX8_darkness 1 = .ok (.istore_n 1, 1) := by decide +kernel
theorem dX8_darkness_2 : decode cX8_darkness 2 = .ok (.iconst 0, 1) := by decide +kernel
theorem dX8_darkness_3 : decode cX8_darkness 3 = .ok (.istore_n 2, 1) := by decide +kernel
theorem dX8_darkness_4 : decode cX8_darkness 4 = .ok (.iload_n 2, 1) := by decide +kernel
theorem dX8_darkness_5 : decode cX8_darkness 5 = .ok (.aload_n 0, 1) := by decide +kernel
theorem dX8_darkness_6 : decode cX8_darkness 6 = .ok (.invokevirtual 275, 3) := by decide +kernel
theorem dX8_darkness_9 : decode cX8_darkness 9 = .ok (.if_icmp .ge 18, 3) := by decide +kernel
theorem dX8_darkness_12 : decode cX8_darkness 12 = .ok (.iload_n 1, 1) := by decide +kernel
theorem dX8_darkness_13 : decode cX8_darkness 13 = .ok (.aload_n 0, 1) := by decide +kernel
theorem dX8_darkness_14 : decode cX8_darkness 14 = .ok (.getfield 38, 3) := by decide +kernel
theorem dX8_darkness_17 : decode cX8_darkness 17 = .ok (.iload_n 2, 1) := by decide +kernel
theorem dX8_darkness_18 : decode cX8_darkness 18 = .ok (.iaload, 1) := by decide +kernel
theorem dX8_darkness_19 : decode cX8_darkness 19 = .ok (.iadd, 1) := by decide +kernel
theorem dX8_darkness_20 : decode cX8_darkness 20 = .ok (.istore_n 1, 1) := by decide +kernel
theorem dX8_darkness_21 : decode cX8_darkness 21 = .ok (.iinc 2 1, 3) := by decide +kernel
theorem dX8_darkness_24 : decode cX8_darkness 24 = .ok (.goto (-20), 3) := by decide +kernel
theorem dX8_darkness_27 : decode cX8_darkness 27 = .ok (.iload_n 1, 1) := by decide +kernel
theorem dX8_darkness_28 : decode cX8_darkness 28 = .ok (.ireturn, 1) := by decide +kernel
def mX8_darkness : MM := (yX8_darkness, cX8_darkness, 3, Option.some Jvm.ClassFile.FieldType.int, { frames := 1, cells := 0, slots := 0, locals := 20 })
def X8_darkness_L4 (σ_ : SS)   : Nat → Int32 → Int32 → Option Int32 :=
  lp (fun _ _ => none) fun rec v1_ v2_ =>
    if (fX8_all σ_) ≤ v2_ then (
      some v1_
      ) else (
      grd (inb v2_ 1600) <|
      vthen (v1_ + (gI σ_ 83 (Int32.toNatClampNeg v2_))) fun v2 =>
      rec v2 (v2_ + (1 : Int32))
      )

def fX8_darkness (σ0 : SS)  : Option Int32 :=
  X8_darkness_L4 σ0
  fuel (0 : Int32) (0 : Int32)

set_option maxRecDepth 20000 in
theorem sX8_darkness_L4 {g : GG} {r : Int32} {σ_ : SS} {σ0 : SS}   
    (hw_ : WT σ_)
    (h0_ : σ_ = σ0)
    (n : Nat) : ∀ (v1_ : Int32) (v2_ : Int32), X8_darkness_L4 σ_ n v1_ v2_ = some r → RR g mX8_darkness (FinR g mX8_darkness (some (.int r)) NF σ0) zF 4 [(0, .ref (ad g 73)), (1, .int v1_), (2, .int v2_)] [] σ_ := by
  unfold X8_darkness_L4
  refine lp_ind (P := fun (rec : Int32 → Int32 → Option Int32) => ∀ (v1_ : Int32) (v2_ : Int32), rec v1_ v2_ = some r → RR g mX8_darkness (FinR g mX8_darkness (some (.int r)) NF σ0) zF 4 [(0, .ref (ad g 73)), (1, .int v1_), (2, .int v2_)] [] σ_) ?_ ?_ n
  · intro v1_ v2_ hr; cases hr
  intro rec ih v1_ v2_ hr
  subst h0_
  refine r_iload_n (pc := 4) (j := 2) dX8_darkness_4 rfl rfl ?_
  refine r_aload_n (pc := 5) (j := 0) dX8_darkness_5 rfl rfl ?_
  refine kX8_all (pc := 6) (hf := rfl) tw_6_215 ⟨nle rfl, nle rfl⟩ (nle rfl) dX8_darkness_6 ?_
  refine r_icmp_ge (pc := 9) (tgt := 27) dX8_darkness_9 rfl (fun hc => ?_) (fun hc => ?_)
  · replace hr := ite_t hc hr
    refine r_iload_n (pc := 27) (j := 1) dX8_darkness_27 rfl rfl ?_
    exact l_opi hr (r_iret (pc := 28) (v := v1_) rfl rfl ⟨Nat.le_refl _, Nat.le_refl _⟩ dX8_darkness_28)
  replace hr := ite_f hc hr
  refine r_iload_n (pc := 12) (j := 1) dX8_darkness_12 rfl rfl ?_
  refine r_aload_n (pc := 13) (j := 0) dX8_darkness_13 rfl rfl ?_
  refine gf8_21 (pc := 14) tw_5_115 hw_ dX8_darkness_14 ?_
  refine r_iload_n (pc := 17) (j := 2) dX8_darkness_17 rfl rfl ?_
  obtain ⟨h1, hr⟩ := grd_inv hr
  refine x_iald (pc := 18) (k := (Int32.toNatClampNeg v2_)) rfl h1 rfl dX8_darkness_18 ?_
  refine r_iadd (pc := 19) dX8_darkness_19 ?_
  refine r_topi fun v2 ev2 => ?_
  replace hr := vthen_inv hr v2 ev2
  refine r_istore_n (pc := 20) (ls1 := [(1, .int v2), (0, .ref (ad g 73)), (2, .int v2_)]) dX8_darkness_20 rfl (nle rfl) rfl ?_
  refine r_iinc (pc := 21) (j := 2) (v := (v2_ + (1 : Int32))) (ls1 := [(2, .int (v2_ + (1 : Int32))), (1, .int v2), (0, .ref (ad g 73))]) dX8_darkness_21 rfl rfl (nle rfl) rfl ?_
  refine r_goto (pc := 24) (tgt := 4) dX8_darkness_24 rfl ?_
  exact r_pick (ls1 := [(0, .ref (ad g 73)), (1, .int v2), (2, .int (v2_ + (1 : Int32)))]) [2, 1, 0] rfl (ih v2 (v2_ + (1 : Int32)) hr)

set_option maxRecDepth 20000 in
theorem sX8_darkness {g : GG} {σ0 : SS}  {r : Int32} (hr : fX8_darkness σ0 = some r)  : Ct g mX8_darkness [.ref (ad g 73)] NF σ0 (some (.int r)) NF σ0 := by
  refine Ct.of (by decide +kernel) (nle rfl) fun hw0 => ?_
  have hw := hw0 rfl
  unfold fX8_darkness at hr
  change RR g mX8_darkness (FinR g mX8_darkness (some (.int r)) NF σ0) zF 0 [(0, .ref (ad g 73))] [] σ0
  refine r_iconst (pc := 0) (v := (0 : Int32)) dX8_darkness_0 rfl ?_
  refine r_istore_n (pc := 1) (ls1 := [(1, .int (0 : Int32)), (0, .ref (ad g 73))]) dX8_darkness_1 rfl (nle rfl) rfl ?_
  refine r_iconst (pc := 2) (v := (0 : Int32)) dX8_darkness_2 rfl ?_
  refine r_istore_n (pc := 3) (ls1 := [(2, .int (0 : Int32)), (1, .int (0 : Int32)), (0, .ref (ad g 73))]) dX8_darkness_3 rfl (nle rfl) rfl ?_
  refine r_pick (ls1 := [(0, .ref (ad g 73)), (1, .int (0 : Int32)), (2, .int (0 : Int32))]) [2, 1, 0] rfl ?_
  refine sX8_darkness_L4  hw rfl  fuel (0 : Int32) (0 : Int32) hr

theorem kX8_darkness {g : GG} {σ0 : SS}  {v : Int32} {M : MM} {F : State → Array Value → List Frame → State → Prop} {pc index : Nat} {ls : List (Nat × Value)} {rest : List Value} (hf : fX8_darkness σ0 = some v)  (hl : Cond.methodLink M.1.cls index yX8_darkness ∈ lw_gt) (hR : mX8_darkness.2.2.2.2.frames + 1 ≤ M.2.2.2.2.frames ∧ 8 + (mX8_darkness.2.2.1 + 11) + mX8_darkness.2.2.2.2.locals ≤ M.2.2.2.2.locals) (hrest : (rest.map fun v => v.category).sum ≤ 8) (hd : decode M.2.1 pc = .ok (.invokevirtual index, 3)) (k : RR g M F zF (pc + 3) ls (.int v :: rest) σ0) : RR g M F zF pc ls (.ref (ad g 73) :: rest) σ0 :=
  r_callV (z := zF) (N := mX8_darkness) (nn := 0) (o1 := some (.int v)) (sX8_darkness hf ) (rfl : shp 73 = (8, 0)) (by decide) (shp_le (rfl : shp 73 = (8, 0)) (nle rfl)) (ci := 8) rfl rfl tw_7_38 tw_1_10 hl tw_7_37 tp_65 ⟨by decide, by decide, rfl⟩ hR rfl hrest hd ⟨Nat.zero_le _, Nat.zero_le _⟩ rfl (fun h => k)

theorem dX8_count_0 : decode cX8_count 0 = .ok (.iload_n 1, 1) := by decide +kernel
theorem dX8_count_1 : decode cX8_count 1 = .ok (.tableswitch 116 0 10 #[59, 64, 69, 74, 79, 85, 91, 96, 101, 106, 111], 59) := by decide +kernel
theorem dX8_count_60 : decode cX8_count 60 = .ok (.aload_n 0, 1) := by decide +kernel
theorem dX8_count_61 : decode cX8_count 61 = .ok (.getfield 132, 3) := by decide +kernel
theorem dX8_count_64 : decode cX8_count 64 = .ok (.ireturn, 1) := by decide +kernel
theorem dX8_count_65 : decode cX8_count 65 = .ok (.aload_n 0, 1) := by decide +kernel
theorem dX8_count_66 : decode cX8_count 66 = .ok (.getfield 136, 3) := by decide +kernel
theorem dX8_count_69 : decode cX8_count 69 = .ok (.ireturn, 1) := by decide +kernel
theorem dX8_count_70 : decode cX8_count 70 = .ok (.aload_n 0, 1) := by decide +kernel
theorem dX8_count_71 : decode cX8_count 71 = .ok (.invokevirtual 266, 3) := by decide +kernel
theorem dX8_count_74 : decode cX8_count 74 = .ok (.ireturn, 1) := by decide +kernel
theorem dX8_count_75 : decode cX8_count 75 = .ok (.aload_n 0, 1) := by decide +kernel
theorem dX8_count_76 : decode cX8_count 76 = .ok (.invokevirtual 304, 3) := by decide +kernel
theorem dX8_count_79 : decode cX8_count 79 = .ok (.ireturn, 1) := by decide +kernel
theorem dX8_count_80 : decode cX8_count 80 = .ok (.aload_n 0, 1) := by decide +kernel
theorem dX8_count_81 : decode cX8_count 81 = .ok (.iconst 0, 1) := by decide +kernel
theorem dX8_count_82 : decode cX8_count 82 = .ok (.invokevirtual 262, 3) := by decide +kernel
theorem dX8_count_85 : decode cX8_count 85 = .ok (.ireturn, 1) := by decide +kernel
theorem dX8_count_86 : decode cX8_count 86 = .ok (.aload_n 0, 1) := by decide +kernel
theorem dX8_count_87 : decode cX8_count 87 = .ok (.iconst 1, 1) := by decide +kernel
theorem dX8_count_88 : decode cX8_count 88 = .ok (.invokevirtual 262, 3) := by decide +kernel
theorem dX8_count_91 : decode cX8_count 91 = .ok (.ireturn, 1) := by decide +kernel
theorem dX8_count_92 : decode cX8_count 92 = .ok (.aload_n 0, 1) := by decide +kernel
theorem dX8_count_93 : decode cX8_count 93 = .ok (.getfield 142, 3) := by decide +kernel
theorem dX8_count_96 : decode cX8_count 96 = .ok (.ireturn, 1) := by decide +kernel
theorem dX8_count_97 : decode cX8_count 97 = .ok (.aload_n 0, 1) := by decide +kernel
theorem dX8_count_98 : decode cX8_count 98 = .ok (.getfield 139, 3) := by decide +kernel
theorem dX8_count_101 : decode cX8_count 101 = .ok (.ireturn, 1) := by decide +kernel
theorem dX8_count_102 : decode cX8_count 102 = .ok (.aload_n 0, 1) := by decide +kernel
theorem dX8_count_103 : decode cX8_count 103 = .ok (.getfield 259, 3) := by decide +kernel
theorem dX8_count_106 : decode cX8_count 106 = .ok (.ireturn, 1) := by decide +kernel
theorem dX8_count_107 : decode cX8_count 107 = .ok (.aload_n 0, 1) := by decide +kernel
theorem dX8_count_108 : decode cX8_count 108 = .ok (.invokevirtual 307, 3) := by decide +kernel
theorem dX8_count_111 : decode cX8_count 111 = .ok (.ireturn, 1) := by decide +kernel
theorem dX8_count_112 : decode cX8_count 112 = .ok (.aload_n 0, 1) := by decide +kernel
theorem dX8_count_113 : decode cX8_count 113 = .ok (.invokevirtual 310, 3) := by decide +kernel
theorem dX8_count_116 : decode cX8_count 116 = .ok (.ireturn, 1) := by decide +kernel
theorem dX8_count_117 : decode cX8_count 117 = .ok (.iconst (-1), 1) := by decide +kernel
theorem dX8_count_118 : decode cX8_count 118 = .ok (.ireturn, 1) := by decide +kernel
def mX8_count : MM := (yX8_count, cX8_count, 2, Option.some Jvm.ClassFile.FieldType.int, { frames := 3, cells := 0, slots := 0, locals := 63 })
def fX8_count (σ0 : SS) (a1 : Int32) : Option Int32 :=
  if a1 = (0 : Int32) then (
    some (gI σ0 73 29)
    ) else
  if a1 = (1 : Int32) then (
    some (gI σ0 73 30)
    ) else
  if a1 = (2 : Int32) then (
    bnd1 (fX8_questions σ0) fun v1 =>
    some v1
    ) else
  if a1 = (3 : Int32) then (
    bnd1 (fX8_allBoxes σ0) fun v4 =>
    some v4
    ) else
  if a1 = (4 : Int32) then (
    bnd1 (fX8_headOf σ0 (0 : Int32)) fun v7 =>
    some v7
    ) else
  if a1 = (5 : Int32) then (
    bnd1 (fX8_headOf σ0 (1 : Int32)) fun v10 =>
    some v10
    ) else
  if a1 = (6 : Int32) then (
    some (gI σ0 73 1)
    ) else
  if a1 = (7 : Int32) then (
    some (gI σ0 73 31)
    ) else
  if a1 = (8 : Int32) then (
    some (gI σ0 73 65)
    ) else
  if a1 = (9 : Int32) then (
    bnd1 (fX8_inked σ0) fun v13 =>
    some v13
    ) else
  if a1 = (10 : Int32) then (
    bnd1 (fX8_darkness σ0) fun v16 =>
    some v16
    ) else
  some (-1 : Int32)

set_option maxRecDepth 20000 in
theorem sX8_count {g : GG} {σ0 : SS} {a1 : Int32} {r : Int32} (hr : fX8_count σ0 a1 = some r)  : Ct g mX8_count [.ref (ad g 73), .int a1] NF σ0 (some (.int r)) NF σ0 := by
  refine Ct.of (by decide +kernel) (nle rfl) fun hw0 => ?_
  have hw := hw0 rfl
  unfold fX8_count at hr
  change RR g mX8_count (FinR g mX8_count (some (.int r)) NF σ0) zF 0 [(0, .ref (ad g 73)), (1, .int a1)] [] σ0
  refine r_iload_n (pc := 0) (j := 1) dX8_count_0 rfl rfl ?_
  by_cases hc0 : a1 = (0 : Int32)
  · replace hr := ite_t hc0 hr
    refine r_tabIn (pc := 1) (off := 59) (tgt := 60) dX8_count_1 (by rw [hc0]; decide) (by rw [hc0]; decide) (by rw [hc0]; rfl) rfl ?_
    refine r_aload_n (pc := 60) (j := 0) dX8_count_60 rfl rfl ?_
    refine gf8_29 (pc := 61) tw_5_123 rfl dX8_count_61 ?_
    exact l_opi hr (r_iret (pc := 64) (v := (gI σ0 73 29)) rfl rfl ⟨Nat.le_refl _, Nat.le_refl _⟩ dX8_count_64)
  replace hr := ite_f hc0 hr
  by_cases hc1 : a1 = (1 : Int32)
  · replace hr := ite_t hc1 hr
    refine r_tabIn (pc := 1) (off := 64) (tgt := 65) dX8_count_1 (by rw [hc1]; decide) (by rw [hc1]; decide) (by rw [hc1]; rfl) rfl ?_
    refine r_aload_n (pc := 65) (j := 0) dX8_count_65 rfl rfl ?_
    refine gf8_30 (pc := 66) tw_5_124 rfl dX8_count_66 ?_
    exact l_opi hr (r_iret (pc := 69) (v := (gI σ0 73 30)) rfl rfl ⟨Nat.le_refl _, Nat.le_refl _⟩ dX8_count_69)
  replace hr := ite_f hc1 hr
  by_cases hc2 : a1 = (2 : Int32)
  · replace hr := ite_t hc2 hr
    refine r_tabIn (pc := 1) (off := 69) (tgt := 70) dX8_count_1 (by rw [hc2]; decide) (by rw [hc2]; decide) (by rw [hc2]; rfl) rfl ?_
    refine r_aload_n (pc := 70) (j := 0) dX8_count_70 rfl rfl ?_
    obtain ⟨v1, hv1, hr⟩ := bnd1_inv hr
    refine kX8_questions (pc := 71) hv1 tw_6_145 ⟨nle rfl, nle rfl⟩ (nle rfl) dX8_count_71 ?_
    exact l_opi hr (r_iret (pc := 74) (v := v1) rfl rfl ⟨Nat.le_refl _, Nat.le_refl _⟩ dX8_count_74)
  replace hr := ite_f hc2 hr
  by_cases hc3 : a1 = (3 : Int32)
  · replace hr := ite_t hc3 hr
    refine r_tabIn (pc := 1) (off := 74) (tgt := 75) dX8_count_1 (by rw [hc3]; decide) (by rw [hc3]; decide) (by rw [hc3]; rfl) rfl ?_
    refine r_aload_n (pc := 75) (j := 0) dX8_count_75 rfl rfl ?_
    obtain ⟨v4, hv4, hr⟩ := bnd1_inv hr
    refine kX8_allBoxes (pc := 76) hv4 tw_7_23 ⟨nle rfl, nle rfl⟩ (nle rfl) dX8_count_76 ?_
    exact l_opi hr (r_iret (pc := 79) (v := v4) rfl rfl ⟨Nat.le_refl _, Nat.le_refl _⟩ dX8_count_79)
  replace hr := ite_f hc3 hr
  by_cases hc4 : a1 = (4 : Int32)
  · replace hr := ite_t hc4 hr
    refine r_tabIn (pc := 1) (off := 79) (tgt := 80) dX8_count_1 (by rw [hc4]; decide) (by rw [hc4]; decide) (by rw [hc4]; rfl) rfl ?_
    refine r_aload_n (pc := 80) (j := 0) dX8_count_80 rfl rfl ?_
    refine r_iconst (pc := 81) (v := (0 : Int32)) dX8_count_81 rfl ?_
    obtain ⟨v7, hv7, hr⟩ := bnd1_inv hr
    refine kX8_headOf (pc := 82) hv7 tw_6_149 ⟨nle rfl, nle rfl⟩ (nle rfl) dX8_count_82 ?_
    exact l_opi hr (r_iret (pc := 85) (v := v7) rfl rfl ⟨Nat.le_refl _, Nat.le_refl _⟩ dX8_count_85)
  replace hr := ite_f hc4 hr
  by_cases hc5 : a1 = (5 : Int32)
  · replace hr := ite_t hc5 hr
    refine r_tabIn (pc := 1) (off := 85) (tgt := 86) dX8_count_1 (by rw [hc5]; decide) (by rw [hc5]; decide) (by rw [hc5]; rfl) rfl ?_
    refine r_aload_n (pc := 86) (j := 0) dX8_count_86 rfl rfl ?_
    refine r_iconst (pc := 87) (v := (1 : Int32)) dX8_count_87 rfl ?_
    obtain ⟨v10, hv10, hr⟩ := bnd1_inv hr
    refine kX8_headOf (pc := 88) hv10 tw_6_149 ⟨nle rfl, nle rfl⟩ (nle rfl) dX8_count_88 ?_
    exact l_opi hr (r_iret (pc := 91) (v := v10) rfl rfl ⟨Nat.le_refl _, Nat.le_refl _⟩ dX8_count_91)
  replace hr := ite_f hc5 hr
  by_cases hc6 : a1 = (6 : Int32)
  · replace hr := ite_t hc6 hr
    refine r_tabIn (pc := 1) (off := 91) (tgt := 92) dX8_count_1 (by rw [hc6]; decide) (by rw [hc6]; decide) (by rw [hc6]; rfl) rfl ?_
    refine r_aload_n (pc := 92) (j := 0) dX8_count_92 rfl rfl ?_
    refine gf8_1 (pc := 93) tw_5_95 rfl dX8_count_93 ?_
    exact l_opi hr (r_iret (pc := 96) (v := (gI σ0 73 1)) rfl rfl ⟨Nat.le_refl _, Nat.le_refl _⟩ dX8_count_96)
  replace hr := ite_f hc6 hr
  by_cases hc7 : a1 = (7 : Int32)
  · replace hr := ite_t hc7 hr
    refine r_tabIn (pc := 1) (off := 96) (tgt := 97) dX8_count_1 (by rw [hc7]; decide) (by rw [hc7]; decide) (by rw [hc7]; rfl) rfl ?_
    refine r_aload_n (pc := 97) (j := 0) dX8_count_97 rfl rfl ?_
    refine gf8_31 (pc := 98) tw_5_125 rfl dX8_count_98 ?_
    exact l_opi hr (r_iret (pc := 101) (v := (gI σ0 73 31)) rfl rfl ⟨Nat.le_refl _, Nat.le_refl _⟩ dX8_count_101)
  replace hr := ite_f hc7 hr
  by_cases hc8 : a1 = (8 : Int32)
  · replace hr := ite_t hc8 hr
    refine r_tabIn (pc := 1) (off := 101) (tgt := 102) dX8_count_1 (by rw [hc8]; decide) (by rw [hc8]; decide) (by rw [hc8]; rfl) rfl ?_
    refine r_aload_n (pc := 102) (j := 0) dX8_count_102 rfl rfl ?_
    refine gf8_65 (pc := 103) tw_5_159 rfl dX8_count_103 ?_
    exact l_opi hr (r_iret (pc := 106) (v := (gI σ0 73 65)) rfl rfl ⟨Nat.le_refl _, Nat.le_refl _⟩ dX8_count_106)
  replace hr := ite_f hc8 hr
  by_cases hc9 : a1 = (9 : Int32)
  · replace hr := ite_t hc9 hr
    refine r_tabIn (pc := 1) (off := 106) (tgt := 107) dX8_count_1 (by rw [hc9]; decide) (by rw [hc9]; decide) (by rw [hc9]; rfl) rfl ?_
    refine r_aload_n (pc := 107) (j := 0) dX8_count_107 rfl rfl ?_
    obtain ⟨v13, hv13, hr⟩ := bnd1_inv hr
    refine kX8_inked (pc := 108) hv13 tw_7_31 ⟨nle rfl, nle rfl⟩ (nle rfl) dX8_count_108 ?_
    exact l_opi hr (r_iret (pc := 111) (v := v13) rfl rfl ⟨Nat.le_refl _, Nat.le_refl _⟩ dX8_count_111)
  replace hr := ite_f hc9 hr
  by_cases hc10 : a1 = (10 : Int32)
  · replace hr := ite_t hc10 hr
    refine r_tabIn (pc := 1) (off := 111) (tgt := 112) dX8_count_1 (by rw [hc10]; decide) (by rw [hc10]; decide) (by rw [hc10]; rfl) rfl ?_
    refine r_aload_n (pc := 112) (j := 0) dX8_count_112 rfl rfl ?_
    obtain ⟨v16, hv16, hr⟩ := bnd1_inv hr
    refine kX8_darkness (pc := 113) hv16 tw_7_35 ⟨nle rfl, nle rfl⟩ (nle rfl) dX8_count_113 ?_
    exact l_opi hr (r_iret (pc := 116) (v := v16) rfl rfl ⟨Nat.le_refl _, Nat.le_refl _⟩ dX8_count_116)
  replace hr := ite_f hc10 hr
  refine r_tabOut (pc := 1) (tgt := 117) dX8_count_1 (tab_out (by decide) (by decide) fun k h1 h2 => ?_) rfl ?_
  · rcases (show k = 0 ∨ k = 1 ∨ k = 2 ∨ k = 3 ∨ k = 4 ∨ k = 5 ∨ k = 6 ∨ k = 7 ∨ k = 8 ∨ k = 9 ∨ k = 10 by omega) with rfl | rfl | rfl | rfl | rfl | rfl | rfl | rfl | rfl | rfl | rfl
    · exact hc0
    · exact hc1
    · exact hc2
    · exact hc3
    · exact hc4
    · exact hc5
    · exact hc6
    · exact hc7
    · exact hc8
    · exact hc9
    · exact hc10
  refine r_iconst (pc := 117) (v := (-1 : Int32)) dX8_count_117 rfl ?_
  exact l_opi hr (r_iret (pc := 118) (v := (-1 : Int32)) rfl rfl ⟨Nat.le_refl _, Nat.le_refl _⟩ dX8_count_118)

theorem kX8_count {g : GG} {σ0 : SS} {a1 : Int32} {v : Int32} {M : MM} {F : State → Array Value → List Frame → State → Prop} {pc index : Nat} {ls : List (Nat × Value)} {rest : List Value} (hf : fX8_count σ0 a1 = some v)  (hl : Cond.methodLink M.1.cls index yX8_count ∈ lw_gt) (hR : mX8_count.2.2.2.2.frames + 1 ≤ M.2.2.2.2.frames ∧ 8 + (mX8_count.2.2.1 + 11) + mX8_count.2.2.2.2.locals ≤ M.2.2.2.2.locals) (hrest : (rest.map fun v => v.category).sum ≤ 8) (hd : decode M.2.1 pc = .ok (.invokevirtual index, 3)) (k : RR g M F zF (pc + 3) ls (.int v :: rest) σ0) : RR g M F zF pc ls (.int a1 :: .ref (ad g 73) :: rest) σ0 :=
  r_callV (z := zF) (N := mX8_count) (nn := 1) (o1 := some (.int v)) (sX8_count hf ) (rfl : shp 73 = (8, 0)) (by decide) (shp_le (rfl : shp 73 = (8, 0)) (nle rfl)) (ci := 8) rfl rfl tw_7_22 tw_1_10 hl tw_7_20 tw_7_21 ⟨by decide, by decide, rfl⟩ hR rfl hrest hd ⟨Nat.zero_le _, Nat.zero_le _⟩ rfl (fun h => k)

theorem dX1_hasQuestion_0 : decode cX1_hasQuestion 0 = .ok (.iload_n 1, 1) := by decide +kernel
theorem dX1_hasQuestion_1 : decode cX1_hasQuestion 1 = .ok (.ifCond .lt 15, 3) := by decide +kernel
theorem dX1_hasQuestion_4 : decode cX1_hasQuestion 4 = .ok (.iload_n 1, 1) := by decide +kernel
theorem dX1_hasQuestion_5 : decode cX1_hasQuestion 5 = .ok (.aload_n 0, 1) := by decide +kernel
theorem dX1_hasQuestion_6 : decode cX1_hasQuestion 6 = .ok (.getfield 51, 3) := by decide +kernel
theorem dX1_hasQuestion_9 : decode cX1_hasQuestion 9 = .ok (.if_icmp .ge 7, 3) := by decide +kernel
theorem dX1_hasQuestion_12 : decode cX1_hasQuestion 12 = .ok (.iconst 1, 1) := by decide +kernel
theorem dX1_hasQuestion_13 : decode cX1_hasQuestion 13 = .ok (.goto 4, 3) := by decide +kernel
theorem dX1_hasQuestion_16 : decode cX1_hasQuestion 16 = .ok (.iconst 0, 1) := by decide +kernel
theorem dX1_hasQuestion_17 : decode cX1_hasQuestion 17 = .ok (.ireturn, 1) := by decide +kernel
def mX1_hasQuestion : MM := (yX1_hasQuestion, cX1_hasQuestion, 2, Option.some Jvm.ClassFile.FieldType.boolean, { frames := 0, cells := 0, slots := 0, locals := 0 })
def fX1_hasQuestion (σ0 : SS) (a0 : Nat) (a1 : Int32) : Bool :=
  vthen (fun (_u : Unit) =>
    false
    ) fun j16 =>
  if a1 < 0 then (
    j16 ()
    ) else (
    if (gI σ0 a0 5) ≤ a1 then (
      j16 ()
      ) else (
      true
      )
    )

set_option maxRecDepth 20000 in
theorem sX1_hasQuestion {g : GG} {σ0 : SS} {a0 : Nat} {a1 : Int32} {r : Bool} (hr : fX1_hasQuestion σ0 a0 a1 = r) (hs0 : shp a0 = (1, 0)) : Ct g mX1_hasQuestion [.ref (ad g a0), .int a1] NF σ0 (some (.int (b2i r))) NF σ0 := by
  refine Ct.of (by decide +kernel) (nle rfl) fun hw0 => ?_
  have hw := hw0 rfl
  unfold fX1_hasQuestion at hr
  change RR g mX1_hasQuestion (FinR g mX1_hasQuestion (some (.int (b2i r))) NF σ0) zF 0 [(0, .ref (ad g a0)), (1, .int a1)] [] σ0
  refine r_iload_n (pc := 0) (j := 1) dX1_hasQuestion_0 rfl rfl ?_
  obtain ⟨j16, ej16, hr⟩ := vth_ex hr
  have hj16 : j16 () = r → RR g mX1_hasQuestion (FinR g mX1_hasQuestion (some (.int (b2i r))) NF σ0) zF 16 [] [] σ0 := by
    intro  hr
    replace hr := (congrFun ej16 ()).symm.trans hr
    refine r_iconst (pc := 16) (v := (0 : Int32)) dX1_hasQuestion_16 rfl ?_
    exact l_pz hr (r_zret (pc := 17) (v := b2i false) (ty := .boolean) rfl (b2i_nar _) rfl ⟨Nat.le_refl _, Nat.le_refl _⟩ dX1_hasQuestion_17)
  refine r_if_lt (pc := 1) (tgt := 16) dX1_hasQuestion_1 rfl (fun hc => ?_) (fun hc => ?_)
  · replace hr := ite_t hc hr
    exact r_pick (ls1 := []) [] rfl (hj16  hr)
  replace hr := ite_f hc hr
  refine r_iload_n (pc := 4) (j := 1) dX1_hasQuestion_4 rfl rfl ?_
  refine r_aload_n (pc := 5) (j := 0) dX1_hasQuestion_5 rfl rfl ?_
  refine gf1_5 (pc := 6) tw_1_78 hs0 dX1_hasQuestion_6 ?_
  refine r_icmp_ge (pc := 9) (tgt := 16) dX1_hasQuestion_9 rfl (fun hc => ?_) (fun hc => ?_)
  · replace hr := ite_t hc hr
    exact r_pick (ls1 := []) [] rfl (hj16  hr)
  replace hr := ite_f hc hr
  refine r_iconst (pc := 12) (v := (1 : Int32)) dX1_hasQuestion_12 rfl ?_
  refine r_goto (pc := 13) (tgt := 17) dX1_hasQuestion_13 rfl ?_
  exact l_pz hr (r_zret (pc := 17) (v := b2i true) (ty := .boolean) rfl (b2i_nar _) rfl ⟨Nat.le_refl _, Nat.le_refl _⟩ dX1_hasQuestion_17)

theorem kX1_hasQuestion {g : GG} {σ0 : SS} {a0 : Nat} {a1 : Int32} {v : Bool} {M : MM} {F : State → Array Value → List Frame → State → Prop} {pc index : Nat} {ls : List (Nat × Value)} {rest : List Value} (hf : fX1_hasQuestion σ0 a0 a1 = v) (hs0 : shp a0 = (1, 0)) (hl : Cond.methodLink M.1.cls index yX1_hasQuestion ∈ lw_gt) (hR : mX1_hasQuestion.2.2.2.2.frames + 1 ≤ M.2.2.2.2.frames ∧ 8 + (mX1_hasQuestion.2.2.1 + 11) + mX1_hasQuestion.2.2.2.2.locals ≤ M.2.2.2.2.locals) (hrest : (rest.map fun v => v.category).sum ≤ 8) (hd : decode M.2.1 pc = .ok (.invokevirtual index, 3)) (k : RR g M F zF (pc + 3) ls (.int (b2i v) :: rest) σ0) : RR g M F zF pc ls (.int a1 :: .ref (ad g a0) :: rest) σ0 :=
  r_callV (z := zF) (N := mX1_hasQuestion) (nn := 1) (o1 := some (.int (b2i v))) (sX1_hasQuestion hf hs0) hs0 (by decide) (shp_le hs0 (nle rfl)) (ci := 1) rfl rfl tw_3_90 tw_1_3 hl tw_3_88 tw_3_89 ⟨by decide, by decide, rfl⟩ hR rfl hrest hd ⟨Nat.zero_le _, Nat.zero_le _⟩ rfl (fun h => k)

theorem dX1_hasBox_0 : decode cX1_hasBox 0 = .ok (.aload_n 0, 1) := by decide +kernel
theorem dX1_hasBox_1 : decode cX1_hasBox 1 = .ok (.iload_n 1, 1) := by decide +kernel
theorem dX1_hasBox_2 : decode cX1_hasBox 2 = .ok (.invokevirtual 57, 3) := by decide +kernel
theorem dX1_hasBox_5 : decode cX1_hasBox 5 = .ok (.ifCond .eq 21, 3) := by decide +kernel
theorem dX1_hasBox_8 : decode cX1_hasBox 8 = .ok (.iload_n 2, 1) := by decide +kernel
theorem dX1_hasBox_9 : decode cX1_hasBox 9 = .ok (.ifCond .lt 17, 3) := by decide +kernel
theorem dX1_hasBox_12 : decode cX1_hasBox 12 = .ok (.iload_n 2, 1) := by decide +kernel
theorem dX1_hasBox_13 : decode cX1_hasBox 13 = .ok (.aload_n 0, 1) := by decide +kernel
theorem dX1_hasBox_14 : decode cX1_hasBox 14 = .ok (.getfield 19, 3) := by decide +kernel
theorem dX1_hasBox_17 : decode cX1_hasBox 17 = .ok (.iload_n 1, 1) := by decide +kernel
theorem dX1_hasBox_18 : decode cX1_hasBox 18 = .ok (.iaload, 1) := by decide +kernel
theorem dX1_hasBox_19 : decode cX1_hasBox 19 = .ok (.if_icmp .ge 7, 3) := by decide +kernel
theorem dX1_hasBox_22 : decode cX1_hasBox 22 = .ok (.iconst 1, 1) := by decide +kernel
theorem dX1_hasBox_23 : decode cX1_hasBox 23 = .ok (.goto 4, 3) := by decide +kernel
theorem dX1_hasBox_26 : decode cX1_hasBox 26 = .ok (.iconst 0, 1) := by decide +kernel
theorem dX1_hasBox_27 : decode cX1_hasBox 27 = .ok (.ireturn, 1) := by decide +kernel
def mX1_hasBox : MM := (yX1_hasBox, cX1_hasBox, 3, Option.some Jvm.ClassFile.FieldType.boolean, { frames := 1, cells := 0, slots := 0, locals := 21 })
def fX1_hasBox (σ0 : SS) (a0 : Nat) (a1 : Int32) (a2 : Int32) : Option Bool :=
  vthen (fun (_u : Unit) =>
    some false
    ) fun j26 =>
  if (fX1_hasQuestion σ0 a0 a1) = true then (
    if a2 < 0 then (
      j26 ()
      ) else (
      grd (inb a1 12) <|
      if (gI σ0 (a0 + 3) (Int32.toNatClampNeg a1)) ≤ a2 then (
        j26 ()
        ) else (
        some true
        )
      )
    ) else (
    j26 ()
    )

set_option maxRecDepth 20000 in
theorem sX1_hasBox {g : GG} {σ0 : SS} {a0 : Nat} {a1 : Int32} {a2 : Int32} {r : Bool} (hr : fX1_hasBox σ0 a0 a1 a2 = some r) (hs0 : shp a0 = (1, 0)) : Ct g mX1_hasBox [.ref (ad g a0), .int a1, .int a2] NF σ0 (some (.int (b2i r))) NF σ0 := by
  refine Ct.of (by decide +kernel) (nle rfl) fun hw0 => ?_
  have hw := hw0 rfl
  unfold fX1_hasBox at hr
  change RR g mX1_hasBox (FinR g mX1_hasBox (some (.int (b2i r))) NF σ0) zF 0 [(0, .ref (ad g a0)), (1, .int a1), (2, .int a2)] [] σ0
  refine r_aload_n (pc := 0) (j := 0) dX1_hasBox_0 rfl rfl ?_
  refine r_iload_n (pc := 1) (j := 1) dX1_hasBox_1 rfl rfl ?_
  refine kX1_hasQuestion (pc := 2) (hf := rfl) hs0 tw_3_95 ⟨nle rfl, nle rfl⟩ (nle rfl) dX1_hasBox_2 ?_
  obtain ⟨j26, ej26, hr⟩ := vth_ex hr
  have hj26 : j26 () = some r → RR g mX1_hasBox (FinR g mX1_hasBox (some (.int (b2i r))) NF σ0) zF 26 [] [] σ0 := by
    intro  hr
    replace hr := (congrFun ej26 ()).symm.trans hr
    refine r_iconst (pc := 26) (v := (0 : Int32)) dX1_hasBox_26 rfl ?_
    exact l_opz hr (r_zret (pc := 27) (v := b2i false) (ty := .boolean) rfl (b2i_nar _) rfl ⟨Nat.le_refl _, Nat.le_refl _⟩ dX1_hasBox_27)
  refine r_ifB_eq (pc := 5) (tgt := 26) dX1_hasBox_5 rfl (fun hc => ?_) (fun hc => ?_)
  · replace hr := ite_f hc hr
    exact r_pick (ls1 := []) [] rfl (hj26  hr)
  replace hr := ite_t hc hr
  refine r_iload_n (pc := 8) (j := 2) dX1_hasBox_8 rfl rfl ?_
  refine r_if_lt (pc := 9) (tgt := 26) dX1_hasBox_9 rfl (fun hc => ?_) (fun hc => ?_)
  · replace hr := ite_t hc hr
    exact r_pick (ls1 := []) [] rfl (hj26  hr)
  replace hr := ite_f hc hr
  refine r_iload_n (pc := 12) (j := 2) dX1_hasBox_12 rfl rfl ?_
  refine r_aload_n (pc := 13) (j := 0) dX1_hasBox_13 rfl rfl ?_
  refine gf1_9 (pc := 14) tw_1_91 hw hs0 dX1_hasBox_14 ?_
  refine r_iload_n (pc := 17) (j := 1) dX1_hasBox_17 rfl rfl ?_
  obtain ⟨h1, hr⟩ := grd_inv hr
  refine x_iald (pc := 18) (k := (Int32.toNatClampNeg a1)) (sh1_9 hs0) h1 rfl dX1_hasBox_18 ?_
  refine r_icmp_ge (pc := 19) (tgt := 26) dX1_hasBox_19 rfl (fun hc => ?_) (fun hc => ?_)
  · replace hr := ite_t hc hr
    exact r_pick (ls1 := []) [] rfl (hj26  hr)
  replace hr := ite_f hc hr
  refine r_iconst (pc := 22) (v := (1 : Int32)) dX1_hasBox_22 rfl ?_
  refine r_goto (pc := 23) (tgt := 27) dX1_hasBox_23 rfl ?_
  exact l_opz hr (r_zret (pc := 27) (v := b2i true) (ty := .boolean) rfl (b2i_nar _) rfl ⟨Nat.le_refl _, Nat.le_refl _⟩ dX1_hasBox_27)

theorem kX1_hasBox {g : GG} {σ0 : SS} {a0 : Nat} {a1 : Int32} {a2 : Int32} {v : Bool} {M : MM} {F : State → Array Value → List Frame → State → Prop} {pc index : Nat} {ls : List (Nat × Value)} {rest : List Value} (hf : fX1_hasBox σ0 a0 a1 a2 = some v) (hs0 : shp a0 = (1, 0)) (hl : Cond.methodLink M.1.cls index yX1_hasBox ∈ lw_gt) (hR : mX1_hasBox.2.2.2.2.frames + 1 ≤ M.2.2.2.2.frames ∧ 8 + (mX1_hasBox.2.2.1 + 11) + mX1_hasBox.2.2.2.2.locals ≤ M.2.2.2.2.locals) (hrest : (rest.map fun v => v.category).sum ≤ 8) (hd : decode M.2.1 pc = .ok (.invokevirtual index, 3)) (k : RR g M F zF (pc + 3) ls (.int (b2i v) :: rest) σ0) : RR g M F zF pc ls (.int a2 :: .int a1 :: .ref (ad g a0) :: rest) σ0 :=
  r_callV (z := zF) (N := mX1_hasBox) (nn := 2) (o1 := some (.int (b2i v))) (sX1_hasBox hf hs0) hs0 (by decide) (shp_le hs0 (nle rfl)) (ci := 1) rfl rfl tw_3_94 tw_1_3 hl tw_3_92 tw_3_93 ⟨by decide, by decide, rfl⟩ hR rfl hrest hd ⟨Nat.zero_le _, Nat.zero_le _⟩ rfl (fun h => k)

theorem dX7_question_0 : decode cX7_question 0 = .ok (.aload_n 0, 1) := by decide +kernel
theorem dX7_question_1 : decode cX7_question 1 = .ok (.getfield 32, 3) := by decide +kernel
theorem dX7_question_4 : decode cX7_question 4 = .ok (.iload_n 1, 1) := by decide +kernel
theorem dX7_question_5 : decode cX7_question 5 = .ok (.invokevirtual 121, 3) := by decide +kernel
theorem dX7_question_8 : decode cX7_question 8 = .ok (.ifCond .ne 5, 3) := by decide +kernel
theorem dX7_question_11 : decode cX7_question 11 = .ok (.iconst (-1), 1) := by decide +kernel
theorem dX7_question_12 : decode cX7_question 12 = .ok (.ireturn, 1) := by decide +kernel
theorem dX7_question_13 : decode cX7_question 13 = .ok (.iload_n 2, 1) := by decide +kernel
theorem dX7_question_14 : decode cX7_question 14 = .ok (.tableswitch 78 0 3 #[30, 48, 58, 68], 30) := by decide +kernel
theorem dX7_question_44 : decode cX7_question 44 = .ok (.aload_n 0, 1) := by decide +kernel
theorem dX7_question_45 : decode cX7_question 45 = .ok (.getfield 32, 3) := by decide +kernel
theorem dX7_question_48 : decode cX7_question 48 = .ok (.getfield 125, 3) := by decide +kernel
theorem dX7_question_51 : decode cX7_question 51 = .ok (.iload_n 1, 1) := by decide +kernel
theorem dX7_question_52 : decode cX7_question 52 = .ok (.baload, 1) := by decide +kernel
theorem dX7_question_53 : decode cX7_question 53 = .ok (.ifCond .eq 7, 3) := by decide +kernel
theorem dX7_question_56 : decode cX7_question 56 = .ok (.iconst 2, 1) := by decide +kernel
theorem dX7_question_57 : decode cX7_question 57 = .ok (.goto 4, 3) := by decide +kernel
theorem dX7_question_60 : decode cX7_question 60 = .ok (.iconst 1, 1) := by decide +kernel
theorem dX7_question_61 : decode cX7_question 61 = .ok (.ireturn, 1) := by decide +kernel
theorem dX7_question_62 : decode cX7_question 62 = .ok (.aload_n 0, 1) := by decide +kernel
theorem dX7_question_63 : decode cX7_question 63 = .ok (.getfield 32, 3) := by decide +kernel
theorem dX7_question_66 : decode cX7_question 66 = .ok (.getfield 129, 3) := by decide +kernel
theorem dX7_question_69 : decode cX7_question 69 = .ok (.iload_n 1, 1) := by decide +kernel
theorem dX7_question_70 : decode cX7_question 70 = .ok (.iaload, 1) := by decide +kernel
theorem dX7_question_71 : decode cX7_question 71 = .ok (.ireturn, 1) := by decide +kernel
theorem dX7_question_72 : decode cX7_question 72 = .ok (.aload_n 0, 1) := by decide +kernel
theorem dX7_question_73 : decode cX7_question 73 = .ok (.getfield 32, 3) := by decide +kernel
theorem dX7_question_76 : decode cX7_question 76 = .ok (.getfield 132, 3) := by decide +kernel
theorem dX7_question_79 : decode cX7_question 79 = .ok (.iload_n 1, 1) := by decide +kernel
theorem dX7_question_80 : decode cX7_question 80 = .ok (.iaload, 1) := by decide +kernel
theorem dX7_question_81 : decode cX7_question 81 = .ok (.ireturn, 1) := by decide +kernel
theorem dX7_question_82 : decode cX7_question 82 = .ok (.aload_n 0, 1) := by decide +kernel
theorem dX7_question_83 : decode cX7_question 83 = .ok (.getfield 32, 3) := by decide +kernel
theorem dX7_question_86 : decode cX7_question 86 = .ok (.getfield 135, 3) := by decide +kernel
theorem dX7_question_89 : decode cX7_question 89 = .ok (.iload_n 1, 1) := by decide +kernel
theorem dX7_question_90 : decode cX7_question 90 = .ok (.iaload, 1) := by decide +kernel
theorem dX7_question_91 : decode cX7_question 91 = .ok (.ireturn, 1) := by decide +kernel
theorem dX7_question_92 : decode cX7_question 92 = .ok (.iload_n 2, 1) := by decide +kernel
theorem dX7_question_93 : decode cX7_question 93 = .ok (.bipush 10, 2) := by decide +kernel
theorem dX7_question_95 : decode cX7_question 95 = .ok (.if_icmp .lt 47, 3) := by decide +kernel
theorem dX7_question_98 : decode cX7_question 98 = .ok (.iload_n 2, 1) := by decide +kernel
theorem dX7_question_99 : decode cX7_question 99 = .ok (.bipush 20, 2) := by decide +kernel
theorem dX7_question_101 : decode cX7_question 101 = .ok (.if_icmp .ge 41, 3) := by decide +kernel
theorem dX7_question_104 : decode cX7_question 104 = .ok (.aload_n 0, 1) := by decide +kernel
theorem dX7_question_105 : decode cX7_question 105 = .ok (.getfield 32, 3) := by decide +kernel
theorem dX7_question_108 : decode cX7_question 108 = .ok (.iload_n 1, 1) := by decide +kernel
theorem dX7_question_109 : decode cX7_question 109 = .ok (.iload_n 2, 1) := by decide +kernel
theorem dX7_question_110 : decode cX7_question 110 = .ok (.bipush 10, 2) := by decide +kernel
theorem dX7_question_112 : decode cX7_question 112 = .ok (.isub, 1) := by decide +kernel
theorem dX7_question_113 : decode cX7_question 113 = .ok (.invokevirtual 138, 3) := by decide +kernel
theorem dX7_question_116 : decode cX7_question 116 = .ok (.ifCond .eq 26, 3) := by decide +kernel
theorem dX7_question_119 : decode cX7_question 119 = .ok (.aload_n 0, 1) := by decide +kernel
theorem dX7_question_120 : decode cX7_question 120 = .ok (.getfield 32, 3) := by decide +kernel
theorem dX7_question_123 : decode cX7_question 123 = .ok (.getfield 142, 3) := by decide +kernel
theorem dX7_question_126 : decode cX7_question 126 = .ok (.aload_n 0, 1) := by decide +kernel
theorem dX7_question_127 : decode cX7_question 127 = .ok (.getfield 32, 3) := by decide +kernel
theorem dX7_question_130 : decode cX7_question 130 = .ok (.getfield 145, 3) := by decide +kernel
theorem dX7_question_133 : decode cX7_question 133 = .ok (.iload_n 1, 1) := by decide +kernel
theorem dX7_question_134 : decode cX7_question 134 = .ok (.iaload, 1) := by decide +kernel
theorem dX7_question_135 : decode cX7_question 135 = .ok (.iload_n 2, 1) := by decide +kernel
theorem dX7_question_136 : decode cX7_question 136 = .ok (.iadd, 1) := by decide +kernel
theorem dX7_question_137 : decode cX7_question 137 = .ok (.bipush 10, 2) := by decide +kernel
theorem dX7_question_139 : decode cX7_question 139 = .ok (.isub, 1) := by decide +kernel
theorem dX7_question_140 : decode cX7_question 140 = .ok (.iaload, 1) := by decide +kernel
theorem dX7_question_141 : decode cX7_question 141 = .ok (.ireturn, 1) := by decide +kernel
theorem dX7_question_142 : decode cX7_question 142 = .ok (.iload_n 2, 1) := by decide +kernel
theorem dX7_question_143 : decode cX7_question 143 = .ok (.bipush 20, 2) := by decide +kernel
theorem dX7_question_145 : decode cX7_question 145 = .ok (.if_icmp .lt 47, 3) := by decide +kernel
theorem dX7_question_148 : decode cX7_question 148 = .ok (.iload_n 2, 1) := by decide +kernel
theorem dX7_question_149 : decode cX7_question 149 = .ok (.bipush 30, 2) := by decide +kernel
theorem dX7_question_151 : decode cX7_question 151 = .ok (.if_icmp .ge 41, 3) := by decide +kernel
theorem dX7_question_154 : decode cX7_question 154 = .ok (.aload_n 0, 1) := by decide +kernel
theorem dX7_question_155 : decode cX7_question 155 = .ok (.getfield 32, 3) := by decide +kernel
theorem dX7_question_158 : decode cX7_question 158 = .ok (.iload_n 1, 1) := by decide +kernel
theorem dX7_question_159 : decode cX7_question 159 = .ok (.iload_n 2, 1) := by decide +kernel
theorem dX7_question_160 : decode cX7_question 160 = .ok (.bipush 20, 2) := by decide +kernel
theorem dX7_question_162 : decode cX7_question 162 = .ok (.isub, 1) := by decide +kernel
theorem dX7_question_163 : decode cX7_question 163 = .ok (.invokevirtual 138, 3) := by decide +kernel
theorem dX7_question_166 : decode cX7_question 166 = .ok (.ifCond .eq 26, 3) := by decide +kernel
theorem dX7_question_169 : decode cX7_question 169 = .ok (.aload_n 0, 1) := by decide +kernel
theorem dX7_question_170 : decode cX7_question 170 = .ok (.getfield 32, 3) := by decide +kernel
theorem dX7_question_173 : decode cX7_question 173 = .ok (.getfield 148, 3) := by decide +kernel
theorem dX7_question_176 : decode cX7_question 176 = .ok (.aload_n 0, 1) := by decide +kernel
theorem dX7_question_177 : decode cX7_question 177 = .ok (.getfield 32, 3) := by decide +kernel
theorem dX7_question_180 : decode cX7_question 180 = .ok (.getfield 145, 3) := by decide +kernel
theorem dX7_question_183 : decode cX7_question 183 = .ok (.iload_n 1, 1) := by decide +kernel
theorem dX7_question_184 : decode cX7_question 184 = .ok (.iaload, 1) := by decide +kernel
theorem dX7_question_185 : decode cX7_question 185 = .ok (.iload_n 2, 1) := by decide +kernel
theorem dX7_question_186 : decode cX7_question 186 = .ok (.iadd, 1) := by decide +kernel
theorem dX7_question_187 : decode cX7_question 187 = .ok (.bipush 20, 2) := by decide +kernel
theorem dX7_question_189 : decode cX7_question 189 = .ok (.isub, 1) := by decide +kernel
theorem dX7_question_190 : decode cX7_question 190 = .ok (.iaload, 1) := by decide +kernel
theorem dX7_question_191 : decode cX7_question 191 = .ok (.ireturn, 1) := by decide +kernel
theorem dX7_question_192 : decode cX7_question 192 = .ok (.iconst (-1), 1) := by decide +kernel
theorem dX7_question_193 : decode cX7_question 193 = .ok (.ireturn, 1) := by decide +kernel
def mX7_question : MM := (yX7_question, cX7_question, 3, Option.some Jvm.ClassFile.FieldType.int, { frames := 2, cells := 0, slots := 0, locals := 43 })
def fX7_question (σ0 : SS) (a1 : Int32) (a2 : Int32) : Option Int32 :=
  if (fX1_hasQuestion σ0 (gR σ0 1 5) a1) = true then (
    if a2 = (0 : Int32) then (
      grd (inb a1 12) <|
      if (gI σ0 ((gR σ0 1 5) + 1) (Int32.toNatClampNeg a1)) = 0 then (
        some (1 : Int32)
        ) else (
        some (2 : Int32)
        )
      ) else
    if a2 = (1 : Int32) then (
      grd (inb a1 12) <|
      some (gI σ0 ((gR σ0 1 5) + 3) (Int32.toNatClampNeg a1))
      ) else
    if a2 = (2 : Int32) then (
      grd (inb a1 12) <|
      some (gI σ0 ((gR σ0 1 5) + 4) (Int32.toNatClampNeg a1))
      ) else
    if a2 = (3 : Int32) then (
      grd (inb a1 12) <|
      some (gI σ0 ((gR σ0 1 5) + 5) (Int32.toNatClampNeg a1))
      ) else
    vthen (fun (_u : Unit) =>
      if a2 < (20 : Int32) then (
        some (-1 : Int32)
        ) else (
        if (30 : Int32) ≤ a2 then (
          some (-1 : Int32)
          ) else (
          bnd1 (fX1_hasBox σ0 (gR σ0 1 5) a1 (a2 - (20 : Int32))) fun b6 =>
          if b6 = true then (
            grd (inb a1 12) <|
            grd (inb (((gI σ0 ((gR σ0 1 5) + 2) (Int32.toNatClampNeg a1)) + a2) - (20 : Int32)) 72) <|
            some (gI σ0 ((gR σ0 1 5) + 7) (Int32.toNatClampNeg (((gI σ0 ((gR σ0 1 5) + 2) (Int32.toNatClampNeg a1)) + a2) - (20 : Int32))))
            ) else (
            some (-1 : Int32)
            )
          )
        )
      ) fun j142 =>
    if a2 < (10 : Int32) then (
      j142 ()
      ) else (
      if (20 : Int32) ≤ a2 then (
        j142 ()
        ) else (
        bnd1 (fX1_hasBox σ0 (gR σ0 1 5) a1 (a2 - (10 : Int32))) fun b11 =>
        if b11 = true then (
          grd (inb a1 12) <|
          grd (inb (((gI σ0 ((gR σ0 1 5) + 2) (Int32.toNatClampNeg a1)) + a2) - (10 : Int32)) 72) <|
          some (gI σ0 ((gR σ0 1 5) + 6) (Int32.toNatClampNeg (((gI σ0 ((gR σ0 1 5) + 2) (Int32.toNatClampNeg a1)) + a2) - (10 : Int32))))
          ) else (
          j142 ()
          )
        )
      )
    ) else (
    some (-1 : Int32)
    )

set_option maxRecDepth 20000 in
theorem sX7_question {g : GG} {σ0 : SS} {a1 : Int32} {a2 : Int32} {r : Int32} (hr : fX7_question σ0 a1 a2 = some r)  : Ct g mX7_question [.ref (ad g 1), .int a1, .int a2] NF σ0 (some (.int r)) NF σ0 := by
  refine Ct.of (by decide +kernel) (nle rfl) fun hw0 => ?_
  have hw := hw0 rfl
  unfold fX7_question at hr
  change RR g mX7_question (FinR g mX7_question (some (.int r)) NF σ0) zF 0 [(0, .ref (ad g 1)), (1, .int a1), (2, .int a2)] [] σ0
  refine r_aload_n (pc := 0) (j := 0) dX7_question_0 rfl rfl ?_
  refine gf7_5 (pc := 1) tw_2_114 hw dX7_question_1 ?_
  refine r_iload_n (pc := 4) (j := 1) dX7_question_4 rfl rfl ?_
  refine kX1_hasQuestion (pc := 5) (hf := rfl) (wt_fo hw).1 tw_3_87 ⟨nle rfl, nle rfl⟩ (nle rfl) dX7_question_5 ?_
  refine r_ifB_ne (pc := 8) (tgt := 13) dX7_question_8 rfl (fun hc => ?_) (fun hc => ?_)
  · replace hr := ite_t hc hr
    refine r_iload_n (pc := 13) (j := 2) dX7_question_13 rfl rfl ?_
    by_cases hc0 : a2 = (0 : Int32)
    · replace hr := ite_t hc0 hr
      refine r_tabIn (pc := 14) (off := 30) (tgt := 44) dX7_question_14 (by rw [hc0]; decide) (by rw [hc0]; decide) (by rw [hc0]; rfl) rfl ?_
      refine r_aload_n (pc := 44) (j := 0) dX7_question_44 rfl rfl ?_
      refine gf7_5 (pc := 45) tw_2_114 hw dX7_question_45 ?_
      refine gf1_7 (pc := 48) tw_1_86 hw (wt_fo hw).1 dX7_question_48 ?_
      refine r_iload_n (pc := 51) (j := 1) dX7_question_51 rfl rfl ?_
      obtain ⟨h1, hr⟩ := grd_inv hr
      refine x_zald (pc := 52) (k := (Int32.toNatClampNeg a1)) (sh1_7 (wt_fo hw).1) h1 rfl dX7_question_52 ?_
      refine r_if_eq (pc := 53) (tgt := 60) dX7_question_53 rfl (fun hc => ?_) (fun hc => ?_)
      · replace hr := ite_t hc hr
        refine r_iconst (pc := 60) (v := (1 : Int32)) dX7_question_60 rfl ?_
        exact l_opi hr (r_iret (pc := 61) (v := (1 : Int32)) rfl rfl ⟨Nat.le_refl _, Nat.le_refl _⟩ dX7_question_61)
      replace hr := ite_f hc hr
      refine r_iconst (pc := 56) (v := (2 : Int32)) dX7_question_56 rfl ?_
      refine r_goto (pc := 57) (tgt := 61) dX7_question_57 rfl ?_
      exact l_opi hr (r_iret (pc := 61) (v := (2 : Int32)) rfl rfl ⟨Nat.le_refl _, Nat.le_refl _⟩ dX7_question_61)
    replace hr := ite_f hc0 hr
    by_cases hc1 : a2 = (1 : Int32)
    · replace hr := ite_t hc1 hr
      refine r_tabIn (pc := 14) (off := 48) (tgt := 62) dX7_question_14 (by rw [hc1]; decide) (by rw [hc1]; decide) (by rw [hc1]; rfl) rfl ?_
      refine r_aload_n (pc := 62) (j := 0) dX7_question_62 rfl rfl ?_
      refine gf7_5 (pc := 63) tw_2_114 hw dX7_question_63 ?_
      refine gf1_9 (pc := 66) tw_1_92 hw (wt_fo hw).1 dX7_question_66 ?_
      refine r_iload_n (pc := 69) (j := 1) dX7_question_69 rfl rfl ?_
      obtain ⟨h2, hr⟩ := grd_inv hr
      refine x_iald (pc := 70) (k := (Int32.toNatClampNeg a1)) (sh1_9 (wt_fo hw).1) h2 rfl dX7_question_70 ?_
      exact l_opi hr (r_iret (pc := 71) (v := (gI σ0 ((gR σ0 1 5) + 3) (Int32.toNatClampNeg a1))) rfl rfl ⟨Nat.le_refl _, Nat.le_refl _⟩ dX7_question_71)
    replace hr := ite_f hc1 hr
    by_cases hc2 : a2 = (2 : Int32)
    · replace hr := ite_t hc2 hr
      refine r_tabIn (pc := 14) (off := 58) (tgt := 72) dX7_question_14 (by rw [hc2]; decide) (by rw [hc2]; decide) (by rw [hc2]; rfl) rfl ?_
      refine r_aload_n (pc := 72) (j := 0) dX7_question_72 rfl rfl ?_
      refine gf7_5 (pc := 73) tw_2_114 hw dX7_question_73 ?_
      refine gf1_10 (pc := 76) tw_1_96 hw (wt_fo hw).1 dX7_question_76 ?_
      refine r_iload_n (pc := 79) (j := 1) dX7_question_79 rfl rfl ?_
      obtain ⟨h3, hr⟩ := grd_inv hr
      refine x_iald (pc := 80) (k := (Int32.toNatClampNeg a1)) (sh1_10 (wt_fo hw).1) h3 rfl dX7_question_80 ?_
      exact l_opi hr (r_iret (pc := 81) (v := (gI σ0 ((gR σ0 1 5) + 4) (Int32.toNatClampNeg a1))) rfl rfl ⟨Nat.le_refl _, Nat.le_refl _⟩ dX7_question_81)
    replace hr := ite_f hc2 hr
    by_cases hc3 : a2 = (3 : Int32)
    · replace hr := ite_t hc3 hr
      refine r_tabIn (pc := 14) (off := 68) (tgt := 82) dX7_question_14 (by rw [hc3]; decide) (by rw [hc3]; decide) (by rw [hc3]; rfl) rfl ?_
      refine r_aload_n (pc := 82) (j := 0) dX7_question_82 rfl rfl ?_
      refine gf7_5 (pc := 83) tw_2_114 hw dX7_question_83 ?_
      refine gf1_11 (pc := 86) tw_1_101 hw (wt_fo hw).1 dX7_question_86 ?_
      refine r_iload_n (pc := 89) (j := 1) dX7_question_89 rfl rfl ?_
      obtain ⟨h4, hr⟩ := grd_inv hr
      refine x_iald (pc := 90) (k := (Int32.toNatClampNeg a1)) (sh1_11 (wt_fo hw).1) h4 rfl dX7_question_90 ?_
      exact l_opi hr (r_iret (pc := 91) (v := (gI σ0 ((gR σ0 1 5) + 5) (Int32.toNatClampNeg a1))) rfl rfl ⟨Nat.le_refl _, Nat.le_refl _⟩ dX7_question_91)
    replace hr := ite_f hc3 hr
    refine r_tabOut (pc := 14) (tgt := 92) dX7_question_14 (tab_out (by decide) (by decide) fun k h1 h2 => ?_) rfl ?_
    · rcases (show k = 0 ∨ k = 1 ∨ k = 2 ∨ k = 3 by omega) with rfl | rfl | rfl | rfl
      · exact hc0
      · exact hc1
      · exact hc2
      · exact hc3
    refine r_iload_n (pc := 92) (j := 2) dX7_question_92 rfl rfl ?_
    refine r_bipush (pc := 93) (v := (10 : Int32)) dX7_question_93 rfl ?_
    obtain ⟨j142, ej142, hr⟩ := vth_ex hr
    have hj142 : j142 () = some r → RR g mX7_question (FinR g mX7_question (some (.int r)) NF σ0) zF 142 [(0, .ref (ad g 1)), (1, .int a1), (2, .int a2)] [] σ0 := by
      intro  hr
      replace hr := (congrFun ej142 ()).symm.trans hr
      refine r_iload_n (pc := 142) (j := 2) dX7_question_142 rfl rfl ?_
      refine r_bipush (pc := 143) (v := (20 : Int32)) dX7_question_143 rfl ?_
      refine r_icmp_lt (pc := 145) (tgt := 192) dX7_question_145 rfl (fun hc => ?_) (fun hc => ?_)
      · replace hr := ite_t hc hr
        refine r_iconst (pc := 192) (v := (-1 : Int32)) dX7_question_192 rfl ?_
        exact l_opi hr (r_iret (pc := 193) (v := (-1 : Int32)) rfl rfl ⟨Nat.le_refl _, Nat.le_refl _⟩ dX7_question_193)
      replace hr := ite_f hc hr
      refine r_iload_n (pc := 148) (j := 2) dX7_question_148 rfl rfl ?_
      refine r_bipush (pc := 149) (v := (30 : Int32)) dX7_question_149 rfl ?_
      refine r_icmp_ge (pc := 151) (tgt := 192) dX7_question_151 rfl (fun hc => ?_) (fun hc => ?_)
      · replace hr := ite_t hc hr
        refine r_iconst (pc := 192) (v := (-1 : Int32)) dX7_question_192 rfl ?_
        exact l_opi hr (r_iret (pc := 193) (v := (-1 : Int32)) rfl rfl ⟨Nat.le_refl _, Nat.le_refl _⟩ dX7_question_193)
      replace hr := ite_f hc hr
      refine r_aload_n (pc := 154) (j := 0) dX7_question_154 rfl rfl ?_
      refine gf7_5 (pc := 155) tw_2_114 hw dX7_question_155 ?_
      refine r_iload_n (pc := 158) (j := 1) dX7_question_158 rfl rfl ?_
      refine r_iload_n (pc := 159) (j := 2) dX7_question_159 rfl rfl ?_
      refine r_bipush (pc := 160) (v := (20 : Int32)) dX7_question_160 rfl ?_
      refine r_isub (pc := 162) dX7_question_162 ?_
      obtain ⟨b6, hb6, hr⟩ := bnd1_inv hr
      refine kX1_hasBox (pc := 163) hb6 (wt_fo hw).1 tw_3_91 ⟨nle rfl, nle rfl⟩ (nle rfl) dX7_question_163 ?_
      refine r_ifB_eq (pc := 166) (tgt := 192) dX7_question_166 rfl (fun hc => ?_) (fun hc => ?_)
      · replace hr := ite_f hc hr
        refine r_iconst (pc := 192) (v := (-1 : Int32)) dX7_question_192 rfl ?_
        exact l_opi hr (r_iret (pc := 193) (v := (-1 : Int32)) rfl rfl ⟨Nat.le_refl _, Nat.le_refl _⟩ dX7_question_193)
      replace hr := ite_t hc hr
      refine r_aload_n (pc := 169) (j := 0) dX7_question_169 rfl rfl ?_
      refine gf7_5 (pc := 170) tw_2_114 hw dX7_question_170 ?_
      refine gf1_13 (pc := 173) tw_1_109 hw (wt_fo hw).1 dX7_question_173 ?_
      refine r_aload_n (pc := 176) (j := 0) dX7_question_176 rfl rfl ?_
      refine gf7_5 (pc := 177) tw_2_114 hw dX7_question_177 ?_
      refine gf1_8 (pc := 180) tw_1_89 hw (wt_fo hw).1 dX7_question_180 ?_
      refine r_iload_n (pc := 183) (j := 1) dX7_question_183 rfl rfl ?_
      obtain ⟨h8, hr⟩ := grd_inv hr
      refine x_iald (pc := 184) (k := (Int32.toNatClampNeg a1)) (sh1_8 (wt_fo hw).1) h8 rfl dX7_question_184 ?_
      refine r_iload_n (pc := 185) (j := 2) dX7_question_185 rfl rfl ?_
      refine r_iadd (pc := 186) dX7_question_186 ?_
      refine r_bipush (pc := 187) (v := (20 : Int32)) dX7_question_187 rfl ?_
      refine r_isub (pc := 189) dX7_question_189 ?_
      obtain ⟨h9, hr⟩ := grd_inv hr
      refine x_iald (pc := 190) (k := (Int32.toNatClampNeg (((gI σ0 ((gR σ0 1 5) + 2) (Int32.toNatClampNeg a1)) + a2) - (20 : Int32)))) (sh1_13 (wt_fo hw).1) h9 rfl dX7_question_190 ?_
      exact l_opi hr (r_iret (pc := 191) (v := (gI σ0 ((gR σ0 1 5) + 7) (Int32.toNatClampNeg (((gI σ0 ((gR σ0 1 5) + 2) (Int32.toNatClampNeg a1)) + a2) - (20 : Int32))))) rfl rfl ⟨Nat.le_refl _, Nat.le_refl _⟩ dX7_question_191)
    refine r_icmp_lt (pc := 95) (tgt := 142) dX7_question_95 rfl (fun hc => ?_) (fun hc => ?_)
    · replace hr := ite_t hc hr
      exact r_pick (ls1 := [(0, .ref (ad g 1)), (1, .int a1), (2, .int a2)]) [0, 1, 2] rfl (hj142  hr)
    replace hr := ite_f hc hr
    refine r_iload_n (pc := 98) (j := 2) dX7_question_98 rfl rfl ?_
    refine r_bipush (pc := 99) (v := (20 : Int32)) dX7_question_99 rfl ?_
    refine r_icmp_ge (pc := 101) (tgt := 142) dX7_question_101 rfl (fun hc => ?_) (fun hc => ?_)
    · replace hr := ite_t hc hr
      exact r_pick (ls1 := [(0, .ref (ad g 1)), (1, .int a1), (2, .int a2)]) [0, 1, 2] rfl (hj142  hr)
    replace hr := ite_f hc hr
    refine r_aload_n (pc := 104) (j := 0) dX7_question_104 rfl rfl ?_
    refine gf7_5 (pc := 105) tw_2_114 hw dX7_question_105 ?_
    refine r_iload_n (pc := 108) (j := 1) dX7_question_108 rfl rfl ?_
    refine r_iload_n (pc := 109) (j := 2) dX7_question_109 rfl rfl ?_
    refine r_bipush (pc := 110) (v := (10 : Int32)) dX7_question_110 rfl ?_
    refine r_isub (pc := 112) dX7_question_112 ?_
    obtain ⟨b11, hb11, hr⟩ := bnd1_inv hr
    refine kX1_hasBox (pc := 113) hb11 (wt_fo hw).1 tw_3_91 ⟨nle rfl, nle rfl⟩ (nle rfl) dX7_question_113 ?_
    refine r_ifB_eq (pc := 116) (tgt := 142) dX7_question_116 rfl (fun hc => ?_) (fun hc => ?_)
    · replace hr := ite_f hc hr
      exact r_pick (ls1 := [(0, .ref (ad g 1)), (1, .int a1), (2, .int a2)]) [0, 1, 2] rfl (hj142  hr)
    replace hr := ite_t hc hr
    refine r_aload_n (pc := 119) (j := 0) dX7_question_119 rfl rfl ?_
    refine gf7_5 (pc := 120) tw_2_114 hw dX7_question_120 ?_
    refine gf1_12 (pc := 123) tw_1_106 hw (wt_fo hw).1 dX7_question_123 ?_
    refine r_aload_n (pc := 126) (j := 0) dX7_question_126 rfl rfl ?_
    refine gf7_5 (pc := 127) tw_2_114 hw dX7_question_127 ?_
    refine gf1_8 (pc := 130) tw_1_89 hw (wt_fo hw).1 dX7_question_130 ?_
    refine r_iload_n (pc := 133) (j := 1) dX7_question_133 rfl rfl ?_
    obtain ⟨h13, hr⟩ := grd_inv hr
    refine x_iald (pc := 134) (k := (Int32.toNatClampNeg a1)) (sh1_8 (wt_fo hw).1) h13 rfl dX7_question_134 ?_
    refine r_iload_n (pc := 135) (j := 2) dX7_question_135 rfl rfl ?_
    refine r_iadd (pc := 136) dX7_question_136 ?_
    refine r_bipush (pc := 137) (v := (10 : Int32)) dX7_question_137 rfl ?_
    refine r_isub (pc := 139) dX7_question_139 ?_
    obtain ⟨h14, hr⟩ := grd_inv hr
    refine x_iald (pc := 140) (k := (Int32.toNatClampNeg (((gI σ0 ((gR σ0 1 5) + 2) (Int32.toNatClampNeg a1)) + a2) - (10 : Int32)))) (sh1_12 (wt_fo hw).1) h14 rfl dX7_question_140 ?_
    exact l_opi hr (r_iret (pc := 141) (v := (gI σ0 ((gR σ0 1 5) + 6) (Int32.toNatClampNeg (((gI σ0 ((gR σ0 1 5) + 2) (Int32.toNatClampNeg a1)) + a2) - (10 : Int32))))) rfl rfl ⟨Nat.le_refl _, Nat.le_refl _⟩ dX7_question_141)
  replace hr := ite_f hc hr
  refine r_iconst (pc := 11) (v := (-1 : Int32)) dX7_question_11 rfl ?_
  exact l_opi hr (r_iret (pc := 12) (v := (-1 : Int32)) rfl rfl ⟨Nat.le_refl _, Nat.le_refl _⟩ dX7_question_12)

theorem kX7_question {g : GG} {σ0 : SS} {a1 : Int32} {a2 : Int32} {v : Int32} {M : MM} {F : State → Array Value → List Frame → State → Prop} {pc index : Nat} {ls : List (Nat × Value)} {rest : List Value} (hf : fX7_question σ0 a1 a2 = some v)  (hl : Cond.methodLink M.1.cls index yX7_question ∈ lw_gt) (hR : mX7_question.2.2.2.2.frames + 1 ≤ M.2.2.2.2.frames ∧ 8 + (mX7_question.2.2.1 + 11) + mX7_question.2.2.2.2.locals ≤ M.2.2.2.2.locals) (hrest : (rest.map fun v => v.category).sum ≤ 8) (hd : decode M.2.1 pc = .ok (.invokevirtual index, 3)) (k : RR g M F zF (pc + 3) ls (.int v :: rest) σ0) : RR g M F zF pc ls (.int a2 :: .int a1 :: .ref (ad g 1) :: rest) σ0 :=
  r_callV (z := zF) (N := mX7_question) (nn := 2) (o1 := some (.int v)) (sX7_question hf ) (rfl : shp 1 = (7, 0)) (by decide) (shp_le (rfl : shp 1 = (7, 0)) (nle rfl)) (ci := 7) rfl rfl tw_3_86 tw_1_1 hl tw_3_84 tw_3_85 ⟨by decide, by decide, rfl⟩ hR rfl hrest hd ⟨Nat.zero_le _, Nat.zero_le _⟩ rfl (fun h => k)

theorem dX8_isQuestion_0 : decode cX8_isQuestion 0 = .ok (.iload_n 1, 1) := by decide +kernel
theorem dX8_isQuestion_1 : decode cX8_isQuestion 1 = .ok (.iconst 0, 1) := by decide +kernel
theorem dX8_isQuestion_2 : decode cX8_isQuestion 2 = .ok (.aload_n 0, 1) := by decide +kernel
theorem dX8_isQuestion_3 : decode cX8_isQuestion 3 = .ok (.invokevirtual 266, 3) := by decide +kernel
theorem dX8_isQuestion_6 : decode cX8_isQuestion 6 = .ok (.iconst 1, 1) := by decide +kernel
theorem dX8_isQuestion_7 : decode cX8_isQuestion 7 = .ok (.isub, 1) := by decide +kernel
theorem dX8_isQuestion_8 : decode cX8_isQuestion 8 = .ok (.invokestatic 165, 3) := by decide +kernel
theorem dX8_isQuestion_11 : decode cX8_isQuestion 11 = .ok (.ireturn, 1) := by decide +kernel
def mX8_isQuestion : MM := (yX8_isQuestion, cX8_isQuestion, 2, Option.some Jvm.ClassFile.FieldType.boolean, { frames := 2, cells := 0, slots := 0, locals := 41 })
def fX8_isQuestion (σ0 : SS) (a1 : Int32) : Option Bool :=
  bnd1 (fX8_questions σ0) fun v1 =>
  some (fX8_in σ0 a1 (0 : Int32) (v1 - (1 : Int32)))

set_option maxRecDepth 20000 in
theorem sX8_isQuestion {g : GG} {σ0 : SS} {a1 : Int32} {r : Bool} (hr : fX8_isQuestion σ0 a1 = some r)  : Ct g mX8_isQuestion [.ref (ad g 73), .int a1] NF σ0 (some (.int (b2i r))) NF σ0 := by
  refine Ct.of (by decide +kernel) (nle rfl) fun hw0 => ?_
  have hw := hw0 rfl
  unfold fX8_isQuestion at hr
  change RR g mX8_isQuestion (FinR g mX8_isQuestion (some (.int (b2i r))) NF σ0) zF 0 [(0, .ref (ad g 73)), (1, .int a1)] [] σ0
  refine r_iload_n (pc := 0) (j := 1) dX8_isQuestion_0 rfl rfl ?_
  refine r_iconst (pc := 1) (v := (0 : Int32)) dX8_isQuestion_1 rfl ?_
  refine r_aload_n (pc := 2) (j := 0) dX8_isQuestion_2 rfl rfl ?_
  obtain ⟨v1, hv1, hr⟩ := bnd1_inv hr
  refine kX8_questions (pc := 3) hv1 tw_6_145 ⟨nle rfl, nle rfl⟩ (nle rfl) dX8_isQuestion_3 ?_
  refine r_iconst (pc := 6) (v := (1 : Int32)) dX8_isQuestion_6 rfl ?_
  refine r_isub (pc := 7) dX8_isQuestion_7 ?_
  refine kX8_in (pc := 8) (hf := rfl) tw_6_65 ⟨nle rfl, nle rfl⟩ (nle rfl) dX8_isQuestion_8 ?_
  exact l_opz hr (r_zret (pc := 11) (v := b2i (fX8_in σ0 a1 (0 : Int32) (v1 - (1 : Int32)))) (ty := .boolean) rfl (b2i_nar _) rfl ⟨Nat.le_refl _, Nat.le_refl _⟩ dX8_isQuestion_11)

theorem kX8_isQuestion {g : GG} {σ0 : SS} {a1 : Int32} {v : Bool} {M : MM} {F : State → Array Value → List Frame → State → Prop} {pc index : Nat} {ls : List (Nat × Value)} {rest : List Value} (hf : fX8_isQuestion σ0 a1 = some v)  (hl : Cond.methodLink M.1.cls index yX8_isQuestion ∈ lw_gt) (hR : mX8_isQuestion.2.2.2.2.frames + 1 ≤ M.2.2.2.2.frames ∧ 8 + (mX8_isQuestion.2.2.1 + 11) + mX8_isQuestion.2.2.2.2.locals ≤ M.2.2.2.2.locals) (hrest : (rest.map fun v => v.category).sum ≤ 8) (hd : decode M.2.1 pc = .ok (.invokevirtual index, 3)) (k : RR g M F zF (pc + 3) ls (.int (b2i v) :: rest) σ0) : RR g M F zF pc ls (.int a1 :: .ref (ad g 73) :: rest) σ0 :=
  r_callV (z := zF) (N := mX8_isQuestion) (nn := 1) (o1 := some (.int (b2i v))) (sX8_isQuestion hf ) (rfl : shp 73 = (8, 0)) (by decide) (shp_le (rfl : shp 73 = (8, 0)) (nle rfl)) (ci := 8) rfl rfl tw_6_144 tw_1_10 hl tw_6_143 tp_48 ⟨by decide, by decide, rfl⟩ hR rfl hrest hd ⟨Nat.zero_le _, Nat.zero_le _⟩ rfl (fun h => k)

theorem dX8_question_0 : decode cX8_question 0 = .ok (.aload_n 0, 1) := by decide +kernel
theorem dX8_question_1 : decode cX8_question 1 = .ok (.iload_n 1, 1) := by decide +kernel
theorem dX8_question_2 : decode cX8_question 2 = .ok (.invokevirtual 269, 3) := by decide +kernel
theorem dX8_question_5 : decode cX8_question 5 = .ok (.ifCond .ne 5, 3) := by decide +kernel
theorem dX8_question_8 : decode cX8_question 8 = .ok (.iconst (-1), 1) := by decide +kernel
theorem dX8_question_9 : decode cX8_question 9 = .ok (.ireturn, 1) := by decide +kernel
theorem dX8_question_10 : decode cX8_question 10 = .ok (.bipush 12, 2) := by decide +kernel
theorem dX8_question_12 : decode cX8_question 12 = .ok (.aload_n 0, 1) := by decide +kernel
theorem dX8_question_13 : decode cX8_question 13 = .ok (.getfield 206, 3) := by decide +kernel
theorem dX8_question_16 : decode cX8_question 16 = .ok (.imul, 1) := by decide +kernel
theorem dX8_question_17 : decode cX8_question 17 = .ok (.iload_n 1, 1) := by decide +kernel
theorem dX8_question_18 : decode cX8_question 18 = .ok (.iadd, 1) := by decide +kernel
theorem dX8_question_19 : decode cX8_question 19 = .ok (.istore_n 3, 1) := by decide +kernel
theorem dX8_question_20 : decode cX8_question 20 = .ok (.iload_n 2, 1) := by decide +kernel
theorem dX8_question_21 : decode cX8_question 21 = .ok (.bipush 10, 2) := by decide +kernel
theorem dX8_question_23 : decode cX8_question 23 = .ok (.bipush 9, 2) := by decide +kernel
theorem dX8_question_25 : decode cX8_question 25 = .ok (.aload_n 0, 1) := by decide +kernel
theorem dX8_question_26 : decode cX8_question 26 = .ok (.getfield 20, 3) := by decide +kernel
theorem dX8_question_29 : decode cX8_question 29 = .ok (.iload_n 3, 1) := by decide +kernel
theorem dX8_question_30 : decode cX8_question 30 = .ok (.iaload, 1) := by decide +kernel
theorem dX8_question_31 : decode cX8_question 31 = .ok (.iadd, 1) := by decide +kernel
theorem dX8_question_32 : decode cX8_question 32 = .ok (.invokestatic 165, 3) := by decide +kernel
theorem dX8_question_35 : decode cX8_question 35 = .ok (.ifCond .eq 18, 3) := by decide +kernel
theorem dX8_question_38 : decode cX8_question 38 = .ok (.aload_n 0, 1) := by decide +kernel
theorem dX8_question_39 : decode cX8_question 39 = .ok (.getfield 29, 3) := by decide +kernel
theorem dX8_question_42 : decode cX8_question 42 = .ok (.bipush 6, 2) := by decide +kernel
theorem dX8_question_44 : decode cX8_question 44 = .ok (.iload_n 3, 1) := by decide +kernel
theorem dX8_question_45 : decode cX8_question 45 = .ok (.imul, 1) := by decide +kernel
theorem dX8_question_46 : decode cX8_question 46 = .ok (.iload_n 2, 1) := by decide +kernel
theorem dX8_question_47 : decode cX8_question 47 = .ok (.iadd, 1) := by decide +kernel
theorem dX8_question_48 : decode cX8_question 48 = .ok (.bipush 10, 2) := by decide +kernel
theorem dX8_question_50 : decode cX8_question 50 = .ok (.isub, 1) := by decide +kernel
theorem dX8_question_51 : decode cX8_question 51 = .ok (.iaload, 1) := by decide +kernel
theorem dX8_question_52 : decode cX8_question 52 = .ok (.ireturn, 1) := by decide +kernel
theorem dX8_question_53 : decode cX8_question 53 = .ok (.iload_n 2, 1) := by decide +kernel
theorem dX8_question_54 : decode cX8_question 54 = .ok (.bipush 20, 2) := by decide +kernel
theorem dX8_question_56 : decode cX8_question 56 = .ok (.bipush 19, 2) := by decide +kernel
theorem dX8_question_58 : decode cX8_question 58 = .ok (.aload_n 0, 1) := by decide +kernel
theorem dX8_question_59 : decode cX8_question 59 = .ok (.getfield 20, 3) := by decide +kernel
theorem dX8_question_62 : decode cX8_question 62 = .ok (.iload_n 3, 1) := by decide +kernel
theorem dX8_question_63 : decode cX8_question 63 = .ok (.iaload, 1) := by decide +kernel
theorem dX8_question_64 : decode cX8_question 64 = .ok (.iadd, 1) := by decide +kernel
theorem dX8_question_65 : decode cX8_question 65 = .ok (.invokestatic 165, 3) := by decide +kernel
theorem dX8_question_68 : decode cX8_question 68 = .ok (.ifCond .eq 18, 3) := by decide +kernel
theorem dX8_question_71 : decode cX8_question 71 = .ok (.aload_n 0, 1) := by decide +kernel
theorem dX8_question_72 : decode cX8_question 72 = .ok (.getfield 32, 3) := by decide +kernel
theorem dX8_question_75 : decode cX8_question 75 = .ok (.bipush 6, 2) := by decide +kernel
theorem dX8_question_77 : decode cX8_question 77 = .ok (.iload_n 3, 1) := by decide +kernel
theorem dX8_question_78 : decode cX8_question 78 = .ok (.imul, 1) := by decide +kernel
theorem dX8_question_79 : decode cX8_question 79 = .ok (.iload_n 2, 1) := by decide +kernel
theorem dX8_question_80 : decode cX8_question 80 = .ok (.iadd, 1) := by decide +kernel
theorem dX8_question_81 : decode cX8_question 81 = .ok (.bipush 20, 2) := by decide +kernel
theorem dX8_question_83 : decode cX8_question 83 = .ok (.isub, 1) := by decide +kernel
theorem dX8_question_84 : decode cX8_question 84 = .ok (.iaload, 1) := by decide +kernel
theorem dX8_question_85 : decode cX8_question 85 = .ok (.ireturn, 1) := by decide +kernel
theorem dX8_question_86 : decode cX8_question 86 = .ok (.iload_n 2, 1) := by decide +kernel
theorem dX8_question_87 : decode cX8_question 87 = .ok (.tableswitch 57 0 3 #[29, 36, 43, 50], 29) := by decide +kernel
theorem dX8_question_116 : decode cX8_question 116 = .ok (.aload_n 0, 1) := by decide +kernel
theorem dX8_question_117 : decode cX8_question 117 = .ok (.getfield 17, 3) := by decide +kernel
theorem dX8_question_120 : decode cX8_question 120 = .ok (.iload_n 3, 1) := by decide +kernel
theorem dX8_question_121 : decode cX8_question 121 = .ok (.iaload, 1) := by decide +kernel
theorem dX8_question_122 : decode cX8_question 122 = .ok (.ireturn, 1) := by decide +kernel
theorem dX8_question_123 : decode cX8_question 123 = .ok (.aload_n 0, 1) := by decide +kernel
theorem dX8_question_124 : decode cX8_question 124 = .ok (.getfield 20, 3) := by decide +kernel
theorem dX8_question_127 : decode cX8_question 127 = .ok (.iload_n 3, 1) := by decide +kernel
theorem dX8_question_128 : decode cX8_question 128 = .ok (.iaload, 1) := by decide +kernel
theorem dX8_question_129 : decode cX8_question 129 = .ok (.ireturn, 1) := by decide +kernel
theorem dX8_question_130 : decode cX8_question 130 = .ok (.aload_n 0, 1) := by decide +kernel
theorem dX8_question_131 : decode cX8_question 131 = .ok (.getfield 23, 3) := by decide +kernel
theorem dX8_question_134 : decode cX8_question 134 = .ok (.iload_n 3, 1) := by decide +kernel
theorem dX8_question_135 : decode cX8_question 135 = .ok (.iaload, 1) := by decide +kernel
theorem dX8_question_136 : decode cX8_question 136 = .ok (.ireturn, 1) := by decide +kernel
theorem dX8_question_137 : decode cX8_question 137 = .ok (.aload_n 0, 1) := by decide +kernel
theorem dX8_question_138 : decode cX8_question 138 = .ok (.getfield 26, 3) := by decide +kernel
theorem dX8_question_141 : decode cX8_question 141 = .ok (.iload_n 3, 1) := by decide +kernel
theorem dX8_question_142 : decode cX8_question 142 = .ok (.iaload, 1) := by decide +kernel
theorem dX8_question_143 : decode cX8_question 143 = .ok (.ireturn, 1) := by decide +kernel
theorem dX8_question_144 : decode cX8_question 144 = .ok (.iconst (-1), 1) := by decide +kernel
theorem dX8_question_145 : decode cX8_question 145 = .ok (.ireturn, 1) := by decide +kernel
def mX8_question : MM := (yX8_question, cX8_question, 4, Option.some Jvm.ClassFile.FieldType.int, { frames := 3, cells := 0, slots := 0, locals := 62 })
def fX8_question (σ0 : SS) (a1 : Int32) (a2 : Int32) : Option Int32 :=
  bnd1 (fX8_isQuestion σ0 a1) fun b2 =>
  if b2 = true then (
    vthen (((12 : Int32) * (gI σ0 73 11)) + a1) fun v4 =>
    grd (inb v4 24) <|
    if (fX8_in σ0 a2 (10 : Int32) ((9 : Int32) + (gI σ0 77 (Int32.toNatClampNeg v4)))) = true then (
      grd (inb ((((6 : Int32) * v4) + a2) - (10 : Int32)) 144) <|
      some (gI σ0 80 (Int32.toNatClampNeg ((((6 : Int32) * v4) + a2) - (10 : Int32))))
      ) else (
      if (fX8_in σ0 a2 (20 : Int32) ((19 : Int32) + (gI σ0 77 (Int32.toNatClampNeg v4)))) = true then (
        grd (inb ((((6 : Int32) * v4) + a2) - (20 : Int32)) 144) <|
        some (gI σ0 81 (Int32.toNatClampNeg ((((6 : Int32) * v4) + a2) - (20 : Int32))))
        ) else (
        if a2 = (0 : Int32) then (
          some (gI σ0 76 (Int32.toNatClampNeg v4))
          ) else
        if a2 = (1 : Int32) then (
          some (gI σ0 77 (Int32.toNatClampNeg v4))
          ) else
        if a2 = (2 : Int32) then (
          some (gI σ0 78 (Int32.toNatClampNeg v4))
          ) else
        if a2 = (3 : Int32) then (
          some (gI σ0 79 (Int32.toNatClampNeg v4))
          ) else
        some (-1 : Int32)
        )
      )
    ) else (
    some (-1 : Int32)
    )

set_option maxRecDepth 20000 in
theorem sX8_question {g : GG} {σ0 : SS} {a1 : Int32} {a2 : Int32} {r : Int32} (hr : fX8_question σ0 a1 a2 = some r)  : Ct g mX8_question [.ref (ad g 73), .int a1, .int a2] NF σ0 (some (.int r)) NF σ0 := by
  refine Ct.of (by decide +kernel) (nle rfl) fun hw0 => ?_
  have hw := hw0 rfl
  unfold fX8_question at hr
  change RR g mX8_question (FinR g mX8_question (some (.int r)) NF σ0) zF 0 [(0, .ref (ad g 73)), (1, .int a1), (2, .int a2)] [] σ0
  refine r_aload_n (pc := 0) (j := 0) dX8_question_0 rfl rfl ?_
  refine r_iload_n (pc := 1) (j := 1) dX8_question_1 rfl rfl ?_
  obtain ⟨b2, hb2, hr⟩ := bnd1_inv hr
  refine kX8_isQuestion (pc := 2) hb2 tw_6_141 ⟨nle rfl, nle rfl⟩ (nle rfl) dX8_question_2 ?_
  refine r_ifB_ne (pc := 5) (tgt := 10) dX8_question_5 rfl (fun hc => ?_) (fun hc => ?_)
  · replace hr := ite_t hc hr
    refine r_bipush (pc := 10) (v := (12 : Int32)) dX8_question_10 rfl ?_
    refine r_aload_n (pc := 12) (j := 0) dX8_question_12 rfl rfl ?_
    refine gf8_11 (pc := 13) tw_5_105 rfl dX8_question_13 ?_
    refine r_imul (pc := 16) dX8_question_16 ?_
    refine r_iload_n (pc := 17) (j := 1) dX8_question_17 rfl rfl ?_
    refine r_iadd (pc := 18) dX8_question_18 ?_
    refine r_topi fun v4 ev4 => ?_
    replace hr := vthen_inv hr v4 ev4
    refine r_istore_n (pc := 19) (ls1 := [(3, .int v4), (0, .ref (ad g 73)), (1, .int a1), (2, .int a2)]) dX8_question_19 rfl (nle rfl) rfl ?_
    refine r_iload_n (pc := 20) (j := 3) dX8_question_20 rfl rfl ?_
    refine r_bipush (pc := 21) (v := (10 : Int32)) dX8_question_21 rfl ?_
    refine r_bipush (pc := 23) (v := (9 : Int32)) dX8_question_23 rfl ?_
    refine r_aload_n (pc := 25) (j := 1) dX8_question_25 rfl rfl ?_
    refine gf8_15 (pc := 26) tw_5_109 hw dX8_question_26 ?_
    refine r_iload_n (pc := 29) (j := 0) dX8_question_29 rfl rfl ?_
    obtain ⟨h5, hr⟩ := grd_inv hr
    refine x_iald (pc := 30) (k := (Int32.toNatClampNeg v4)) rfl h5 rfl dX8_question_30 ?_
    refine r_iadd (pc := 31) dX8_question_31 ?_
    refine kX8_in (pc := 32) (hf := rfl) tw_6_65 ⟨nle rfl, nle rfl⟩ (nle rfl) dX8_question_32 ?_
    refine r_ifB_eq (pc := 35) (tgt := 53) dX8_question_35 rfl (fun hc => ?_) (fun hc => ?_)
    · replace hr := ite_f hc hr
      refine r_iload_n (pc := 53) (j := 3) dX8_question_53 rfl rfl ?_
      refine r_bipush (pc := 54) (v := (20 : Int32)) dX8_question_54 rfl ?_
      refine r_bipush (pc := 56) (v := (19 : Int32)) dX8_question_56 rfl ?_
      refine r_aload_n (pc := 58) (j := 1) dX8_question_58 rfl rfl ?_
      refine gf8_15 (pc := 59) tw_5_109 hw dX8_question_59 ?_
      refine r_iload_n (pc := 62) (j := 0) dX8_question_62 rfl rfl ?_
      refine x_iald (pc := 63) (k := (Int32.toNatClampNeg v4)) rfl h5 rfl dX8_question_63 ?_
      refine r_iadd (pc := 64) dX8_question_64 ?_
      refine kX8_in (pc := 65) (hf := rfl) tw_6_65 ⟨nle rfl, nle rfl⟩ (nle rfl) dX8_question_65 ?_
      refine r_ifB_eq (pc := 68) (tgt := 86) dX8_question_68 rfl (fun hc => ?_) (fun hc => ?_)
      · replace hr := ite_f hc hr
        refine r_iload_n (pc := 86) (j := 3) dX8_question_86 rfl rfl ?_
        by_cases hc0 : a2 = (0 : Int32)
        · replace hr := ite_t hc0 hr
          refine r_tabIn (pc := 87) (off := 29) (tgt := 116) dX8_question_87 (by rw [hc0]; decide) (by rw [hc0]; decide) (by rw [hc0]; rfl) rfl ?_
          refine r_aload_n (pc := 116) (j := 1) dX8_question_116 rfl rfl ?_
          refine gf8_14 (pc := 117) tw_5_108 hw dX8_question_117 ?_
          refine r_iload_n (pc := 120) (j := 0) dX8_question_120 rfl rfl ?_
          refine x_iald (pc := 121) (k := (Int32.toNatClampNeg v4)) rfl h5 rfl dX8_question_121 ?_
          exact l_opi hr (r_iret (pc := 122) (v := (gI σ0 76 (Int32.toNatClampNeg v4))) rfl rfl ⟨Nat.le_refl _, Nat.le_refl _⟩ dX8_question_122)
        replace hr := ite_f hc0 hr
        by_cases hc1 : a2 = (1 : Int32)
        · replace hr := ite_t hc1 hr
          refine r_tabIn (pc := 87) (off := 36) (tgt := 123) dX8_question_87 (by rw [hc1]; decide) (by rw [hc1]; decide) (by rw [hc1]; rfl) rfl ?_
          refine r_aload_n (pc := 123) (j := 1) dX8_question_123 rfl rfl ?_
          refine gf8_15 (pc := 124) tw_5_109 hw dX8_question_124 ?_
          refine r_iload_n (pc := 127) (j := 0) dX8_question_127 rfl rfl ?_
          refine x_iald (pc := 128) (k := (Int32.toNatClampNeg v4)) rfl h5 rfl dX8_question_128 ?_
          exact l_opi hr (r_iret (pc := 129) (v := (gI σ0 77 (Int32.toNatClampNeg v4))) rfl rfl ⟨Nat.le_refl _, Nat.le_refl _⟩ dX8_question_129)
        replace hr := ite_f hc1 hr
        by_cases hc2 : a2 = (2 : Int32)
        · replace hr := ite_t hc2 hr
          refine r_tabIn (pc := 87) (off := 43) (tgt := 130) dX8_question_87 (by rw [hc2]; decide) (by rw [hc2]; decide) (by rw [hc2]; rfl) rfl ?_
          refine r_aload_n (pc := 130) (j := 1) dX8_question_130 rfl rfl ?_
          refine gf8_16 (pc := 131) tw_5_110 hw dX8_question_131 ?_
          refine r_iload_n (pc := 134) (j := 0) dX8_question_134 rfl rfl ?_
          refine x_iald (pc := 135) (k := (Int32.toNatClampNeg v4)) rfl h5 rfl dX8_question_135 ?_
          exact l_opi hr (r_iret (pc := 136) (v := (gI σ0 78 (Int32.toNatClampNeg v4))) rfl rfl ⟨Nat.le_refl _, Nat.le_refl _⟩ dX8_question_136)
        replace hr := ite_f hc2 hr
        by_cases hc3 : a2 = (3 : Int32)
        · replace hr := ite_t hc3 hr
          refine r_tabIn (pc := 87) (off := 50) (tgt := 137) dX8_question_87 (by rw [hc3]; decide) (by rw [hc3]; decide) (by rw [hc3]; rfl) rfl ?_
          refine r_aload_n (pc := 137) (j := 1) dX8_question_137 rfl rfl ?_
          refine gf8_17 (pc := 138) tw_5_111 hw dX8_question_138 ?_
          refine r_iload_n (pc := 141) (j := 0) dX8_question_141 rfl rfl ?_
          refine x_iald (pc := 142) (k := (Int32.toNatClampNeg v4)) rfl h5 rfl dX8_question_142 ?_
          exact l_opi hr (r_iret (pc := 143) (v := (gI σ0 79 (Int32.toNatClampNeg v4))) rfl rfl ⟨Nat.le_refl _, Nat.le_refl _⟩ dX8_question_143)
        replace hr := ite_f hc3 hr
        refine r_tabOut (pc := 87) (tgt := 144) dX8_question_87 (tab_out (by decide) (by decide) fun k h1 h2 => ?_) rfl ?_
        · rcases (show k = 0 ∨ k = 1 ∨ k = 2 ∨ k = 3 by omega) with rfl | rfl | rfl | rfl
          · exact hc0
          · exact hc1
          · exact hc2
          · exact hc3
        refine r_iconst (pc := 144) (v := (-1 : Int32)) dX8_question_144 rfl ?_
        exact l_opi hr (r_iret (pc := 145) (v := (-1 : Int32)) rfl rfl ⟨Nat.le_refl _, Nat.le_refl _⟩ dX8_question_145)
      replace hr := ite_t hc hr
      refine r_aload_n (pc := 71) (j := 1) dX8_question_71 rfl rfl ?_
      refine gf8_19 (pc := 72) tw_5_113 hw dX8_question_72 ?_
      refine r_bipush (pc := 75) (v := (6 : Int32)) dX8_question_75 rfl ?_
      refine r_iload_n (pc := 77) (j := 0) dX8_question_77 rfl rfl ?_
      refine r_imul (pc := 78) dX8_question_78 ?_
      refine r_iload_n (pc := 79) (j := 3) dX8_question_79 rfl rfl ?_
      refine r_iadd (pc := 80) dX8_question_80 ?_
      refine r_bipush (pc := 81) (v := (20 : Int32)) dX8_question_81 rfl ?_
      refine r_isub (pc := 83) dX8_question_83 ?_
      obtain ⟨h6, hr⟩ := grd_inv hr
      refine x_iald (pc := 84) (k := (Int32.toNatClampNeg ((((6 : Int32) * v4) + a2) - (20 : Int32)))) rfl h6 rfl dX8_question_84 ?_
      exact l_opi hr (r_iret (pc := 85) (v := (gI σ0 81 (Int32.toNatClampNeg ((((6 : Int32) * v4) + a2) - (20 : Int32))))) rfl rfl ⟨Nat.le_refl _, Nat.le_refl _⟩ dX8_question_85)
    replace hr := ite_t hc hr
    refine r_aload_n (pc := 38) (j := 1) dX8_question_38 rfl rfl ?_
    refine gf8_18 (pc := 39) tw_5_112 hw dX8_question_39 ?_
    refine r_bipush (pc := 42) (v := (6 : Int32)) dX8_question_42 rfl ?_
    refine r_iload_n (pc := 44) (j := 0) dX8_question_44 rfl rfl ?_
    refine r_imul (pc := 45) dX8_question_45 ?_
    refine r_iload_n (pc := 46) (j := 3) dX8_question_46 rfl rfl ?_
    refine r_iadd (pc := 47) dX8_question_47 ?_
    refine r_bipush (pc := 48) (v := (10 : Int32)) dX8_question_48 rfl ?_
    refine r_isub (pc := 50) dX8_question_50 ?_
    obtain ⟨h7, hr⟩ := grd_inv hr
    refine x_iald (pc := 51) (k := (Int32.toNatClampNeg ((((6 : Int32) * v4) + a2) - (10 : Int32)))) rfl h7 rfl dX8_question_51 ?_
    exact l_opi hr (r_iret (pc := 52) (v := (gI σ0 80 (Int32.toNatClampNeg ((((6 : Int32) * v4) + a2) - (10 : Int32))))) rfl rfl ⟨Nat.le_refl _, Nat.le_refl _⟩ dX8_question_52)
  replace hr := ite_f hc hr
  refine r_iconst (pc := 8) (v := (-1 : Int32)) dX8_question_8 rfl ?_
  exact l_opi hr (r_iret (pc := 9) (v := (-1 : Int32)) rfl rfl ⟨Nat.le_refl _, Nat.le_refl _⟩ dX8_question_9)

theorem kX8_question {g : GG} {σ0 : SS} {a1 : Int32} {a2 : Int32} {v : Int32} {M : MM} {F : State → Array Value → List Frame → State → Prop} {pc index : Nat} {ls : List (Nat × Value)} {rest : List Value} (hf : fX8_question σ0 a1 a2 = some v)  (hl : Cond.methodLink M.1.cls index yX8_question ∈ lw_gt) (hR : mX8_question.2.2.2.2.frames + 1 ≤ M.2.2.2.2.frames ∧ 8 + (mX8_question.2.2.1 + 11) + mX8_question.2.2.2.2.locals ≤ M.2.2.2.2.locals) (hrest : (rest.map fun v => v.category).sum ≤ 8) (hd : decode M.2.1 pc = .ok (.invokevirtual index, 3)) (k : RR g M F zF (pc + 3) ls (.int v :: rest) σ0) : RR g M F zF pc ls (.int a2 :: .int a1 :: .ref (ad g 73) :: rest) σ0 :=
  r_callV (z := zF) (N := mX8_question) (nn := 2) (o1 := some (.int v)) (sX8_question hf ) (rfl : shp 73 = (8, 0)) (by decide) (shp_le (rfl : shp 73 = (8, 0)) (nle rfl)) (ci := 8) rfl rfl tw_6_140 tw_1_10 hl tw_6_138 tw_6_139 ⟨by decide, by decide, rfl⟩ hR rfl hrest hd ⟨Nat.zero_le _, Nat.zero_le _⟩ rfl (fun h => k)

theorem dX7_set_0 : decode cX7_set 0 = .ok (.iload_n 1, 1) := by decide +kernel
theorem dX7_set_1 : decode cX7_set 1 = .ok (.ifCond .lt 27, 3) := by decide +kernel
theorem dX7_set_4 : decode cX7_set 4 = .ok (.iload_n 1, 1) := by decide +kernel
theorem dX7_set_5 : decode cX7_set 5 = .ok (.bipush 7, 2) := by decide +kernel
theorem dX7_set_7 : decode cX7_set 7 = .ok (.if_icmp .ge 21, 3) := by decide +kernel
theorem dX7_set_10 : decode cX7_set 10 = .ok (.iload_n 2, 1) := by decide +kernel
theorem dX7_set_11 : decode cX7_set 11 = .ok (.getstatic 151, 3) := by decide +kernel
theorem dX7_set_14 : decode cX7_set 14 = .ok (.iload_n 1, 1) := by decide +kernel
theorem dX7_set_15 : decode cX7_set 15 = .ok (.iaload, 1) := by decide +kernel
theorem dX7_set_16 : decode cX7_set 16 = .ok (.if_icmp .lt 12, 3) := by decide +kernel
theorem dX7_set_19 : decode cX7_set 19 = .ok (.iload_n 2, 1) := by decide +kernel
theorem dX7_set_20 : decode cX7_set 20 = .ok (.getstatic 154, 3) := by decide +kernel
theorem dX7_set_23 : decode cX7_set 23 = .ok (.iload_n 1, 1) := by decide +kernel
theorem dX7_set_24 : decode cX7_set 24 = .ok (.iaload, 1) := by decide +kernel
theorem dX7_set_25 : decode cX7_set 25 = .ok (.if_icmp .le 5, 3) := by decide +kernel
theorem dX7_set_28 : decode cX7_set 28 = .ok (.iconst (-1), 1) := by decide +kernel
theorem dX7_set_29 : decode cX7_set 29 = .ok (.ireturn, 1) := by decide +kernel
theorem dX7_set_30 : decode cX7_set 30 = .ok (.aload_n 0, 1) := by decide +kernel
theorem dX7_set_31 : decode cX7_set 31 = .ok (.getfield 62, 3) := by decide +kernel
theorem dX7_set_34 : decode cX7_set 34 = .ok (.getfield 111, 3) := by decide +kernel
theorem dX7_set_37 : decode cX7_set 37 = .ok (.iload_n 1, 1) := by decide +kernel
theorem dX7_set_38 : decode cX7_set 38 = .ok (.iaload, 1) := by decide +kernel
theorem dX7_set_39 : decode cX7_set 39 = .ok (.istore_n 3, 1) := by decide +kernel
theorem dX7_set_40 : decode cX7_set 40 = .ok (.aload_n 0, 1) := by decide +kernel
theorem dX7_set_41 : decode cX7_set 41 = .ok (.getfield 62, 3) := by decide +kernel
theorem dX7_set_44 : decode cX7_set 44 = .ok (.getfield 111, 3) := by decide +kernel
theorem dX7_set_47 : decode cX7_set 47 = .ok (.iload_n 1, 1) := by decide +kernel
theorem dX7_set_48 : decode cX7_set 48 = .ok (.iload_n 2, 1) := by decide +kernel
theorem dX7_set_49 : decode cX7_set 49 = .ok (.iastore, 1) := by decide +kernel
theorem dX7_set_50 : decode cX7_set 50 = .ok (.iload_n 3, 1) := by decide +kernel
theorem dX7_set_51 : decode cX7_set 51 = .ok (.ireturn, 1) := by decide +kernel
def mX7_set : MM := (yX7_set, cX7_set, 4, Option.some Jvm.ClassFile.FieldType.int, { frames := 0, cells := 0, slots := 0, locals := 0 })
def fX7_set (σ : SS) (a1 : Int32) (a2 : Int32) : Option (Int32 × SS) :=
  if a1 < 0 then (
    some ((-1 : Int32), σ)
    ) else (
    if (7 : Int32) ≤ a1 then (
      some ((-1 : Int32), σ)
      ) else (
      grd (inb a1 7) <|
      if a2 < (roV 1001 (Int32.toNatClampNeg a1)) then (
        some ((-1 : Int32), σ)
        ) else (
        if a2 ≤ (roV 1002 (Int32.toNatClampNeg a1)) then (
          vthen (gI σ 32 (Int32.toNatClampNeg a1)) fun v2 =>
          vthen (sI σ 32 (Int32.toNatClampNeg a1) a2) fun σ3 =>
          some (v2, σ3)
          ) else (
          some ((-1 : Int32), σ)
          )
        )
      )
    )

set_option maxRecDepth 20000 in
theorem sX7_set {g : GG} {σ : SS} {a1 : Int32} {a2 : Int32} {r : Int32 × SS} (hr : fX7_set σ a1 a2 = some r)  : Ct g mX7_set [.ref (ad g 1), .int a1, .int a2] NF σ (some (.int r.1)) NF r.2 := by
  refine Ct.of (by decide +kernel) (nle rfl) fun hw0 => ?_
  have hw := hw0 rfl
  unfold fX7_set at hr
  change RR g mX7_set (FinR g mX7_set (some (.int r.1)) NF r.2) zF 0 [(0, .ref (ad g 1)), (1, .int a1), (2, .int a2)] [] σ
  refine r_iload_n (pc := 0) (j := 1) dX7_set_0 rfl rfl ?_
  refine r_if_lt (pc := 1) (tgt := 28) dX7_set_1 rfl (fun hc => ?_) (fun hc => ?_)
  · replace hr := ite_t hc hr
    refine r_iconst (pc := 28) (v := (-1 : Int32)) dX7_set_28 rfl ?_
    exact l_osi hr (r_iret (pc := 29) (v := (-1 : Int32)) rfl rfl ⟨Nat.le_refl _, Nat.le_refl _⟩ dX7_set_29)
  replace hr := ite_f hc hr
  refine r_iload_n (pc := 4) (j := 1) dX7_set_4 rfl rfl ?_
  refine r_bipush (pc := 5) (v := (7 : Int32)) dX7_set_5 rfl ?_
  refine r_icmp_ge (pc := 7) (tgt := 28) dX7_set_7 rfl (fun hc => ?_) (fun hc => ?_)
  · replace hr := ite_t hc hr
    refine r_iconst (pc := 28) (v := (-1 : Int32)) dX7_set_28 rfl ?_
    exact l_osi hr (r_iret (pc := 29) (v := (-1 : Int32)) rfl rfl ⟨Nat.le_refl _, Nat.le_refl _⟩ dX7_set_29)
  replace hr := ite_f hc hr
  refine r_iload_n (pc := 10) (j := 2) dX7_set_10 rfl rfl ?_
  refine r_gets (pc := 11) z_1001 tw_3_100 dX7_set_11 ?_
  refine r_iload_n (pc := 14) (j := 1) dX7_set_14 rfl rfl ?_
  obtain ⟨h1, hr⟩ := grd_inv hr
  refine x_ti (pc := 15) (j := (Int32.toNatClampNeg a1)) t_1001 h1 rfl dX7_set_15 ?_
  refine r_icmp_lt (pc := 16) (tgt := 28) dX7_set_16 rfl (fun hc => ?_) (fun hc => ?_)
  · replace hr := ite_t hc hr
    refine r_iconst (pc := 28) (v := (-1 : Int32)) dX7_set_28 rfl ?_
    exact l_osi hr (r_iret (pc := 29) (v := (-1 : Int32)) rfl rfl ⟨Nat.le_refl _, Nat.le_refl _⟩ dX7_set_29)
  replace hr := ite_f hc hr
  refine r_iload_n (pc := 19) (j := 2) dX7_set_19 rfl rfl ?_
  refine r_gets (pc := 20) z_1002 tw_3_102 dX7_set_20 ?_
  refine r_iload_n (pc := 23) (j := 1) dX7_set_23 rfl rfl ?_
  refine x_ti (pc := 24) (j := (Int32.toNatClampNeg a1)) t_1002 h1 rfl dX7_set_24 ?_
  refine r_icmp_le (pc := 25) (tgt := 30) dX7_set_25 rfl (fun hc => ?_) (fun hc => ?_)
  · replace hr := ite_t hc hr
    refine r_aload_n (pc := 30) (j := 0) dX7_set_30 rfl rfl ?_
    refine gf7_12 (pc := 31) tw_2_121 hw dX7_set_31 ?_
    refine gf3_0 (pc := 34) tw_2_23 hw dX7_set_34 ?_
    refine r_iload_n (pc := 37) (j := 1) dX7_set_37 rfl rfl ?_
    refine x_iald (pc := 38) (k := (Int32.toNatClampNeg a1)) rfl h1 rfl dX7_set_38 ?_
    refine r_topi fun v2 ev2 => ?_
    replace hr := vthen_inv hr v2 ev2
    refine r_istore_n (pc := 39) (ls1 := [(3, .int v2), (0, .ref (ad g 1)), (1, .int a1), (2, .int a2)]) dX7_set_39 rfl (nle rfl) rfl ?_
    refine r_aload_n (pc := 40) (j := 1) dX7_set_40 rfl rfl ?_
    refine gf7_12 (pc := 41) tw_2_121 hw dX7_set_41 ?_
    refine gf3_0 (pc := 44) tw_2_23 hw dX7_set_44 ?_
    refine r_iload_n (pc := 47) (j := 2) dX7_set_47 rfl rfl ?_
    refine r_iload_n (pc := 48) (j := 3) dX7_set_48 rfl rfl ?_
    refine x_iast (pc := 49) (j := (Int32.toNatClampNeg a1)) rfl h1 rfl dX7_set_49 fun σ3 eσ3 => ?_
    replace hr := vthen_inv hr σ3 eσ3
    have hσ3 := wtI eσ3 hw
    refine r_iload_n (pc := 50) (j := 0) dX7_set_50 rfl rfl ?_
    exact l_osi hr (r_iret (pc := 51) (v := v2) rfl rfl ⟨Nat.le_refl _, Nat.le_refl _⟩ dX7_set_51)
  replace hr := ite_f hc hr
  refine r_iconst (pc := 28) (v := (-1 : Int32)) dX7_set_28 rfl ?_
  exact l_osi hr (r_iret (pc := 29) (v := (-1 : Int32)) rfl rfl ⟨Nat.le_refl _, Nat.le_refl _⟩ dX7_set_29)

theorem kX7_set {g : GG} {σ : SS} {a1 : Int32} {a2 : Int32} {v : Int32} {σ2 : SS} {M : MM} {F : State → Array Value → List Frame → State → Prop} {pc index : Nat} {ls : List (Nat × Value)} {rest : List Value} (hf : fX7_set σ a1 a2 = some (v, σ2))  (hl : Cond.methodLink M.1.cls index yX7_set ∈ lw_gt) (hR : mX7_set.2.2.2.2.frames + 1 ≤ M.2.2.2.2.frames ∧ 8 + (mX7_set.2.2.1 + 11) + mX7_set.2.2.2.2.locals ≤ M.2.2.2.2.locals) (hrest : (rest.map fun v => v.category).sum ≤ 8) (hd : decode M.2.1 pc = .ok (.invokevirtual index, 3)) (k : WT σ2 → RR g M F zF (pc + 3) ls (.int v :: rest) σ2) : RR g M F zF pc ls (.int a2 :: .int a1 :: .ref (ad g 1) :: rest) σ :=
  r_callV (z := zF) (N := mX7_set) (nn := 2) (o1 := some (.int v)) (sX7_set hf ) (rfl : shp 1 = (7, 0)) (by decide) (shp_le (rfl : shp 1 = (7, 0)) (nle rfl)) (ci := 7) rfl rfl tw_3_99 tw_1_1 hl tw_3_97 tw_3_98 ⟨by decide, by decide, rfl⟩ hR rfl hrest hd ⟨Nat.zero_le _, Nat.zero_le _⟩ rfl (fun h => k (h rfl))

theorem dX8_set_0 : decode cX8_set 0 = .ok (.iload_n 1, 1) := by decide +kernel
theorem dX8_set_1 : decode cX8_set 1 = .ok (.iconst 4, 1) := by decide +kernel
theorem dX8_set_2 : decode cX8_set 2 = .ok (.if_icmp .ge 7, 3) := by decide +kernel
theorem dX8_set_5 : decode cX8_set 5 = .ok (.iconst 1, 1) := by decide +kernel
theorem dX8_set_6 : decode cX8_set 6 = .ok (.goto 4, 3) := by decide +kernel
theorem dX8_set_9 : decode cX8_set 9 = .ok (.iconst 0, 1) := by decide +kernel
theorem dX8_set_10 : decode cX8_set 10 = .ok (.istore_n 3, 1) := by decide +kernel
theorem dX8_set_11 : decode cX8_set 11 = .ok (.iload_n 1, 1) := by decide +kernel
theorem dX8_set_12 : decode cX8_set 12 = .ok (.ifCond .ne 8, 3) := by decide +kernel
theorem dX8_set_15 : decode cX8_set 15 = .ok (.bipush 9, 2) := by decide +kernel
theorem dX8_set_17 : decode cX8_set 17 = .ok (.goto 32, 3) := by decide +kernel
theorem dX8_set_20 : decode cX8_set 20 = .ok (.iload_n 1, 1) := by decide +kernel
theorem dX8_set_21 : decode cX8_set 21 = .ok (.iconst 1, 1) := by decide +kernel
theorem dX8_set_22 : decode cX8_set 22 = .ok (.if_icmp .eq 9, 3) := by decide +kernel
theorem dX8_set_25 : decode cX8_set 25 = .ok (.iload_n 1, 1) := by decide +kernel
theorem dX8_set_26 : decode cX8_set 26 = .ok (.bipush 6, 2) := by decide +kernel
theorem dX8_set_28 : decode cX8_set 28 = .ok (.if_icmp .ne 8, 3) := by decide +kernel
theorem dX8_set_31 : decode cX8_set 31 = .ok (.bipush 20, 2) := by decide +kernel
theorem dX8_set_33 : decode cX8_set 33 = .ok (.goto 16, 3) := by decide +kernel
theorem dX8_set_36 : decode cX8_set 36 = .ok (.iload_n 1, 1) := by decide +kernel
theorem dX8_set_37 : decode cX8_set 37 = .ok (.iconst 2, 1) := by decide +kernel
theorem dX8_set_38 : decode cX8_set 38 = .ok (.if_icmp .ne 8, 3) := by decide +kernel
theorem dX8_set_41 : decode cX8_set 41 = .ok (.bipush 60, 2) := by decide +kernel
theorem dX8_set_43 : decode cX8_set 43 = .ok (.goto 6, 3) := by decide +kernel
theorem dX8_set_46 : decode cX8_set 46 = .ok (.sipush 200, 3) := by decide +kernel
theorem dX8_set_49 : decode cX8_set 49 = .ok (.istore 4, 2) := by decide +kernel
theorem dX8_set_51 : decode cX8_set 51 = .ok (.iload_n 1, 1) := by decide +kernel
theorem dX8_set_52 : decode cX8_set 52 = .ok (.iconst 0, 1) := by decide +kernel
theorem dX8_set_53 : decode cX8_set 53 = .ok (.bipush 6, 2) := by decide +kernel
theorem dX8_set_55 : decode cX8_set 55 = .ok (.invokestatic 165, 3) := by decide +kernel
theorem dX8_set_58 : decode cX8_set 58 = .ok (.ifCond .eq 13, 3) := by decide +kernel
theorem dX8_set_61 : decode cX8_set 61 = .ok (.iload_n 2, 1) := by decide +kernel
theorem dX8_set_62 : decode cX8_set 62 = .ok (.iload_n 3, 1) := by decide +kernel
theorem dX8_set_63 : decode cX8_set 63 = .ok (.iload 4, 2) := by decide +kernel
theorem dX8_set_65 : decode cX8_set 65 = .ok (.invokestatic 165, 3) := by decide +kernel
theorem dX8_set_68 : decode cX8_set 68 = .ok (.ifCond .ne 5, 3) := by decide +kernel
theorem dX8_set_71 : decode cX8_set 71 = .ok (.iconst (-1), 1) := by decide +kernel
theorem dX8_set_72 : decode cX8_set 72 = .ok (.ireturn, 1) := by decide +kernel
theorem dX8_set_73 : decode cX8_set 73 = .ok (.aload_n 0, 1) := by decide +kernel
theorem dX8_set_74 : decode cX8_set 74 = .ok (.getfield 53, 3) := by decide +kernel
theorem dX8_set_77 : decode cX8_set 77 = .ok (.iload_n 1, 1) := by decide +kernel
theorem dX8_set_78 : decode cX8_set 78 = .ok (.iaload, 1) := by decide +kernel
theorem dX8_set_79 : decode cX8_set 79 = .ok (.istore 5, 2) := by decide +kernel
theorem dX8_set_81 : decode cX8_set 81 = .ok (.aload_n 0, 1) := by decide +kernel
theorem dX8_set_82 : decode cX8_set 82 = .ok (.getfield 53, 3) := by decide +kernel
theorem dX8_set_85 : decode cX8_set 85 = .ok (.iload_n 1, 1) := by decide +kernel
theorem dX8_set_86 : decode cX8_set 86 = .ok (.iload_n 2, 1) := by decide +kernel
theorem dX8_set_87 : decode cX8_set 87 = .ok (.iastore, 1) := by decide +kernel
theorem dX8_set_88 : decode cX8_set 88 = .ok (.iload 5, 2) := by decide +kernel
theorem dX8_set_90 : decode cX8_set 90 = .ok (.ireturn, 1) := by decide +kernel
def mX8_set : MM := (yX8_set, cX8_set, 6, Option.some Jvm.ClassFile.FieldType.int, { frames := 1, cells := 0, slots := 0, locals := 22 })
def fX8_set (σ : SS) (a1 : Int32) (a2 : Int32) : Option (Int32 × SS) :=
  vthen (fun (s1 : Int32) =>
    vthen (fun (s2 : Int32) =>
      if (fX8_in σ a1 (0 : Int32) (6 : Int32)) = true then (
        if (fX8_in σ a2 s1 s2) = true then (
          grd (inb a1 7) <|
          vthen (gI σ 88 (Int32.toNatClampNeg a1)) fun v4 =>
          vthen (sI σ 88 (Int32.toNatClampNeg a1) a2) fun σ5 =>
          some (v4, σ5)
          ) else (
          some ((-1 : Int32), σ)
          )
        ) else (
        some ((-1 : Int32), σ)
        )
      ) fun j49 =>
    if a1 = 0 then (
      j49 (9 : Int32)
      ) else (
      if a1 = (1 : Int32) then (
        j49 (20 : Int32)
        ) else (
        if a1 = (6 : Int32) then (
          j49 (20 : Int32)
          ) else (
          if a1 = (2 : Int32) then (
            j49 (60 : Int32)
            ) else (
            j49 (200 : Int32)
            )
          )
        )
      )
    ) fun j10 =>
  if (4 : Int32) ≤ a1 then (
    j10 (0 : Int32)
    ) else (
    j10 (1 : Int32)
    )

set_option maxRecDepth 20000 in
theorem sX8_set {g : GG} {σ : SS} {a1 : Int32} {a2 : Int32} {r : Int32 × SS} (hr : fX8_set σ a1 a2 = some r)  : Ct g mX8_set [.ref (ad g 73), .int a1, .int a2] NF σ (some (.int r.1)) NF r.2 := by
  refine Ct.of (by decide +kernel) (nle rfl) fun hw0 => ?_
  have hw := hw0 rfl
  unfold fX8_set at hr
  change RR g mX8_set (FinR g mX8_set (some (.int r.1)) NF r.2) zF 0 [(0, .ref (ad g 73)), (1, .int a1), (2, .int a2)] [] σ
  refine r_iload_n (pc := 0) (j := 1) dX8_set_0 rfl rfl ?_
  refine r_iconst (pc := 1) (v := (4 : Int32)) dX8_set_1 rfl ?_
  obtain ⟨j10, ej10, hr⟩ := vth_ex hr
  have hj10 : ∀ (s1 : Int32), j10 s1 = some r → RR g mX8_set (FinR g mX8_set (some (.int r.1)) NF r.2) zF 10 [(0, .ref (ad g 73)), (1, .int a1), (2, .int a2)] [.int s1] σ := by
    intro s1 hr
    replace hr := (congrFun ej10 s1).symm.trans hr
    refine r_istore_n (pc := 10) (ls1 := [(3, .int s1), (0, .ref (ad g 73)), (1, .int a1), (2, .int a2)]) dX8_set_10 rfl (nle rfl) rfl ?_
    refine r_iload_n (pc := 11) (j := 2) dX8_set_11 rfl rfl ?_
    obtain ⟨j49, ej49, hr⟩ := vth_ex hr
    have hj49 : ∀ (s2 : Int32), j49 s2 = some r → RR g mX8_set (FinR g mX8_set (some (.int r.1)) NF r.2) zF 49 [(0, .ref (ad g 73)), (1, .int a1), (2, .int a2), (3, .int s1)] [.int s2] σ := by
      intro s2 hr
      replace hr := (congrFun ej49 s2).symm.trans hr
      refine r_istore (pc := 49) (ls1 := [(4, .int s2), (0, .ref (ad g 73)), (1, .int a1), (2, .int a2), (3, .int s1)]) dX8_set_49 (nle rfl) rfl ?_
      refine r_iload_n (pc := 51) (j := 2) dX8_set_51 rfl rfl ?_
      refine r_iconst (pc := 52) (v := (0 : Int32)) dX8_set_52 rfl ?_
      refine r_bipush (pc := 53) (v := (6 : Int32)) dX8_set_53 rfl ?_
      refine kX8_in (pc := 55) (hf := rfl) tw_6_65 ⟨nle rfl, nle rfl⟩ (nle rfl) dX8_set_55 ?_
      refine r_ifB_eq (pc := 58) (tgt := 71) dX8_set_58 rfl (fun hc => ?_) (fun hc => ?_)
      · replace hr := ite_f hc hr
        refine r_iconst (pc := 71) (v := (-1 : Int32)) dX8_set_71 rfl ?_
        exact l_osi hr (r_iret (pc := 72) (v := (-1 : Int32)) rfl rfl ⟨Nat.le_refl _, Nat.le_refl _⟩ dX8_set_72)
      replace hr := ite_t hc hr
      refine r_iload_n (pc := 61) (j := 3) dX8_set_61 rfl rfl ?_
      refine r_iload_n (pc := 62) (j := 4) dX8_set_62 rfl rfl ?_
      refine r_iload (pc := 63) (j := 0) dX8_set_63 rfl ?_
      refine kX8_in (pc := 65) (hf := rfl) tw_6_65 ⟨nle rfl, nle rfl⟩ (nle rfl) dX8_set_65 ?_
      refine r_ifB_ne (pc := 68) (tgt := 73) dX8_set_68 rfl (fun hc => ?_) (fun hc => ?_)
      · replace hr := ite_t hc hr
        refine r_aload_n (pc := 73) (j := 1) dX8_set_73 rfl rfl ?_
        refine gf8_26 (pc := 74) tw_5_120 hw dX8_set_74 ?_
        refine r_iload_n (pc := 77) (j := 2) dX8_set_77 rfl rfl ?_
        obtain ⟨h3, hr⟩ := grd_inv hr
        refine x_iald (pc := 78) (k := (Int32.toNatClampNeg a1)) rfl h3 rfl dX8_set_78 ?_
        refine r_topi fun v4 ev4 => ?_
        replace hr := vthen_inv hr v4 ev4
        refine r_istore (pc := 79) (ls1 := [(5, .int v4), (4, .int s2), (0, .ref (ad g 73)), (1, .int a1), (2, .int a2), (3, .int s1)]) dX8_set_79 (nle rfl) rfl ?_
        refine r_aload_n (pc := 81) (j := 2) dX8_set_81 rfl rfl ?_
        refine gf8_26 (pc := 82) tw_5_120 hw dX8_set_82 ?_
        refine r_iload_n (pc := 85) (j := 3) dX8_set_85 rfl rfl ?_
        refine r_iload_n (pc := 86) (j := 4) dX8_set_86 rfl rfl ?_
        refine x_iast (pc := 87) (j := (Int32.toNatClampNeg a1)) rfl h3 rfl dX8_set_87 fun σ5 eσ5 => ?_
        replace hr := vthen_inv hr σ5 eσ5
        have hσ5 := wtI eσ5 hw
        refine r_iload (pc := 88) (j := 0) dX8_set_88 rfl ?_
        exact l_osi hr (r_iret (pc := 90) (v := v4) rfl rfl ⟨Nat.le_refl _, Nat.le_refl _⟩ dX8_set_90)
      replace hr := ite_f hc hr
      refine r_iconst (pc := 71) (v := (-1 : Int32)) dX8_set_71 rfl ?_
      exact l_osi hr (r_iret (pc := 72) (v := (-1 : Int32)) rfl rfl ⟨Nat.le_refl _, Nat.le_refl _⟩ dX8_set_72)
    refine r_if_ne (pc := 12) (tgt := 20) dX8_set_12 rfl (fun hc => ?_) (fun hc => ?_)
    · replace hr := ite_f hc hr
      refine r_iload_n (pc := 20) (j := 2) dX8_set_20 rfl rfl ?_
      refine r_iconst (pc := 21) (v := (1 : Int32)) dX8_set_21 rfl ?_
      refine r_icmp_eq (pc := 22) (tgt := 31) dX8_set_22 rfl (fun hc => ?_) (fun hc => ?_)
      · replace hr := ite_t hc hr
        refine r_bipush (pc := 31) (v := (20 : Int32)) dX8_set_31 rfl ?_
        refine r_goto (pc := 33) (tgt := 49) dX8_set_33 rfl ?_
        exact r_pick (ls1 := [(0, .ref (ad g 73)), (1, .int a1), (2, .int a2), (3, .int s1)]) [1, 2, 3, 0] rfl (hj49 (20 : Int32) hr)
      replace hr := ite_f hc hr
      refine r_iload_n (pc := 25) (j := 2) dX8_set_25 rfl rfl ?_
      refine r_bipush (pc := 26) (v := (6 : Int32)) dX8_set_26 rfl ?_
      refine r_icmp_ne (pc := 28) (tgt := 36) dX8_set_28 rfl (fun hc => ?_) (fun hc => ?_)
      · replace hr := ite_f hc hr
        refine r_iload_n (pc := 36) (j := 2) dX8_set_36 rfl rfl ?_
        refine r_iconst (pc := 37) (v := (2 : Int32)) dX8_set_37 rfl ?_
        refine r_icmp_ne (pc := 38) (tgt := 46) dX8_set_38 rfl (fun hc => ?_) (fun hc => ?_)
        · replace hr := ite_f hc hr
          refine r_sipush (pc := 46) (v := (200 : Int32)) dX8_set_46 rfl ?_
          exact r_pick (ls1 := [(0, .ref (ad g 73)), (1, .int a1), (2, .int a2), (3, .int s1)]) [1, 2, 3, 0] rfl (hj49 (200 : Int32) hr)
        replace hr := ite_t hc hr
        refine r_bipush (pc := 41) (v := (60 : Int32)) dX8_set_41 rfl ?_
        refine r_goto (pc := 43) (tgt := 49) dX8_set_43 rfl ?_
        exact r_pick (ls1 := [(0, .ref (ad g 73)), (1, .int a1), (2, .int a2), (3, .int s1)]) [1, 2, 3, 0] rfl (hj49 (60 : Int32) hr)
      replace hr := ite_t hc hr
      refine r_bipush (pc := 31) (v := (20 : Int32)) dX8_set_31 rfl ?_
      refine r_goto (pc := 33) (tgt := 49) dX8_set_33 rfl ?_
      exact r_pick (ls1 := [(0, .ref (ad g 73)), (1, .int a1), (2, .int a2), (3, .int s1)]) [1, 2, 3, 0] rfl (hj49 (20 : Int32) hr)
    replace hr := ite_t hc hr
    refine r_bipush (pc := 15) (v := (9 : Int32)) dX8_set_15 rfl ?_
    refine r_goto (pc := 17) (tgt := 49) dX8_set_17 rfl ?_
    exact r_pick (ls1 := [(0, .ref (ad g 73)), (1, .int a1), (2, .int a2), (3, .int s1)]) [1, 2, 3, 0] rfl (hj49 (9 : Int32) hr)
  refine r_icmp_ge (pc := 2) (tgt := 9) dX8_set_2 rfl (fun hc => ?_) (fun hc => ?_)
  · replace hr := ite_t hc hr
    refine r_iconst (pc := 9) (v := (0 : Int32)) dX8_set_9 rfl ?_
    exact r_pick (ls1 := [(0, .ref (ad g 73)), (1, .int a1), (2, .int a2)]) [0, 1, 2] rfl (hj10 (0 : Int32) hr)
  replace hr := ite_f hc hr
  refine r_iconst (pc := 5) (v := (1 : Int32)) dX8_set_5 rfl ?_
  refine r_goto (pc := 6) (tgt := 10) dX8_set_6 rfl ?_
  exact r_pick (ls1 := [(0, .ref (ad g 73)), (1, .int a1), (2, .int a2)]) [0, 1, 2] rfl (hj10 (1 : Int32) hr)

theorem kX8_set {g : GG} {σ : SS} {a1 : Int32} {a2 : Int32} {v : Int32} {σ2 : SS} {M : MM} {F : State → Array Value → List Frame → State → Prop} {pc index : Nat} {ls : List (Nat × Value)} {rest : List Value} (hf : fX8_set σ a1 a2 = some (v, σ2))  (hl : Cond.methodLink M.1.cls index yX8_set ∈ lw_gt) (hR : mX8_set.2.2.2.2.frames + 1 ≤ M.2.2.2.2.frames ∧ 8 + (mX8_set.2.2.1 + 11) + mX8_set.2.2.2.2.locals ≤ M.2.2.2.2.locals) (hrest : (rest.map fun v => v.category).sum ≤ 8) (hd : decode M.2.1 pc = .ok (.invokevirtual index, 3)) (k : WT σ2 → RR g M F zF (pc + 3) ls (.int v :: rest) σ2) : RR g M F zF pc ls (.int a2 :: .int a1 :: .ref (ad g 73) :: rest) σ :=
  r_callV (z := zF) (N := mX8_set) (nn := 2) (o1 := some (.int v)) (sX8_set hf ) (rfl : shp 73 = (8, 0)) (by decide) (shp_le (rfl : shp 73 = (8, 0)) (nle rfl)) (ci := 8) rfl rfl tw_6_156 tw_1_10 hl tw_6_154 tw_6_155 ⟨by decide, by decide, rfl⟩ hR rfl hrest hd ⟨Nat.zero_le _, Nat.zero_le _⟩ rfl (fun h => k (h rfl))

theorem dX7_blank_0 : decode cX7_blank 0 = .ok (.iload_n 1, 1) := by decide +kernel
theorem dX7_blank_1 : decode cX7_blank 1 = .ok (.bipush 8, 2) := by decide +kernel
theorem dX7_blank_3 : decode cX7_blank 3 = .ok (.if_icmp .lt 21, 3) := by decide +kernel
theorem dX7_blank_6 : decode cX7_blank 6 = .ok (.iload_n 1, 1) := by decide +kernel
theorem dX7_blank_7 : decode cX7_blank 7 = .ok (.bipush 40, 2) := by decide +kernel
theorem dX7_blank_9 : decode cX7_blank 9 = .ok (.if_icmp .gt 15, 3) := by decide +kernel
theorem dX7_blank_12 : decode cX7_blank 12 = .ok (.iload_n 2, 1) := by decide +kernel
theorem dX7_blank_13 : decode cX7_blank 13 = .ok (.bipush 8, 2) := by decide +kernel
theorem dX7_blank_15 : decode cX7_blank 15 = .ok (.if_icmp .lt 9, 3) := by decide +kernel
theorem dX7_blank_18 : decode cX7_blank 18 = .ok (.iload_n 2, 1) := by decide +kernel
theorem dX7_blank_19 : decode cX7_blank 19 = .ok (.bipush 40, 2) := by decide +kernel
theorem dX7_blank_21 : decode cX7_blank 21 = .ok (.if_icmp .le 5, 3) := by decide +kernel
theorem dX7_blank_24 : decode cX7_blank 24 = .ok (.iconst 0, 1) := by decide +kernel
theorem dX7_blank_25 : decode cX7_blank 25 = .ok (.ireturn, 1) := by decide +kernel
theorem dX7_blank_26 : decode cX7_blank 26 = .ok (.aload_n 0, 1) := by decide +kernel
theorem dX7_blank_27 : decode cX7_blank 27 = .ok (.getfield 18, 3) := by decide +kernel
theorem dX7_blank_30 : decode cX7_blank 30 = .ok (.iload_n 1, 1) := by decide +kernel
theorem dX7_blank_31 : decode cX7_blank 31 = .ok (.iload_n 2, 1) := by decide +kernel
theorem dX7_blank_32 : decode cX7_blank 32 = .ok (.invokevirtual 73, 3) := by decide +kernel
theorem dX7_blank_35 : decode cX7_blank 35 = .ok (.iconst 1, 1) := by decide +kernel
theorem dX7_blank_36 : decode cX7_blank 36 = .ok (.ireturn, 1) := by decide +kernel
def mX7_blank : MM := (yX7_blank, cX7_blank, 3, Option.some Jvm.ClassFile.FieldType.boolean, { frames := 2, cells := 0, slots := 0, locals := 45 })
def fX7_blank (σ : SS) (a1 : Int32) (a2 : Int32) : Option (Bool × SS) :=
  if a1 < (8 : Int32) then (
    some (false, σ)
    ) else (
    if (40 : Int32) < a1 then (
      some (false, σ)
      ) else (
      if a2 < (8 : Int32) then (
        some (false, σ)
        ) else (
        if a2 ≤ (40 : Int32) then (
          bnd1 (fX6_empty σ (gR σ 1 2) a1 a2) fun σ1 =>
          some (true, σ1)
          ) else (
          some (false, σ)
          )
        )
      )
    )

set_option maxRecDepth 20000 in
theorem sX7_blank {g : GG} {σ : SS} {a1 : Int32} {a2 : Int32} {r : Bool × SS} (hr : fX7_blank σ a1 a2 = some r)  : Ct g mX7_blank [.ref (ad g 1), .int a1, .int a2] NF σ (some (.int (b2i r.1))) NF r.2 := by
  refine Ct.of (by decide +kernel) (nle rfl) fun hw0 => ?_
  have hw := hw0 rfl
  unfold fX7_blank at hr
  change RR g mX7_blank (FinR g mX7_blank (some (.int (b2i r.1))) NF r.2) zF 0 [(0, .ref (ad g 1)), (1, .int a1), (2, .int a2)] [] σ
  refine r_iload_n (pc := 0) (j := 1) dX7_blank_0 rfl rfl ?_
  refine r_bipush (pc := 1) (v := (8 : Int32)) dX7_blank_1 rfl ?_
  refine r_icmp_lt (pc := 3) (tgt := 24) dX7_blank_3 rfl (fun hc => ?_) (fun hc => ?_)
  · replace hr := ite_t hc hr
    refine r_iconst (pc := 24) (v := (0 : Int32)) dX7_blank_24 rfl ?_
    exact l_osz hr (r_zret (pc := 25) (v := b2i false) (ty := .boolean) rfl (b2i_nar _) rfl ⟨Nat.le_refl _, Nat.le_refl _⟩ dX7_blank_25)
  replace hr := ite_f hc hr
  refine r_iload_n (pc := 6) (j := 1) dX7_blank_6 rfl rfl ?_
  refine r_bipush (pc := 7) (v := (40 : Int32)) dX7_blank_7 rfl ?_
  refine r_icmp_gt (pc := 9) (tgt := 24) dX7_blank_9 rfl (fun hc => ?_) (fun hc => ?_)
  · replace hr := ite_t hc hr
    refine r_iconst (pc := 24) (v := (0 : Int32)) dX7_blank_24 rfl ?_
    exact l_osz hr (r_zret (pc := 25) (v := b2i false) (ty := .boolean) rfl (b2i_nar _) rfl ⟨Nat.le_refl _, Nat.le_refl _⟩ dX7_blank_25)
  replace hr := ite_f hc hr
  refine r_iload_n (pc := 12) (j := 2) dX7_blank_12 rfl rfl ?_
  refine r_bipush (pc := 13) (v := (8 : Int32)) dX7_blank_13 rfl ?_
  refine r_icmp_lt (pc := 15) (tgt := 24) dX7_blank_15 rfl (fun hc => ?_) (fun hc => ?_)
  · replace hr := ite_t hc hr
    refine r_iconst (pc := 24) (v := (0 : Int32)) dX7_blank_24 rfl ?_
    exact l_osz hr (r_zret (pc := 25) (v := b2i false) (ty := .boolean) rfl (b2i_nar _) rfl ⟨Nat.le_refl _, Nat.le_refl _⟩ dX7_blank_25)
  replace hr := ite_f hc hr
  refine r_iload_n (pc := 18) (j := 2) dX7_blank_18 rfl rfl ?_
  refine r_bipush (pc := 19) (v := (40 : Int32)) dX7_blank_19 rfl ?_
  refine r_icmp_le (pc := 21) (tgt := 26) dX7_blank_21 rfl (fun hc => ?_) (fun hc => ?_)
  · replace hr := ite_t hc hr
    refine r_aload_n (pc := 26) (j := 0) dX7_blank_26 rfl rfl ?_
    refine gf7_2 (pc := 27) tw_2_111 hw dX7_blank_27 ?_
    refine r_iload_n (pc := 30) (j := 1) dX7_blank_30 rfl rfl ?_
    refine r_iload_n (pc := 31) (j := 2) dX7_blank_31 rfl rfl ?_
    obtain ⟨σ1, eσ1, hr⟩ := bnd1_inv hr
    refine kX6_empty (pc := 32) eσ1 (wt_sc hw).1 tw_2_102 ⟨nle rfl, nle rfl⟩ (nle rfl) dX7_blank_32 fun hσ1 => ?_
    refine r_iconst (pc := 35) (v := (1 : Int32)) dX7_blank_35 rfl ?_
    exact l_osz hr (r_zret (pc := 36) (v := b2i true) (ty := .boolean) rfl (b2i_nar _) rfl ⟨Nat.le_refl _, Nat.le_refl _⟩ dX7_blank_36)
  replace hr := ite_f hc hr
  refine r_iconst (pc := 24) (v := (0 : Int32)) dX7_blank_24 rfl ?_
  exact l_osz hr (r_zret (pc := 25) (v := b2i false) (ty := .boolean) rfl (b2i_nar _) rfl ⟨Nat.le_refl _, Nat.le_refl _⟩ dX7_blank_25)

theorem kX7_blank {g : GG} {σ : SS} {a1 : Int32} {a2 : Int32} {v : Bool} {σ2 : SS} {M : MM} {F : State → Array Value → List Frame → State → Prop} {pc index : Nat} {ls : List (Nat × Value)} {rest : List Value} (hf : fX7_blank σ a1 a2 = some (v, σ2))  (hl : Cond.methodLink M.1.cls index yX7_blank ∈ lw_gt) (hR : mX7_blank.2.2.2.2.frames + 1 ≤ M.2.2.2.2.frames ∧ 8 + (mX7_blank.2.2.1 + 11) + mX7_blank.2.2.2.2.locals ≤ M.2.2.2.2.locals) (hrest : (rest.map fun v => v.category).sum ≤ 8) (hd : decode M.2.1 pc = .ok (.invokevirtual index, 3)) (k : WT σ2 → RR g M F zF (pc + 3) ls (.int (b2i v) :: rest) σ2) : RR g M F zF pc ls (.int a2 :: .int a1 :: .ref (ad g 1) :: rest) σ :=
  r_callV (z := zF) (N := mX7_blank) (nn := 2) (o1 := some (.int (b2i v))) (sX7_blank hf ) (rfl : shp 1 = (7, 0)) (by decide) (shp_le (rfl : shp 1 = (7, 0)) (nle rfl)) (ci := 7) rfl rfl tw_3_107 tw_1_1 hl tw_3_105 tw_3_106 ⟨by decide, by decide, rfl⟩ hR rfl hrest hd ⟨Nat.zero_le _, Nat.zero_le _⟩ rfl (fun h => k (h rfl))

theorem dX8_clears_0 : decode cX8_clears 0 = .ok (.iconst 0, 1) := by decide +kernel
theorem dX8_clears_1 : decode cX8_clears 1 = .ok (.istore_n 1, 1) := by decide +kernel
theorem dX8_clears_2 : decode cX8_clears 2 = .ok (.iload_n 1, 1) := by decide +kernel
theorem dX8_clears_3 : decode cX8_clears 3 = .ok (.sipush 1600, 3) := by decide +kernel
theorem dX8_clears_6 : decode cX8_clears 6 = .ok (.if_icmp .ge 16, 3) := by decide +kernel
theorem dX8_clears_9 : decode cX8_clears 9 = .ok (.aload_n 0, 1) := by decide +kernel
theorem dX8_clears_10 : decode cX8_clears 10 = .ok (.getfield 38, 3) := by decide +kernel
theorem dX8_clears_13 : decode cX8_clears 13 = .ok (.iload_n 1, 1) := by decide +kernel
theorem dX8_clears_14 : decode cX8_clears 14 = .ok (.iconst 0, 1) := by decide +kernel
theorem dX8_clears_15 : decode cX8_clears 15 = .ok (.iastore, 1) := by decide +kernel
theorem dX8_clears_16 : decode cX8_clears 16 = .ok (.iinc 1 1, 3) := by decide +kernel
theorem dX8_clears_19 : decode cX8_clears 19 = .ok (.goto (-17), 3) := by decide +kernel
theorem dX8_clears_22 : decode cX8_clears 22 = .ok (.return_, 1) := by decide +kernel
def mX8_clears : MM := (yX8_clears, cX8_clears, 2, none, { frames := 0, cells := 0, slots := 0, locals := 0 })
def X8_clears_L2   : Nat → Int32 → SS → Option SS :=
  lp (fun _ _ => none) fun rec v1_ σ_ =>
    if (1600 : Int32) ≤ v1_ then (
      some σ_
      ) else (
      grd (inb v1_ 1600) <|
      vthen (sI σ_ 83 (Int32.toNatClampNeg v1_) (0 : Int32)) fun σ2 =>
      rec (v1_ + (1 : Int32)) σ2
      )

def fX8_clears (σ : SS)  : Option SS :=
  X8_clears_L2
  fuel (0 : Int32) σ

set_option maxRecDepth 20000 in
theorem sX8_clears_L2 {g : GG} {r : SS}   
    (n : Nat) : ∀ (v1_ : Int32) (σ_ : SS), X8_clears_L2 n v1_ σ_ = some r → WT σ_ → RR g mX8_clears (FinR g mX8_clears none NF r) zF 2 [(0, .ref (ad g 73)), (1, .int v1_)] [] σ_ := by
  unfold X8_clears_L2
  refine lp_ind (P := fun (rec : Int32 → SS → Option SS) => ∀ (v1_ : Int32) (σ_ : SS), rec v1_ σ_ = some r → WT σ_ → RR g mX8_clears (FinR g mX8_clears none NF r) zF 2 [(0, .ref (ad g 73)), (1, .int v1_)] [] σ_) ?_ ?_ n
  · intro v1_ σ_ hr; cases hr
  intro rec ih v1_ σ_ hr hw_
  refine r_iload_n (pc := 2) (j := 1) dX8_clears_2 rfl rfl ?_
  refine r_sipush (pc := 3) (v := (1600 : Int32)) dX8_clears_3 rfl ?_
  refine r_icmp_ge (pc := 6) (tgt := 22) dX8_clears_6 rfl (fun hc => ?_) (fun hc => ?_)
  · replace hr := ite_t hc hr
    exact l_ov hr (r_vret (pc := 22) rfl rfl ⟨Nat.le_refl _, Nat.le_refl _⟩ dX8_clears_22)
  replace hr := ite_f hc hr
  refine r_aload_n (pc := 9) (j := 0) dX8_clears_9 rfl rfl ?_
  refine gf8_21 (pc := 10) tw_5_115 hw_ dX8_clears_10 ?_
  refine r_iload_n (pc := 13) (j := 1) dX8_clears_13 rfl rfl ?_
  refine r_iconst (pc := 14) (v := (0 : Int32)) dX8_clears_14 rfl ?_
  obtain ⟨h1, hr⟩ := grd_inv hr
  refine x_iast (pc := 15) (j := (Int32.toNatClampNeg v1_)) rfl h1 rfl dX8_clears_15 fun σ2 eσ2 => ?_
  replace hr := vthen_inv hr σ2 eσ2
  have hσ2 := wtI eσ2 hw_
  refine r_iinc (pc := 16) (j := 1) (v := (v1_ + (1 : Int32))) (ls1 := [(1, .int (v1_ + (1 : Int32))), (0, .ref (ad g 73))]) dX8_clears_16 rfl rfl (nle rfl) rfl ?_
  refine r_goto (pc := 19) (tgt := 2) dX8_clears_19 rfl ?_
  exact r_pick (ls1 := [(0, .ref (ad g 73)), (1, .int (v1_ + (1 : Int32)))]) [1, 0] rfl (ih (v1_ + (1 : Int32)) σ2 hr hσ2)

set_option maxRecDepth 20000 in
theorem sX8_clears {g : GG} {σ : SS}  {r : SS} (hr : fX8_clears σ = some r)  : Ct g mX8_clears [.ref (ad g 73)] NF σ none NF r := by
  refine Ct.of (by decide +kernel) (nle rfl) fun hw0 => ?_
  have hw := hw0 rfl
  unfold fX8_clears at hr
  change RR g mX8_clears (FinR g mX8_clears none NF r) zF 0 [(0, .ref (ad g 73))] [] σ
  refine r_iconst (pc := 0) (v := (0 : Int32)) dX8_clears_0 rfl ?_
  refine r_istore_n (pc := 1) (ls1 := [(1, .int (0 : Int32)), (0, .ref (ad g 73))]) dX8_clears_1 rfl (nle rfl) rfl ?_
  refine r_pick (ls1 := [(0, .ref (ad g 73)), (1, .int (0 : Int32))]) [1, 0] rfl ?_
  refine sX8_clears_L2     fuel (0 : Int32) σ hr hw

theorem kX8_clears {g : GG} {σ : SS}  {σ2 : SS} {M : MM} {F : State → Array Value → List Frame → State → Prop} {pc index : Nat} {ls : List (Nat × Value)} {rest : List Value} (hf : fX8_clears σ = some σ2)  (hl : Cond.methodLink M.1.cls index yX8_clears ∈ lw_gt) (hR : mX8_clears.2.2.2.2.frames + 1 ≤ M.2.2.2.2.frames ∧ 8 + (mX8_clears.2.2.1 + 11) + mX8_clears.2.2.2.2.locals ≤ M.2.2.2.2.locals) (hrest : (rest.map fun v => v.category).sum ≤ 8) (hd : decode M.2.1 pc = .ok (.invokevirtual index, 3)) (k : WT σ2 → RR g M F zF (pc + 3) ls rest σ2) : RR g M F zF pc ls (.ref (ad g 73) :: rest) σ :=
  r_callV (z := zF) (N := mX8_clears) (nn := 0) (o1 := none) (sX8_clears hf ) (rfl : shp 73 = (8, 0)) (by decide) (shp_le (rfl : shp 73 = (8, 0)) (nle rfl)) (ci := 8) rfl rfl tw_6_164 tw_1_10 hl tw_6_163 tp_51 ⟨by decide, by decide, rfl⟩ hR rfl hrest hd ⟨Nat.zero_le _, Nat.zero_le _⟩ rfl (fun h => k (h rfl))

theorem dX8_blank_0 : decode cX8_blank 0 = .ok (.iload_n 1, 1) := by decide +kernel
theorem dX8_blank_1 : decode cX8_blank 1 = .ok (.bipush 8, 2) := by decide +kernel
theorem dX8_blank_3 : decode cX8_blank 3 = .ok (.bipush 40, 2) := by decide +kernel
theorem dX8_blank_5 : decode cX8_blank 5 = .ok (.invokestatic 165, 3) := by decide +kernel
theorem dX8_blank_8 : decode cX8_blank 8 = .ok (.ifCond .eq 14, 3) := by decide +kernel
theorem dX8_blank_11 : decode cX8_blank 11 = .ok (.iload_n 2, 1) := by decide +kernel
theorem dX8_blank_12 : decode cX8_blank 12 = .ok (.bipush 8, 2) := by decide +kernel
theorem dX8_blank_14 : decode cX8_blank 14 = .ok (.bipush 40, 2) := by decide +kernel
theorem dX8_blank_16 : decode cX8_blank 16 = .ok (.invokestatic 165, 3) := by decide +kernel
theorem dX8_blank_19 : decode cX8_blank 19 = .ok (.ifCond .ne 5, 3) := by decide +kernel
theorem dX8_blank_22 : decode cX8_blank 22 = .ok (.iconst 0, 1) := by decide +kernel
theorem dX8_blank_23 : decode cX8_blank 23 = .ok (.ireturn, 1) := by decide +kernel
theorem dX8_blank_24 : decode cX8_blank 24 = .ok (.aload_n 0, 1) := by decide +kernel
theorem dX8_blank_25 : decode cX8_blank 25 = .ok (.iload_n 1, 1) := by decide +kernel
theorem dX8_blank_26 : decode cX8_blank 26 = .ok (.putfield 132, 3) := by decide +kernel
theorem dX8_blank_29 : decode cX8_blank 29 = .ok (.aload_n 0, 1) := by decide +kernel
theorem dX8_blank_30 : decode cX8_blank 30 = .ok (.iload_n 2, 1) := by decide +kernel
theorem dX8_blank_31 : decode cX8_blank 31 = .ok (.putfield 136, 3) := by decide +kernel
theorem dX8_blank_34 : decode cX8_blank 34 = .ok (.aload_n 0, 1) := by decide +kernel
theorem dX8_blank_35 : decode cX8_blank 35 = .ok (.invokevirtual 278, 3) := by decide +kernel
theorem dX8_blank_38 : decode cX8_blank 38 = .ok (.iconst 1, 1) := by decide +kernel
theorem dX8_blank_39 : decode cX8_blank 39 = .ok (.ireturn, 1) := by decide +kernel
def mX8_blank : MM := (yX8_blank, cX8_blank, 3, Option.some Jvm.ClassFile.FieldType.boolean, { frames := 1, cells := 0, slots := 0, locals := 22 })
def fX8_blank (σ : SS) (a1 : Int32) (a2 : Int32) : Option (Bool × SS) :=
  if (fX8_in σ a1 (8 : Int32) (40 : Int32)) = true then (
    if (fX8_in σ a2 (8 : Int32) (40 : Int32)) = true then (
      vthen (sI σ 73 29 a1) fun σ1 =>
      vthen (sI σ1 73 30 a2) fun σ2 =>
      bnd1 (fX8_clears σ2) fun σ3 =>
      some (true, σ3)
      ) else (
      some (false, σ)
      )
    ) else (
    some (false, σ)
    )

set_option maxRecDepth 20000 in
theorem sX8_blank {g : GG} {σ : SS} {a1 : Int32} {a2 : Int32} {r : Bool × SS} (hr : fX8_blank σ a1 a2 = some r)  : Ct g mX8_blank [.ref (ad g 73), .int a1, .int a2] NF σ (some (.int (b2i r.1))) NF r.2 := by
  refine Ct.of (by decide +kernel) (nle rfl) fun hw0 => ?_
  have hw := hw0 rfl
  unfold fX8_blank at hr
  change RR g mX8_blank (FinR g mX8_blank (some (.int (b2i r.1))) NF r.2) zF 0 [(0, .ref (ad g 73)), (1, .int a1), (2, .int a2)] [] σ
  refine r_iload_n (pc := 0) (j := 1) dX8_blank_0 rfl rfl ?_
  refine r_bipush (pc := 1) (v := (8 : Int32)) dX8_blank_1 rfl ?_
  refine r_bipush (pc := 3) (v := (40 : Int32)) dX8_blank_3 rfl ?_
  refine kX8_in (pc := 5) (hf := rfl) tw_6_65 ⟨nle rfl, nle rfl⟩ (nle rfl) dX8_blank_5 ?_
  refine r_ifB_eq (pc := 8) (tgt := 22) dX8_blank_8 rfl (fun hc => ?_) (fun hc => ?_)
  · replace hr := ite_f hc hr
    refine r_iconst (pc := 22) (v := (0 : Int32)) dX8_blank_22 rfl ?_
    exact l_osz hr (r_zret (pc := 23) (v := b2i false) (ty := .boolean) rfl (b2i_nar _) rfl ⟨Nat.le_refl _, Nat.le_refl _⟩ dX8_blank_23)
  replace hr := ite_t hc hr
  refine r_iload_n (pc := 11) (j := 2) dX8_blank_11 rfl rfl ?_
  refine r_bipush (pc := 12) (v := (8 : Int32)) dX8_blank_12 rfl ?_
  refine r_bipush (pc := 14) (v := (40 : Int32)) dX8_blank_14 rfl ?_
  refine kX8_in (pc := 16) (hf := rfl) tw_6_65 ⟨nle rfl, nle rfl⟩ (nle rfl) dX8_blank_16 ?_
  refine r_ifB_ne (pc := 19) (tgt := 24) dX8_blank_19 rfl (fun hc => ?_) (fun hc => ?_)
  · replace hr := ite_t hc hr
    refine r_aload_n (pc := 24) (j := 0) dX8_blank_24 rfl rfl ?_
    refine r_iload_n (pc := 25) (j := 1) dX8_blank_25 rfl rfl ?_
    refine pf8_29 (pc := 26) tw_5_123 rfl dX8_blank_26 fun σ1 eσ1 => ?_
    replace hr := vthen_inv hr σ1 eσ1
    have hσ1 := wtI eσ1 hw
    refine r_aload_n (pc := 29) (j := 0) dX8_blank_29 rfl rfl ?_
    refine r_iload_n (pc := 30) (j := 2) dX8_blank_30 rfl rfl ?_
    refine pf8_30 (pc := 31) tw_5_124 rfl dX8_blank_31 fun σ2 eσ2 => ?_
    replace hr := vthen_inv hr σ2 eσ2
    have hσ2 := wtI eσ2 hσ1
    refine r_aload_n (pc := 34) (j := 0) dX8_blank_34 rfl rfl ?_
    obtain ⟨σ3, eσ3, hr⟩ := bnd1_inv hr
    refine kX8_clears (pc := 35) eσ3 tw_6_161 ⟨nle rfl, nle rfl⟩ (nle rfl) dX8_blank_35 fun hσ3 => ?_
    refine r_iconst (pc := 38) (v := (1 : Int32)) dX8_blank_38 rfl ?_
    exact l_osz hr (r_zret (pc := 39) (v := b2i true) (ty := .boolean) rfl (b2i_nar _) rfl ⟨Nat.le_refl _, Nat.le_refl _⟩ dX8_blank_39)
  replace hr := ite_f hc hr
  refine r_iconst (pc := 22) (v := (0 : Int32)) dX8_blank_22 rfl ?_
  exact l_osz hr (r_zret (pc := 23) (v := b2i false) (ty := .boolean) rfl (b2i_nar _) rfl ⟨Nat.le_refl _, Nat.le_refl _⟩ dX8_blank_23)

theorem kX8_blank {g : GG} {σ : SS} {a1 : Int32} {a2 : Int32} {v : Bool} {σ2 : SS} {M : MM} {F : State → Array Value → List Frame → State → Prop} {pc index : Nat} {ls : List (Nat × Value)} {rest : List Value} (hf : fX8_blank σ a1 a2 = some (v, σ2))  (hl : Cond.methodLink M.1.cls index yX8_blank ∈ lw_gt) (hR : mX8_blank.2.2.2.2.frames + 1 ≤ M.2.2.2.2.frames ∧ 8 + (mX8_blank.2.2.1 + 11) + mX8_blank.2.2.2.2.locals ≤ M.2.2.2.2.locals) (hrest : (rest.map fun v => v.category).sum ≤ 8) (hd : decode M.2.1 pc = .ok (.invokevirtual index, 3)) (k : WT σ2 → RR g M F zF (pc + 3) ls (.int (b2i v) :: rest) σ2) : RR g M F zF pc ls (.int a2 :: .int a1 :: .ref (ad g 73) :: rest) σ :=
  r_callV (z := zF) (N := mX8_blank) (nn := 2) (o1 := some (.int (b2i v))) (sX8_blank hf ) (rfl : shp 73 = (8, 0)) (by decide) (shp_le (rfl : shp 73 = (8, 0)) (nle rfl)) (ci := 8) rfl rfl tw_6_160 tw_1_10 hl tw_6_158 tw_6_159 ⟨by decide, by decide, rfl⟩ hR rfl hrest hd ⟨Nat.zero_le _, Nat.zero_le _⟩ rfl (fun h => k (h rfl))

theorem dX6_has_0 : decode cX6_has 0 = .ok (.iload_n 1, 1) := by decide +kernel
theorem dX6_has_1 : decode cX6_has 1 = .ok (.ifCond .lt 27, 3) := by decide +kernel
theorem dX6_has_4 : decode cX6_has 4 = .ok (.iload_n 1, 1) := by decide +kernel
theorem dX6_has_5 : decode cX6_has 5 = .ok (.aload_n 0, 1) := by decide +kernel
theorem dX6_has_6 : decode cX6_has 6 = .ok (.getfield 18, 3) := by decide +kernel
theorem dX6_has_9 : decode cX6_has 9 = .ok (.if_icmp .ge 19, 3) := by decide +kernel
theorem dX6_has_12 : decode cX6_has 12 = .ok (.iload_n 2, 1) := by decide +kernel
theorem dX6_has_13 : decode cX6_has 13 = .ok (.ifCond .lt 15, 3) := by decide +kernel
theorem dX6_has_16 : decode cX6_has 16 = .ok (.iload_n 2, 1) := by decide +kernel
theorem dX6_has_17 : decode cX6_has 17 = .ok (.aload_n 0, 1) := by decide +kernel
theorem dX6_has_18 : decode cX6_has 18 = .ok (.getfield 22, 3) := by decide +kernel
theorem dX6_has_21 : decode cX6_has 21 = .ok (.if_icmp .ge 7, 3) := by decide +kernel
theorem dX6_has_24 : decode cX6_has 24 = .ok (.iconst 1, 1) := by decide +kernel
theorem dX6_has_25 : decode cX6_has 25 = .ok (.goto 4, 3) := by decide +kernel
theorem dX6_has_28 : decode cX6_has 28 = .ok (.iconst 0, 1) := by decide +kernel
theorem dX6_has_29 : decode cX6_has 29 = .ok (.ireturn, 1) := by decide +kernel
def mX6_has : MM := (yX6_has, cX6_has, 3, Option.some Jvm.ClassFile.FieldType.boolean, { frames := 0, cells := 0, slots := 0, locals := 0 })
def fX6_has (σ0 : SS) (a0 : Nat) (a1 : Int32) (a2 : Int32) : Bool :=
  vthen (fun (_u : Unit) =>
    false
    ) fun j28 =>
  if a1 < 0 then (
    j28 ()
    ) else (
    if (gI σ0 a0 0) ≤ a1 then (
      j28 ()
      ) else (
      if a2 < 0 then (
        j28 ()
        ) else (
        if (gI σ0 a0 1) ≤ a2 then (
          j28 ()
          ) else (
          true
          )
        )
      )
    )

set_option maxRecDepth 20000 in
theorem sX6_has {g : GG} {σ0 : SS} {a0 : Nat} {a1 : Int32} {a2 : Int32} {r : Bool} (hr : fX6_has σ0 a0 a1 a2 = r) (hs0 : shp a0 = (6, 0)) : Ct g mX6_has [.ref (ad g a0), .int a1, .int a2] NF σ0 (some (.int (b2i r))) NF σ0 := by
  refine Ct.of (by decide +kernel) (nle rfl) fun hw0 => ?_
  have hw := hw0 rfl
  unfold fX6_has at hr
  change RR g mX6_has (FinR g mX6_has (some (.int (b2i r))) NF σ0) zF 0 [(0, .ref (ad g a0)), (1, .int a1), (2, .int a2)] [] σ0
  refine r_iload_n (pc := 0) (j := 1) dX6_has_0 rfl rfl ?_
  obtain ⟨j28, ej28, hr⟩ := vth_ex hr
  have hj28 : j28 () = r → RR g mX6_has (FinR g mX6_has (some (.int (b2i r))) NF σ0) zF 28 [] [] σ0 := by
    intro  hr
    replace hr := (congrFun ej28 ()).symm.trans hr
    refine r_iconst (pc := 28) (v := (0 : Int32)) dX6_has_28 rfl ?_
    exact l_pz hr (r_zret (pc := 29) (v := b2i false) (ty := .boolean) rfl (b2i_nar _) rfl ⟨Nat.le_refl _, Nat.le_refl _⟩ dX6_has_29)
  refine r_if_lt (pc := 1) (tgt := 28) dX6_has_1 rfl (fun hc => ?_) (fun hc => ?_)
  · replace hr := ite_t hc hr
    exact r_pick (ls1 := []) [] rfl (hj28  hr)
  replace hr := ite_f hc hr
  refine r_iload_n (pc := 4) (j := 1) dX6_has_4 rfl rfl ?_
  refine r_aload_n (pc := 5) (j := 0) dX6_has_5 rfl rfl ?_
  refine gf6_0 (pc := 6) tw_1_32 hs0 dX6_has_6 ?_
  refine r_icmp_ge (pc := 9) (tgt := 28) dX6_has_9 rfl (fun hc => ?_) (fun hc => ?_)
  · replace hr := ite_t hc hr
    exact r_pick (ls1 := []) [] rfl (hj28  hr)
  replace hr := ite_f hc hr
  refine r_iload_n (pc := 12) (j := 2) dX6_has_12 rfl rfl ?_
  refine r_if_lt (pc := 13) (tgt := 28) dX6_has_13 rfl (fun hc => ?_) (fun hc => ?_)
  · replace hr := ite_t hc hr
    exact r_pick (ls1 := []) [] rfl (hj28  hr)
  replace hr := ite_f hc hr
  refine r_iload_n (pc := 16) (j := 2) dX6_has_16 rfl rfl ?_
  refine r_aload_n (pc := 17) (j := 0) dX6_has_17 rfl rfl ?_
  refine gf6_1 (pc := 18) tw_1_37 hs0 dX6_has_18 ?_
  refine r_icmp_ge (pc := 21) (tgt := 28) dX6_has_21 rfl (fun hc => ?_) (fun hc => ?_)
  · replace hr := ite_t hc hr
    exact r_pick (ls1 := []) [] rfl (hj28  hr)
  replace hr := ite_f hc hr
  refine r_iconst (pc := 24) (v := (1 : Int32)) dX6_has_24 rfl ?_
  refine r_goto (pc := 25) (tgt := 29) dX6_has_25 rfl ?_
  exact l_pz hr (r_zret (pc := 29) (v := b2i true) (ty := .boolean) rfl (b2i_nar _) rfl ⟨Nat.le_refl _, Nat.le_refl _⟩ dX6_has_29)

theorem kX6_has {g : GG} {σ0 : SS} {a0 : Nat} {a1 : Int32} {a2 : Int32} {v : Bool} {M : MM} {F : State → Array Value → List Frame → State → Prop} {pc index : Nat} {ls : List (Nat × Value)} {rest : List Value} (hf : fX6_has σ0 a0 a1 a2 = v) (hs0 : shp a0 = (6, 0)) (hl : Cond.methodLink M.1.cls index yX6_has ∈ lw_gt) (hR : mX6_has.2.2.2.2.frames + 1 ≤ M.2.2.2.2.frames ∧ 8 + (mX6_has.2.2.1 + 11) + mX6_has.2.2.2.2.locals ≤ M.2.2.2.2.locals) (hrest : (rest.map fun v => v.category).sum ≤ 8) (hd : decode M.2.1 pc = .ok (.invokevirtual index, 3)) (k : RR g M F zF (pc + 3) ls (.int (b2i v) :: rest) σ0) : RR g M F zF pc ls (.int a2 :: .int a1 :: .ref (ad g a0) :: rest) σ0 :=
  r_callV (z := zF) (N := mX6_has) (nn := 2) (o1 := some (.int (b2i v))) (sX6_has hf hs0) hs0 (by decide) (shp_le hs0 (nle rfl)) (ci := 6) rfl rfl tw_3_119 tw_1_2 hl tw_3_117 tw_3_118 ⟨by decide, by decide, rfl⟩ hR rfl hrest hd ⟨Nat.zero_le _, Nat.zero_le _⟩ rfl (fun h => k)

theorem dX6_put_0 : decode cX6_put 0 = .ok (.aload_n 0, 1) := by decide +kernel
theorem dX6_put_1 : decode cX6_put 1 = .ok (.iload_n 1, 1) := by decide +kernel
theorem dX6_put_2 : decode cX6_put 2 = .ok (.iload_n 2, 1) := by decide +kernel
theorem dX6_put_3 : decode cX6_put 3 = .ok (.invokevirtual 31, 3) := by decide +kernel
theorem dX6_put_6 : decode cX6_put 6 = .ok (.ifCond .ne 5, 3) := by decide +kernel
theorem dX6_put_9 : decode cX6_put 9 = .ok (.iconst 0, 1) := by decide +kernel
theorem dX6_put_10 : decode cX6_put 10 = .ok (.ireturn, 1) := by decide +kernel
theorem dX6_put_11 : decode cX6_put 11 = .ok (.iload_n 2, 1) := by decide +kernel
theorem dX6_put_12 : decode cX6_put 12 = .ok (.aload_n 0, 1) := by decide +kernel
theorem dX6_put_13 : decode cX6_put 13 = .ok (.getfield 18, 3) := by decide +kernel
theorem dX6_put_16 : decode cX6_put 16 = .ok (.imul, 1) := by decide +kernel
theorem dX6_put_17 : decode cX6_put 17 = .ok (.iload_n 1, 1) := by decide +kernel
theorem dX6_put_18 : decode cX6_put 18 = .ok (.iadd, 1) := by decide +kernel
theorem dX6_put_19 : decode cX6_put 19 = .ok (.istore 4, 2) := by decide +kernel
theorem dX6_put_21 : decode cX6_put 21 = .ok (.aload_n 0, 1) := by decide +kernel
theorem dX6_put_22 : decode cX6_put 22 = .ok (.getfield 9, 3) := by decide +kernel
theorem dX6_put_25 : decode cX6_put 25 = .ok (.iload 4, 2) := by decide +kernel
theorem dX6_put_27 : decode cX6_put 27 = .ok (.iaload, 1) := by decide +kernel
theorem dX6_put_28 : decode cX6_put 28 = .ok (.iload_n 3, 1) := by decide +kernel
theorem dX6_put_29 : decode cX6_put 29 = .ok (.if_icmp .eq 7, 3) := by decide +kernel
theorem dX6_put_32 : decode cX6_put 32 = .ok (.iconst 1, 1) := by decide +kernel
theorem dX6_put_33 : decode cX6_put 33 = .ok (.goto 4, 3) := by decide +kernel
theorem dX6_put_36 : decode cX6_put 36 = .ok (.iconst 0, 1) := by decide +kernel
theorem dX6_put_37 : decode cX6_put 37 = .ok (.istore 5, 2) := by decide +kernel
theorem dX6_put_39 : decode cX6_put 39 = .ok (.aload_n 0, 1) := by decide +kernel
theorem dX6_put_40 : decode cX6_put 40 = .ok (.getfield 9, 3) := by decide +kernel
theorem dX6_put_43 : decode cX6_put 43 = .ok (.iload 4, 2) := by decide +kernel
theorem dX6_put_45 : decode cX6_put 45 = .ok (.iload_n 3, 1) := by decide +kernel
theorem dX6_put_46 : decode cX6_put 46 = .ok (.iastore, 1) := by decide +kernel
theorem dX6_put_47 : decode cX6_put 47 = .ok (.iload 5, 2) := by decide +kernel
theorem dX6_put_49 : decode cX6_put 49 = .ok (.ireturn, 1) := by decide +kernel
def mX6_put : MM := (yX6_put, cX6_put, 6, Option.some Jvm.ClassFile.FieldType.boolean, { frames := 1, cells := 0, slots := 0, locals := 22 })
def fX6_put (σ : SS) (a0 : Nat) (a1 : Int32) (a2 : Int32) (a3 : Int32) : Option (Bool × SS) :=
  if (fX6_has σ a0 a1 a2) = true then (
    vthen ((a2 * (gI σ a0 0)) + a1) fun v1 =>
    grd (inb v1 1600) <|
    vthen (fun (s3 : Int32) =>
      vthen (sI σ (a0 + 1) (Int32.toNatClampNeg v1) a3) fun σ4 =>
      grd (isb s3) <|
      some ((i2b s3), σ4)
      ) fun j37 =>
    if (gI σ (a0 + 1) (Int32.toNatClampNeg v1)) = a3 then (
      j37 (0 : Int32)
      ) else (
      j37 (1 : Int32)
      )
    ) else (
    some (false, σ)
    )

set_option maxRecDepth 20000 in
theorem sX6_put {g : GG} {σ : SS} {a0 : Nat} {a1 : Int32} {a2 : Int32} {a3 : Int32} {r : Bool × SS} (hr : fX6_put σ a0 a1 a2 a3 = some r) (hs0 : shp a0 = (6, 0)) : Ct g mX6_put [.ref (ad g a0), .int a1, .int a2, .int a3] NF σ (some (.int (b2i r.1))) NF r.2 := by
  refine Ct.of (by decide +kernel) (nle rfl) fun hw0 => ?_
  have hw := hw0 rfl
  unfold fX6_put at hr
  change RR g mX6_put (FinR g mX6_put (some (.int (b2i r.1))) NF r.2) zF 0 [(0, .ref (ad g a0)), (1, .int a1), (2, .int a2), (3, .int a3)] [] σ
  refine r_aload_n (pc := 0) (j := 0) dX6_put_0 rfl rfl ?_
  refine r_iload_n (pc := 1) (j := 1) dX6_put_1 rfl rfl ?_
  refine r_iload_n (pc := 2) (j := 2) dX6_put_2 rfl rfl ?_
  refine kX6_has (pc := 3) (hf := rfl) hs0 tw_3_116 ⟨nle rfl, nle rfl⟩ (nle rfl) dX6_put_3 ?_
  refine r_ifB_ne (pc := 6) (tgt := 11) dX6_put_6 rfl (fun hc => ?_) (fun hc => ?_)
  · replace hr := ite_t hc hr
    refine r_iload_n (pc := 11) (j := 2) dX6_put_11 rfl rfl ?_
    refine r_aload_n (pc := 12) (j := 0) dX6_put_12 rfl rfl ?_
    refine gf6_0 (pc := 13) tw_1_32 hs0 dX6_put_13 ?_
    refine r_imul (pc := 16) dX6_put_16 ?_
    refine r_iload_n (pc := 17) (j := 1) dX6_put_17 rfl rfl ?_
    refine r_iadd (pc := 18) dX6_put_18 ?_
    refine r_topi fun v1 ev1 => ?_
    replace hr := vthen_inv hr v1 ev1
    refine r_istore (pc := 19) (ls1 := [(4, .int v1), (0, .ref (ad g a0)), (1, .int a1), (2, .int a2), (3, .int a3)]) dX6_put_19 (nle rfl) rfl ?_
    refine r_aload_n (pc := 21) (j := 1) dX6_put_21 rfl rfl ?_
    refine gf6_2 (pc := 22) tw_1_39 hw hs0 dX6_put_22 ?_
    refine r_iload (pc := 25) (j := 0) dX6_put_25 rfl ?_
    obtain ⟨h2, hr⟩ := grd_inv hr
    refine x_iald (pc := 27) (k := (Int32.toNatClampNeg v1)) (sh6_2 hs0) h2 rfl dX6_put_27 ?_
    refine r_iload_n (pc := 28) (j := 4) dX6_put_28 rfl rfl ?_
    obtain ⟨j37, ej37, hr⟩ := vth_ex hr
    have hj37 : ∀ (s3 : Int32), j37 s3 = some r → RR g mX6_put (FinR g mX6_put (some (.int (b2i r.1))) NF r.2) zF 37 [(0, .ref (ad g a0)), (3, .int a3), (4, .int v1)] [.int s3] σ := by
      intro s3 hr
      replace hr := (congrFun ej37 s3).symm.trans hr
      refine r_istore (pc := 37) (ls1 := [(5, .int s3), (0, .ref (ad g a0)), (3, .int a3), (4, .int v1)]) dX6_put_37 (nle rfl) rfl ?_
      refine r_aload_n (pc := 39) (j := 1) dX6_put_39 rfl rfl ?_
      refine gf6_2 (pc := 40) tw_1_39 hw hs0 dX6_put_40 ?_
      refine r_iload (pc := 43) (j := 3) dX6_put_43 rfl ?_
      refine r_iload_n (pc := 45) (j := 2) dX6_put_45 rfl rfl ?_
      refine x_iast (pc := 46) (j := (Int32.toNatClampNeg v1)) (sh6_2 hs0) h2 rfl dX6_put_46 fun σ4 eσ4 => ?_
      replace hr := vthen_inv hr σ4 eσ4
      have hσ4 := wtI eσ4 hw
      refine r_iload (pc := 47) (j := 0) dX6_put_47 rfl ?_
      obtain ⟨h5, hr⟩ := grd_inv hr
      refine r_toz h5 ?_
      exact l_osz hr (r_zret (pc := 49) (v := b2i (i2b s3)) (ty := .boolean) rfl (b2i_nar _) rfl ⟨Nat.le_refl _, Nat.le_refl _⟩ dX6_put_49)
    refine r_icmp_eq (pc := 29) (tgt := 36) dX6_put_29 rfl (fun hc => ?_) (fun hc => ?_)
    · replace hr := ite_t hc hr
      refine r_iconst (pc := 36) (v := (0 : Int32)) dX6_put_36 rfl ?_
      exact r_pick (ls1 := [(0, .ref (ad g a0)), (3, .int a3), (4, .int v1)]) [1, 4, 0] rfl (hj37 (0 : Int32) hr)
    replace hr := ite_f hc hr
    refine r_iconst (pc := 32) (v := (1 : Int32)) dX6_put_32 rfl ?_
    refine r_goto (pc := 33) (tgt := 37) dX6_put_33 rfl ?_
    exact r_pick (ls1 := [(0, .ref (ad g a0)), (3, .int a3), (4, .int v1)]) [1, 4, 0] rfl (hj37 (1 : Int32) hr)
  replace hr := ite_f hc hr
  refine r_iconst (pc := 9) (v := (0 : Int32)) dX6_put_9 rfl ?_
  exact l_osz hr (r_zret (pc := 10) (v := b2i false) (ty := .boolean) rfl (b2i_nar _) rfl ⟨Nat.le_refl _, Nat.le_refl _⟩ dX6_put_10)

theorem kX6_put {g : GG} {σ : SS} {a0 : Nat} {a1 : Int32} {a2 : Int32} {a3 : Int32} {v : Bool} {σ2 : SS} {M : MM} {F : State → Array Value → List Frame → State → Prop} {pc index : Nat} {ls : List (Nat × Value)} {rest : List Value} (hf : fX6_put σ a0 a1 a2 a3 = some (v, σ2)) (hs0 : shp a0 = (6, 0)) (hl : Cond.methodLink M.1.cls index yX6_put ∈ lw_gt) (hR : mX6_put.2.2.2.2.frames + 1 ≤ M.2.2.2.2.frames ∧ 8 + (mX6_put.2.2.1 + 11) + mX6_put.2.2.2.2.locals ≤ M.2.2.2.2.locals) (hrest : (rest.map fun v => v.category).sum ≤ 8) (hd : decode M.2.1 pc = .ok (.invokevirtual index, 3)) (k : WT σ2 → RR g M F zF (pc + 3) ls (.int (b2i v) :: rest) σ2) : RR g M F zF pc ls (.int a3 :: .int a2 :: .int a1 :: .ref (ad g a0) :: rest) σ :=
  r_callV (z := zF) (N := mX6_put) (nn := 3) (o1 := some (.int (b2i v))) (sX6_put hf hs0) hs0 (by decide) (shp_le hs0 (nle rfl)) (ci := 6) rfl rfl tw_3_115 tw_1_2 hl tw_3_113 tw_3_114 ⟨by decide, by decide, rfl⟩ hR rfl hrest hd ⟨Nat.zero_le _, Nat.zero_le _⟩ rfl (fun h => k (h rfl))

theorem dX7_row_0 : decode cX7_row 0 = .ok (.aload_n 0, 1) := by decide +kernel
theorem dX7_row_1 : decode cX7_row 1 = .ok (.getfield 18, 3) := by decide +kernel
theorem dX7_row_4 : decode cX7_row 4 = .ok (.getfield 100, 3) := by decide +kernel
theorem dX7_row_7 : decode cX7_row 7 = .ok (.istore_n 2, 1) := by decide +kernel
theorem dX7_row_8 : decode cX7_row 8 = .ok (.iload_n 1, 1) := by decide +kernel
theorem dX7_row_9 : decode cX7_row 9 = .ok (.ifCond .lt 22, 3) := by decide +kernel
theorem dX7_row_12 : decode cX7_row 12 = .ok (.iload_n 1, 1) := by decide +kernel
theorem dX7_row_13 : decode cX7_row 13 = .ok (.aload_n 0, 1) := by decide +kernel
theorem dX7_row_14 : decode cX7_row 14 = .ok (.getfield 18, 3) := by decide +kernel
theorem dX7_row_17 : decode cX7_row 17 = .ok (.getfield 103, 3) := by decide +kernel
theorem dX7_row_20 : decode cX7_row 20 = .ok (.if_icmp .ge 11, 3) := by decide +kernel
theorem dX7_row_23 : decode cX7_row 23 = .ok (.aload_n 0, 1) := by decide +kernel
theorem dX7_row_24 : decode cX7_row 24 = .ok (.getfield 77, 3) := by decide +kernel
theorem dX7_row_27 : decode cX7_row 27 = .ok (.iload_n 2, 1) := by decide +kernel
theorem dX7_row_28 : decode cX7_row 28 = .ok (.if_icmp .ge 5, 3) := by decide +kernel
theorem dX7_row_31 : decode cX7_row 31 = .ok (.iconst 0, 1) := by decide +kernel
theorem dX7_row_32 : decode cX7_row 32 = .ok (.ireturn, 1) := by decide +kernel
theorem dX7_row_33 : decode cX7_row 33 = .ok (.aload_n 0, 1) := by decide +kernel
theorem dX7_row_34 : decode cX7_row 34 = .ok (.iconst 0, 1) := by decide +kernel
theorem dX7_row_35 : decode cX7_row 35 = .ok (.putfield 77, 3) := by decide +kernel
theorem dX7_row_38 : decode cX7_row 38 = .ok (.iconst 0, 1) := by decide +kernel
theorem dX7_row_39 : decode cX7_row 39 = .ok (.istore_n 3, 1) := by decide +kernel
theorem dX7_row_40 : decode cX7_row 40 = .ok (.iload_n 3, 1) := by decide +kernel
theorem dX7_row_41 : decode cX7_row 41 = .ok (.iload_n 2, 1) := by decide +kernel
theorem dX7_row_42 : decode cX7_row 42 = .ok (.if_icmp .ge 33, 3) := by decide +kernel
theorem dX7_row_45 : decode cX7_row 45 = .ok (.aload_n 0, 1) := by decide +kernel
theorem dX7_row_46 : decode cX7_row 46 = .ok (.getfield 11, 3) := by decide +kernel
theorem dX7_row_49 : decode cX7_row 49 = .ok (.iload_n 3, 1) := by decide +kernel
theorem dX7_row_50 : decode cX7_row 50 = .ok (.iaload, 1) := by decide +kernel
theorem dX7_row_51 : decode cX7_row 51 = .ok (.bipush 48, 2) := by decide +kernel
theorem dX7_row_53 : decode cX7_row 53 = .ok (.if_icmp .lt 14, 3) := by decide +kernel
theorem dX7_row_56 : decode cX7_row 56 = .ok (.aload_n 0, 1) := by decide +kernel
theorem dX7_row_57 : decode cX7_row 57 = .ok (.getfield 11, 3) := by decide +kernel
theorem dX7_row_60 : decode cX7_row 60 = .ok (.iload_n 3, 1) := by decide +kernel
theorem dX7_row_61 : decode cX7_row 61 = .ok (.iaload, 1) := by decide +kernel
theorem dX7_row_62 : decode cX7_row 62 = .ok (.bipush 57, 2) := by decide +kernel
theorem dX7_row_64 : decode cX7_row 64 = .ok (.if_icmp .le 5, 3) := by decide +kernel
theorem dX7_row_67 : decode cX7_row 67 = .ok (.iconst 0, 1) := by decide +kernel
theorem dX7_row_68 : decode cX7_row 68 = .ok (.ireturn, 1) := by decide +kernel
theorem dX7_row_69 : decode cX7_row 69 = .ok (.iinc 3 1, 3) := by decide +kernel
theorem dX7_row_72 : decode cX7_row 72 = .ok (.goto (-32), 3) := by decide +kernel
theorem dX7_row_75 : decode cX7_row 75 = .ok (.iconst 0, 1) := by decide +kernel
theorem dX7_row_76 : decode cX7_row 76 = .ok (.istore_n 3, 1) := by decide +kernel
theorem dX7_row_77 : decode cX7_row 77 = .ok (.iload_n 3, 1) := by decide +kernel
theorem dX7_row_78 : decode cX7_row 78 = .ok (.iload_n 2, 1) := by decide +kernel
theorem dX7_row_79 : decode cX7_row 79 = .ok (.if_icmp .ge 28, 3) := by decide +kernel
theorem dX7_row_82 : decode cX7_row 82 = .ok (.aload_n 0, 1) := by decide +kernel
theorem dX7_row_83 : decode cX7_row 83 = .ok (.getfield 18, 3) := by decide +kernel
theorem dX7_row_86 : decode cX7_row 86 = .ok (.iload_n 3, 1) := by decide +kernel
theorem dX7_row_87 : decode cX7_row 87 = .ok (.iload_n 1, 1) := by decide +kernel
theorem dX7_row_88 : decode cX7_row 88 = .ok (.aload_n 0, 1) := by decide +kernel
theorem dX7_row_89 : decode cX7_row 89 = .ok (.getfield 11, 3) := by decide +kernel
theorem dX7_row_92 : decode cX7_row 92 = .ok (.iload_n 3, 1) := by decide +kernel
theorem dX7_row_93 : decode cX7_row 93 = .ok (.iaload, 1) := by decide +kernel
theorem dX7_row_94 : decode cX7_row 94 = .ok (.bipush 48, 2) := by decide +kernel
theorem dX7_row_96 : decode cX7_row 96 = .ok (.isub, 1) := by decide +kernel
theorem dX7_row_97 : decode cX7_row 97 = .ok (.invokevirtual 157, 3) := by decide +kernel
theorem dX7_row_100 : decode cX7_row 100 = .ok (.pop, 1) := by decide +kernel
theorem dX7_row_101 : decode cX7_row 101 = .ok (.iinc 3 1, 3) := by decide +kernel
theorem dX7_row_104 : decode cX7_row 104 = .ok (.goto (-27), 3) := by decide +kernel
theorem dX7_row_107 : decode cX7_row 107 = .ok (.iconst 1, 1) := by decide +kernel
theorem dX7_row_108 : decode cX7_row 108 = .ok (.ireturn, 1) := by decide +kernel
def mX7_row : MM := (yX7_row, cX7_row, 4, Option.some Jvm.ClassFile.FieldType.boolean, { frames := 2, cells := 0, slots := 0, locals := 47 })
def X7_row_L40 (σ_ : SS) (u2_ : Int32) (k75 : Unit → Option (Bool × SS)) : Nat → Int32 → Option (Bool × SS) :=
  lp (fun _ => none) fun rec v3_ =>
    if u2_ ≤ v3_ then (
      k75 ()
      ) else (
      grd (inb v3_ 480) <|
      if (gI σ_ 2 (Int32.toNatClampNeg v3_)) < (48 : Int32) then (
        some (false, σ_)
        ) else (
        if (gI σ_ 2 (Int32.toNatClampNeg v3_)) ≤ (57 : Int32) then (
          rec (v3_ + (1 : Int32))
          ) else (
          some (false, σ_)
          )
        )
      )

def X7_row_L77 (u1_ : Int32) (u2_ : Int32)  : Nat → Int32 → SS → Option (Bool × SS) :=
  lp (fun _ _ => none) fun rec v3_ σ_ =>
    if u2_ ≤ v3_ then (
      some (true, σ_)
      ) else (
      grd (inb v3_ 480) <|
      bnd (fX6_put σ_ (gR σ_ 1 2) v3_ u1_ ((gI σ_ 2 (Int32.toNatClampNeg v3_)) - (48 : Int32))) fun b6 σ8 =>
      rec (v3_ + (1 : Int32)) σ8
      )

def fX7_row (σ : SS) (a1 : Int32) : Option (Bool × SS) :=
  vthen (gI σ (gR σ 1 2) 0) fun v1 =>
  if a1 < 0 then (
    some (false, σ)
    ) else (
    if (gI σ (gR σ 1 2) 1) ≤ a1 then (
      some (false, σ)
      ) else (
      if v1 ≤ (gI σ 1 1) then (
        vthen (sI σ 1 1 (0 : Int32)) fun σ2 =>
        X7_row_L40 σ2 v1
        (fun _ =>
          X7_row_L77 a1 v1
          fuel (0 : Int32) σ2
          )
        fuel (0 : Int32)
        ) else (
        some (false, σ)
        )
      )
    )

set_option maxRecDepth 20000 in
theorem sX7_row_L40 {g : GG} {r : Bool × SS} {σ_ : SS} {x1_ : Int32} {u2_ : Int32} {k75 : Unit → Option (Bool × SS)} 
    (hw_ : WT σ_)
    (hk75 : k75 () = some r → RR g mX7_row (FinR g mX7_row (some (.int (b2i r.1))) NF r.2) zF 75 [(0, .ref (ad g 1)), (1, .int x1_), (2, .int u2_)] [] σ_)
    (n : Nat) : ∀ (v3_ : Int32), X7_row_L40 σ_ u2_ k75 n v3_ = some r → RR g mX7_row (FinR g mX7_row (some (.int (b2i r.1))) NF r.2) zF 40 [(0, .ref (ad g 1)), (1, .int x1_), (2, .int u2_), (3, .int v3_)] [] σ_ := by
  unfold X7_row_L40
  refine lp_ind (P := fun (rec : Int32 → Option (Bool × SS)) => ∀ (v3_ : Int32), rec v3_ = some r → RR g mX7_row (FinR g mX7_row (some (.int (b2i r.1))) NF r.2) zF 40 [(0, .ref (ad g 1)), (1, .int x1_), (2, .int u2_), (3, .int v3_)] [] σ_) ?_ ?_ n
  · intro v3_ hr; cases hr
  intro rec ih v3_ hr
  refine r_iload_n (pc := 40) (j := 3) dX7_row_40 rfl rfl ?_
  refine r_iload_n (pc := 41) (j := 2) dX7_row_41 rfl rfl ?_
  refine r_icmp_ge (pc := 42) (tgt := 75) dX7_row_42 rfl (fun hc => ?_) (fun hc => ?_)
  · replace hr := ite_t hc hr
    exact r_pick (ls1 := [(0, .ref (ad g 1)), (1, .int x1_), (2, .int u2_)]) [0, 1, 2] rfl (hk75  hr)
  replace hr := ite_f hc hr
  refine r_aload_n (pc := 45) (j := 0) dX7_row_45 rfl rfl ?_
  refine gf7_0 (pc := 46) tw_2_109 hw_ dX7_row_46 ?_
  refine r_iload_n (pc := 49) (j := 3) dX7_row_49 rfl rfl ?_
  obtain ⟨h3, hr⟩ := grd_inv hr
  refine x_iald (pc := 50) (k := (Int32.toNatClampNeg v3_)) rfl h3 rfl dX7_row_50 ?_
  refine r_bipush (pc := 51) (v := (48 : Int32)) dX7_row_51 rfl ?_
  refine r_icmp_lt (pc := 53) (tgt := 67) dX7_row_53 rfl (fun hc => ?_) (fun hc => ?_)
  · replace hr := ite_t hc hr
    refine r_iconst (pc := 67) (v := (0 : Int32)) dX7_row_67 rfl ?_
    exact l_osz hr (r_zret (pc := 68) (v := b2i false) (ty := .boolean) rfl (b2i_nar _) rfl ⟨Nat.le_refl _, Nat.le_refl _⟩ dX7_row_68)
  replace hr := ite_f hc hr
  refine r_aload_n (pc := 56) (j := 0) dX7_row_56 rfl rfl ?_
  refine gf7_0 (pc := 57) tw_2_109 hw_ dX7_row_57 ?_
  refine r_iload_n (pc := 60) (j := 3) dX7_row_60 rfl rfl ?_
  refine x_iald (pc := 61) (k := (Int32.toNatClampNeg v3_)) rfl h3 rfl dX7_row_61 ?_
  refine r_bipush (pc := 62) (v := (57 : Int32)) dX7_row_62 rfl ?_
  refine r_icmp_le (pc := 64) (tgt := 69) dX7_row_64 rfl (fun hc => ?_) (fun hc => ?_)
  · replace hr := ite_t hc hr
    refine r_iinc (pc := 69) (j := 3) (v := (v3_ + (1 : Int32))) (ls1 := [(3, .int (v3_ + (1 : Int32))), (0, .ref (ad g 1)), (1, .int x1_), (2, .int u2_)]) dX7_row_69 rfl rfl (nle rfl) rfl ?_
    refine r_goto (pc := 72) (tgt := 40) dX7_row_72 rfl ?_
    exact r_pick (ls1 := [(0, .ref (ad g 1)), (1, .int x1_), (2, .int u2_), (3, .int (v3_ + (1 : Int32)))]) [1, 2, 3, 0] rfl (ih (v3_ + (1 : Int32)) hr)
  replace hr := ite_f hc hr
  refine r_iconst (pc := 67) (v := (0 : Int32)) dX7_row_67 rfl ?_
  exact l_osz hr (r_zret (pc := 68) (v := b2i false) (ty := .boolean) rfl (b2i_nar _) rfl ⟨Nat.le_refl _, Nat.le_refl _⟩ dX7_row_68)

set_option maxRecDepth 20000 in
theorem sX7_row_L77 {g : GG} {r : Bool × SS} {u1_ : Int32} {u2_ : Int32}  
    (n : Nat) : ∀ (v3_ : Int32) (σ_ : SS), X7_row_L77 u1_ u2_ n v3_ σ_ = some r → WT σ_ → RR g mX7_row (FinR g mX7_row (some (.int (b2i r.1))) NF r.2) zF 77 [(0, .ref (ad g 1)), (1, .int u1_), (2, .int u2_), (3, .int v3_)] [] σ_ := by
  unfold X7_row_L77
  refine lp_ind (P := fun (rec : Int32 → SS → Option (Bool × SS)) => ∀ (v3_ : Int32) (σ_ : SS), rec v3_ σ_ = some r → WT σ_ → RR g mX7_row (FinR g mX7_row (some (.int (b2i r.1))) NF r.2) zF 77 [(0, .ref (ad g 1)), (1, .int u1_), (2, .int u2_), (3, .int v3_)] [] σ_) ?_ ?_ n
  · intro v3_ σ_ hr; cases hr
  intro rec ih v3_ σ_ hr hw_
  refine r_iload_n (pc := 77) (j := 3) dX7_row_77 rfl rfl ?_
  refine r_iload_n (pc := 78) (j := 2) dX7_row_78 rfl rfl ?_
  refine r_icmp_ge (pc := 79) (tgt := 107) dX7_row_79 rfl (fun hc => ?_) (fun hc => ?_)
  · replace hr := ite_t hc hr
    refine r_iconst (pc := 107) (v := (1 : Int32)) dX7_row_107 rfl ?_
    exact l_osz hr (r_zret (pc := 108) (v := b2i true) (ty := .boolean) rfl (b2i_nar _) rfl ⟨Nat.le_refl _, Nat.le_refl _⟩ dX7_row_108)
  replace hr := ite_f hc hr
  refine r_aload_n (pc := 82) (j := 0) dX7_row_82 rfl rfl ?_
  refine gf7_2 (pc := 83) tw_2_111 hw_ dX7_row_83 ?_
  refine r_iload_n (pc := 86) (j := 3) dX7_row_86 rfl rfl ?_
  refine r_iload_n (pc := 87) (j := 1) dX7_row_87 rfl rfl ?_
  refine r_aload_n (pc := 88) (j := 0) dX7_row_88 rfl rfl ?_
  refine gf7_0 (pc := 89) tw_2_109 hw_ dX7_row_89 ?_
  refine r_iload_n (pc := 92) (j := 3) dX7_row_92 rfl rfl ?_
  obtain ⟨h4, hr⟩ := grd_inv hr
  refine x_iald (pc := 93) (k := (Int32.toNatClampNeg v3_)) rfl h4 rfl dX7_row_93 ?_
  refine r_bipush (pc := 94) (v := (48 : Int32)) dX7_row_94 rfl ?_
  refine r_isub (pc := 96) dX7_row_96 ?_
  obtain ⟨b6, σ8, eσ8, hr⟩ := bnd_inv hr
  refine kX6_put (pc := 97) eσ8 (wt_sc hw_).1 tw_3_112 ⟨nle rfl, nle rfl⟩ (nle rfl) dX7_row_97 fun hσ8 => ?_
  refine r_pop (pc := 100) dX7_row_100 rfl ?_
  refine r_iinc (pc := 101) (j := 3) (v := (v3_ + (1 : Int32))) (ls1 := [(3, .int (v3_ + (1 : Int32))), (0, .ref (ad g 1)), (1, .int u1_), (2, .int u2_)]) dX7_row_101 rfl rfl (nle rfl) rfl ?_
  refine r_goto (pc := 104) (tgt := 77) dX7_row_104 rfl ?_
  exact r_pick (ls1 := [(0, .ref (ad g 1)), (1, .int u1_), (2, .int u2_), (3, .int (v3_ + (1 : Int32)))]) [1, 2, 3, 0] rfl (ih (v3_ + (1 : Int32)) σ8 hr hσ8)

set_option maxRecDepth 20000 in
theorem sX7_row {g : GG} {σ : SS} {a1 : Int32} {r : Bool × SS} (hr : fX7_row σ a1 = some r)  : Ct g mX7_row [.ref (ad g 1), .int a1] NF σ (some (.int (b2i r.1))) NF r.2 := by
  refine Ct.of (by decide +kernel) (nle rfl) fun hw0 => ?_
  have hw := hw0 rfl
  unfold fX7_row at hr
  change RR g mX7_row (FinR g mX7_row (some (.int (b2i r.1))) NF r.2) zF 0 [(0, .ref (ad g 1)), (1, .int a1)] [] σ
  refine r_aload_n (pc := 0) (j := 0) dX7_row_0 rfl rfl ?_
  refine gf7_2 (pc := 1) tw_2_111 hw dX7_row_1 ?_
  refine gf6_0 (pc := 4) tw_1_35 (wt_sc hw).1 dX7_row_4 ?_
  refine r_topi fun v1 ev1 => ?_
  replace hr := vthen_inv hr v1 ev1
  refine r_istore_n (pc := 7) (ls1 := [(2, .int v1), (0, .ref (ad g 1)), (1, .int a1)]) dX7_row_7 rfl (nle rfl) rfl ?_
  refine r_iload_n (pc := 8) (j := 2) dX7_row_8 rfl rfl ?_
  refine r_if_lt (pc := 9) (tgt := 31) dX7_row_9 rfl (fun hc => ?_) (fun hc => ?_)
  · replace hr := ite_t hc hr
    refine r_iconst (pc := 31) (v := (0 : Int32)) dX7_row_31 rfl ?_
    exact l_osz hr (r_zret (pc := 32) (v := b2i false) (ty := .boolean) rfl (b2i_nar _) rfl ⟨Nat.le_refl _, Nat.le_refl _⟩ dX7_row_32)
  replace hr := ite_f hc hr
  refine r_iload_n (pc := 12) (j := 2) dX7_row_12 rfl rfl ?_
  refine r_aload_n (pc := 13) (j := 1) dX7_row_13 rfl rfl ?_
  refine gf7_2 (pc := 14) tw_2_111 hw dX7_row_14 ?_
  refine gf6_1 (pc := 17) tw_1_38 (wt_sc hw).1 dX7_row_17 ?_
  refine r_icmp_ge (pc := 20) (tgt := 31) dX7_row_20 rfl (fun hc => ?_) (fun hc => ?_)
  · replace hr := ite_t hc hr
    refine r_iconst (pc := 31) (v := (0 : Int32)) dX7_row_31 rfl ?_
    exact l_osz hr (r_zret (pc := 32) (v := b2i false) (ty := .boolean) rfl (b2i_nar _) rfl ⟨Nat.le_refl _, Nat.le_refl _⟩ dX7_row_32)
  replace hr := ite_f hc hr
  refine r_aload_n (pc := 23) (j := 1) dX7_row_23 rfl rfl ?_
  refine gf7_1 (pc := 24) tw_2_110 rfl dX7_row_24 ?_
  refine r_iload_n (pc := 27) (j := 0) dX7_row_27 rfl rfl ?_
  refine r_icmp_ge (pc := 28) (tgt := 33) dX7_row_28 rfl (fun hc => ?_) (fun hc => ?_)
  · replace hr := ite_t hc hr
    refine r_aload_n (pc := 33) (j := 1) dX7_row_33 rfl rfl ?_
    refine r_iconst (pc := 34) (v := (0 : Int32)) dX7_row_34 rfl ?_
    refine pf7_1 (pc := 35) tw_2_110 rfl dX7_row_35 fun σ2 eσ2 => ?_
    replace hr := vthen_inv hr σ2 eσ2
    have hσ2 := wtI eσ2 hw
    refine r_iconst (pc := 38) (v := (0 : Int32)) dX7_row_38 rfl ?_
    refine r_istore_n (pc := 39) (ls1 := [(3, .int (0 : Int32)), (2, .int v1), (0, .ref (ad g 1)), (1, .int a1)]) dX7_row_39 rfl (nle rfl) rfl ?_
    refine r_pick (ls1 := [(0, .ref (ad g 1)), (1, .int a1), (2, .int v1), (3, .int (0 : Int32))]) [2, 3, 1, 0] rfl ?_
    refine sX7_row_L40  hσ2  (fun hr => ?_) fuel (0 : Int32) hr
    refine r_iconst (pc := 75) (v := (0 : Int32)) dX7_row_75 rfl ?_
    refine r_istore_n (pc := 76) (ls1 := [(3, .int (0 : Int32)), (0, .ref (ad g 1)), (1, .int a1), (2, .int v1)]) dX7_row_76 rfl (nle rfl) rfl ?_
    refine r_pick (ls1 := [(0, .ref (ad g 1)), (1, .int a1), (2, .int v1), (3, .int (0 : Int32))]) [1, 2, 3, 0] rfl ?_
    refine sX7_row_L77     fuel (0 : Int32) σ2 hr hσ2
  replace hr := ite_f hc hr
  refine r_iconst (pc := 31) (v := (0 : Int32)) dX7_row_31 rfl ?_
  exact l_osz hr (r_zret (pc := 32) (v := b2i false) (ty := .boolean) rfl (b2i_nar _) rfl ⟨Nat.le_refl _, Nat.le_refl _⟩ dX7_row_32)

theorem kX7_row {g : GG} {σ : SS} {a1 : Int32} {v : Bool} {σ2 : SS} {M : MM} {F : State → Array Value → List Frame → State → Prop} {pc index : Nat} {ls : List (Nat × Value)} {rest : List Value} (hf : fX7_row σ a1 = some (v, σ2))  (hl : Cond.methodLink M.1.cls index yX7_row ∈ lw_gt) (hR : mX7_row.2.2.2.2.frames + 1 ≤ M.2.2.2.2.frames ∧ 8 + (mX7_row.2.2.1 + 11) + mX7_row.2.2.2.2.locals ≤ M.2.2.2.2.locals) (hrest : (rest.map fun v => v.category).sum ≤ 8) (hd : decode M.2.1 pc = .ok (.invokevirtual index, 3)) (k : WT σ2 → RR g M F zF (pc + 3) ls (.int (b2i v) :: rest) σ2) : RR g M F zF pc ls (.int a1 :: .ref (ad g 1) :: rest) σ :=
  r_callV (z := zF) (N := mX7_row) (nn := 1) (o1 := some (.int (b2i v))) (sX7_row hf ) (rfl : shp 1 = (7, 0)) (by decide) (shp_le (rfl : shp 1 = (7, 0)) (nle rfl)) (ci := 7) rfl rfl tw_3_111 tw_1_1 hl tw_3_109 tw_3_110 ⟨by decide, by decide, rfl⟩ hR rfl hrest hd ⟨Nat.zero_le _, Nat.zero_le _⟩ rfl (fun h => k (h rfl))

theorem dX8_row_0 : decode cX8_row 0 = .ok (.iload_n 1, 1) := by decide +kernel
theorem dX8_row_1 : decode cX8_row 1 = .ok (.iconst 0, 1) := by decide +kernel
theorem dX8_row_2 : decode cX8_row 2 = .ok (.aload_n 0, 1) := by decide +kernel
theorem dX8_row_3 : decode cX8_row 3 = .ok (.getfield 136, 3) := by decide +kernel
theorem dX8_row_6 : decode cX8_row 6 = .ok (.iconst 1, 1) := by decide +kernel
theorem dX8_row_7 : decode cX8_row 7 = .ok (.isub, 1) := by decide +kernel
theorem dX8_row_8 : decode cX8_row 8 = .ok (.invokestatic 165, 3) := by decide +kernel
theorem dX8_row_11 : decode cX8_row 11 = .ok (.ifCond .eq 14, 3) := by decide +kernel
theorem dX8_row_14 : decode cX8_row 14 = .ok (.aload_n 0, 1) := by decide +kernel
theorem dX8_row_15 : decode cX8_row 15 = .ok (.getfield 142, 3) := by decide +kernel
theorem dX8_row_18 : decode cX8_row 18 = .ok (.aload_n 0, 1) := by decide +kernel
theorem dX8_row_19 : decode cX8_row 19 = .ok (.getfield 132, 3) := by decide +kernel
theorem dX8_row_22 : decode cX8_row 22 = .ok (.if_icmp .ge 5, 3) := by decide +kernel
theorem dX8_row_25 : decode cX8_row 25 = .ok (.iconst 0, 1) := by decide +kernel
theorem dX8_row_26 : decode cX8_row 26 = .ok (.ireturn, 1) := by decide +kernel
theorem dX8_row_27 : decode cX8_row 27 = .ok (.aload_n 0, 1) := by decide +kernel
theorem dX8_row_28 : decode cX8_row 28 = .ok (.iconst 0, 1) := by decide +kernel
theorem dX8_row_29 : decode cX8_row 29 = .ok (.putfield 142, 3) := by decide +kernel
theorem dX8_row_32 : decode cX8_row 32 = .ok (.iconst 0, 1) := by decide +kernel
theorem dX8_row_33 : decode cX8_row 33 = .ok (.istore_n 2, 1) := by decide +kernel
theorem dX8_row_34 : decode cX8_row 34 = .ok (.iload_n 2, 1) := by decide +kernel
theorem dX8_row_35 : decode cX8_row 35 = .ok (.aload_n 0, 1) := by decide +kernel
theorem dX8_row_36 : decode cX8_row 36 = .ok (.getfield 132, 3) := by decide +kernel
theorem dX8_row_39 : decode cX8_row 39 = .ok (.if_icmp .ge 27, 3) := by decide +kernel
theorem dX8_row_42 : decode cX8_row 42 = .ok (.aload_n 0, 1) := by decide +kernel
theorem dX8_row_43 : decode cX8_row 43 = .ok (.getfield 7, 3) := by decide +kernel
theorem dX8_row_46 : decode cX8_row 46 = .ok (.iload_n 2, 1) := by decide +kernel
theorem dX8_row_47 : decode cX8_row 47 = .ok (.baload, 1) := by decide +kernel
theorem dX8_row_48 : decode cX8_row 48 = .ok (.bipush 48, 2) := by decide +kernel
theorem dX8_row_50 : decode cX8_row 50 = .ok (.bipush 57, 2) := by decide +kernel
theorem dX8_row_52 : decode cX8_row 52 = .ok (.invokestatic 165, 3) := by decide +kernel
theorem dX8_row_55 : decode cX8_row 55 = .ok (.ifCond .ne 5, 3) := by decide +kernel
theorem dX8_row_58 : decode cX8_row 58 = .ok (.iconst 0, 1) := by decide +kernel
theorem dX8_row_59 : decode cX8_row 59 = .ok (.ireturn, 1) := by decide +kernel
theorem dX8_row_60 : decode cX8_row 60 = .ok (.iinc 2 1, 3) := by decide +kernel
theorem dX8_row_63 : decode cX8_row 63 = .ok (.goto (-29), 3) := by decide +kernel
theorem dX8_row_66 : decode cX8_row 66 = .ok (.iconst 0, 1) := by decide +kernel
theorem dX8_row_67 : decode cX8_row 67 = .ok (.istore_n 2, 1) := by decide +kernel
theorem dX8_row_68 : decode cX8_row 68 = .ok (.iload_n 2, 1) := by decide +kernel
theorem dX8_row_69 : decode cX8_row 69 = .ok (.aload_n 0, 1) := by decide +kernel
theorem dX8_row_70 : decode cX8_row 70 = .ok (.getfield 132, 3) := by decide +kernel
theorem dX8_row_73 : decode cX8_row 73 = .ok (.if_icmp .ge 31, 3) := by decide +kernel
theorem dX8_row_76 : decode cX8_row 76 = .ok (.aload_n 0, 1) := by decide +kernel
theorem dX8_row_77 : decode cX8_row 77 = .ok (.getfield 38, 3) := by decide +kernel
theorem dX8_row_80 : decode cX8_row 80 = .ok (.aload_n 0, 1) := by decide +kernel
theorem dX8_row_81 : decode cX8_row 81 = .ok (.getfield 132, 3) := by decide +kernel
theorem dX8_row_84 : decode cX8_row 84 = .ok (.iload_n 1, 1) := by decide +kernel
theorem dX8_row_85 : decode cX8_row 85 = .ok (.imul, 1) := by decide +kernel
theorem dX8_row_86 : decode cX8_row 86 = .ok (.iload_n 2, 1) := by decide +kernel
theorem dX8_row_87 : decode cX8_row 87 = .ok (.iadd, 1) := by decide +kernel
theorem dX8_row_88 : decode cX8_row 88 = .ok (.aload_n 0, 1) := by decide +kernel
theorem dX8_row_89 : decode cX8_row 89 = .ok (.getfield 7, 3) := by decide +kernel
theorem dX8_row_92 : decode cX8_row 92 = .ok (.iload_n 2, 1) := by decide +kernel
theorem dX8_row_93 : decode cX8_row 93 = .ok (.baload, 1) := by decide +kernel
theorem dX8_row_94 : decode cX8_row 94 = .ok (.bipush 48, 2) := by decide +kernel
theorem dX8_row_96 : decode cX8_row 96 = .ok (.isub, 1) := by decide +kernel
theorem dX8_row_97 : decode cX8_row 97 = .ok (.iastore, 1) := by decide +kernel
theorem dX8_row_98 : decode cX8_row 98 = .ok (.iinc 2 1, 3) := by decide +kernel
theorem dX8_row_101 : decode cX8_row 101 = .ok (.goto (-33), 3) := by decide +kernel
theorem dX8_row_104 : decode cX8_row 104 = .ok (.iconst 1, 1) := by decide +kernel
theorem dX8_row_105 : decode cX8_row 105 = .ok (.ireturn, 1) := by decide +kernel
def mX8_row : MM := (yX8_row, cX8_row, 3, Option.some Jvm.ClassFile.FieldType.boolean, { frames := 1, cells := 0, slots := 0, locals := 22 })
def X8_row_L34 (σ_ : SS)  (k66 : Unit → Option (Bool × SS)) : Nat → Int32 → Option (Bool × SS) :=
  lp (fun _ => none) fun rec v2_ =>
    if (gI σ_ 73 29) ≤ v2_ then (
      k66 ()
      ) else (
      grd (inb v2_ 480) <|
      if (fX8_in σ_ (gI σ_ 74 (Int32.toNatClampNeg v2_)) (48 : Int32) (57 : Int32)) = true then (
        rec (v2_ + (1 : Int32))
        ) else (
        some (false, σ_)
        )
      )

def X8_row_L68 (u1_ : Int32)  : Nat → Int32 → SS → Option (Bool × SS) :=
  lp (fun _ _ => none) fun rec v2_ σ_ =>
    if (gI σ_ 73 29) ≤ v2_ then (
      some (true, σ_)
      ) else (
      grd (inb v2_ 480) <|
      grd (inb (((gI σ_ 73 29) * u1_) + v2_) 1600) <|
      vthen (sI σ_ 83 (Int32.toNatClampNeg (((gI σ_ 73 29) * u1_) + v2_)) ((gI σ_ 74 (Int32.toNatClampNeg v2_)) - (48 : Int32))) fun σ5 =>
      rec (v2_ + (1 : Int32)) σ5
      )

def fX8_row (σ : SS) (a1 : Int32) : Option (Bool × SS) :=
  if (fX8_in σ a1 (0 : Int32) ((gI σ 73 30) - (1 : Int32))) = true then (
    if (gI σ 73 29) ≤ (gI σ 73 1) then (
      vthen (sI σ 73 1 (0 : Int32)) fun σ1 =>
      X8_row_L34 σ1
      (fun _ =>
        X8_row_L68 a1
        fuel (0 : Int32) σ1
        )
      fuel (0 : Int32)
      ) else (
      some (false, σ)
      )
    ) else (
    some (false, σ)
    )

set_option maxRecDepth 20000 in
theorem sX8_row_L34 {g : GG} {r : Bool × SS} {σ_ : SS} {x1_ : Int32} {k66 : Unit → Option (Bool × SS)} 
    (hw_ : WT σ_)
    (hk66 : k66 () = some r → RR g mX8_row (FinR g mX8_row (some (.int (b2i r.1))) NF r.2) zF 66 [(0, .ref (ad g 73)), (1, .int x1_)] [] σ_)
    (n : Nat) : ∀ (v2_ : Int32), X8_row_L34 σ_ k66 n v2_ = some r → RR g mX8_row (FinR g mX8_row (some (.int (b2i r.1))) NF r.2) zF 34 [(0, .ref (ad g 73)), (1, .int x1_), (2, .int v2_)] [] σ_ := by
  unfold X8_row_L34
  refine lp_ind (P := fun (rec : Int32 → Option (Bool × SS)) => ∀ (v2_ : Int32), rec v2_ = some r → RR g mX8_row (FinR g mX8_row (some (.int (b2i r.1))) NF r.2) zF 34 [(0, .ref (ad g 73)), (1, .int x1_), (2, .int v2_)] [] σ_) ?_ ?_ n
  · intro v2_ hr; cases hr
  intro rec ih v2_ hr
  refine r_iload_n (pc := 34) (j := 2) dX8_row_34 rfl rfl ?_
  refine r_aload_n (pc := 35) (j := 0) dX8_row_35 rfl rfl ?_
  refine gf8_29 (pc := 36) tw_5_123 rfl dX8_row_36 ?_
  refine r_icmp_ge (pc := 39) (tgt := 66) dX8_row_39 rfl (fun hc => ?_) (fun hc => ?_)
  · replace hr := ite_t hc hr
    exact r_pick (ls1 := [(0, .ref (ad g 73)), (1, .int x1_)]) [0, 1] rfl (hk66  hr)
  replace hr := ite_f hc hr
  refine r_aload_n (pc := 42) (j := 0) dX8_row_42 rfl rfl ?_
  refine gf8_0 (pc := 43) tw_5_94 hw_ dX8_row_43 ?_
  refine r_iload_n (pc := 46) (j := 2) dX8_row_46 rfl rfl ?_
  obtain ⟨h2, hr⟩ := grd_inv hr
  refine x_bald (pc := 47) (k := (Int32.toNatClampNeg v2_)) rfl h2 rfl dX8_row_47 ?_
  refine r_bipush (pc := 48) (v := (48 : Int32)) dX8_row_48 rfl ?_
  refine r_bipush (pc := 50) (v := (57 : Int32)) dX8_row_50 rfl ?_
  refine kX8_in (pc := 52) (hf := rfl) tw_6_65 ⟨nle rfl, nle rfl⟩ (nle rfl) dX8_row_52 ?_
  refine r_ifB_ne (pc := 55) (tgt := 60) dX8_row_55 rfl (fun hc => ?_) (fun hc => ?_)
  · replace hr := ite_t hc hr
    refine r_iinc (pc := 60) (j := 2) (v := (v2_ + (1 : Int32))) (ls1 := [(2, .int (v2_ + (1 : Int32))), (0, .ref (ad g 73)), (1, .int x1_)]) dX8_row_60 rfl rfl (nle rfl) rfl ?_
    refine r_goto (pc := 63) (tgt := 34) dX8_row_63 rfl ?_
    exact r_pick (ls1 := [(0, .ref (ad g 73)), (1, .int x1_), (2, .int (v2_ + (1 : Int32)))]) [1, 2, 0] rfl (ih (v2_ + (1 : Int32)) hr)
  replace hr := ite_f hc hr
  refine r_iconst (pc := 58) (v := (0 : Int32)) dX8_row_58 rfl ?_
  exact l_osz hr (r_zret (pc := 59) (v := b2i false) (ty := .boolean) rfl (b2i_nar _) rfl ⟨Nat.le_refl _, Nat.le_refl _⟩ dX8_row_59)

set_option maxRecDepth 20000 in
theorem sX8_row_L68 {g : GG} {r : Bool × SS} {u1_ : Int32}  
    (n : Nat) : ∀ (v2_ : Int32) (σ_ : SS), X8_row_L68 u1_ n v2_ σ_ = some r → WT σ_ → RR g mX8_row (FinR g mX8_row (some (.int (b2i r.1))) NF r.2) zF 68 [(0, .ref (ad g 73)), (1, .int u1_), (2, .int v2_)] [] σ_ := by
  unfold X8_row_L68
  refine lp_ind (P := fun (rec : Int32 → SS → Option (Bool × SS)) => ∀ (v2_ : Int32) (σ_ : SS), rec v2_ σ_ = some r → WT σ_ → RR g mX8_row (FinR g mX8_row (some (.int (b2i r.1))) NF r.2) zF 68 [(0, .ref (ad g 73)), (1, .int u1_), (2, .int v2_)] [] σ_) ?_ ?_ n
  · intro v2_ σ_ hr; cases hr
  intro rec ih v2_ σ_ hr hw_
  refine r_iload_n (pc := 68) (j := 2) dX8_row_68 rfl rfl ?_
  refine r_aload_n (pc := 69) (j := 0) dX8_row_69 rfl rfl ?_
  refine gf8_29 (pc := 70) tw_5_123 rfl dX8_row_70 ?_
  refine r_icmp_ge (pc := 73) (tgt := 104) dX8_row_73 rfl (fun hc => ?_) (fun hc => ?_)
  · replace hr := ite_t hc hr
    refine r_iconst (pc := 104) (v := (1 : Int32)) dX8_row_104 rfl ?_
    exact l_osz hr (r_zret (pc := 105) (v := b2i true) (ty := .boolean) rfl (b2i_nar _) rfl ⟨Nat.le_refl _, Nat.le_refl _⟩ dX8_row_105)
  replace hr := ite_f hc hr
  refine r_aload_n (pc := 76) (j := 0) dX8_row_76 rfl rfl ?_
  refine gf8_21 (pc := 77) tw_5_115 hw_ dX8_row_77 ?_
  refine r_aload_n (pc := 80) (j := 0) dX8_row_80 rfl rfl ?_
  refine gf8_29 (pc := 81) tw_5_123 rfl dX8_row_81 ?_
  refine r_iload_n (pc := 84) (j := 1) dX8_row_84 rfl rfl ?_
  refine r_imul (pc := 85) dX8_row_85 ?_
  refine r_iload_n (pc := 86) (j := 2) dX8_row_86 rfl rfl ?_
  refine r_iadd (pc := 87) dX8_row_87 ?_
  refine r_aload_n (pc := 88) (j := 0) dX8_row_88 rfl rfl ?_
  refine gf8_0 (pc := 89) tw_5_94 hw_ dX8_row_89 ?_
  refine r_iload_n (pc := 92) (j := 2) dX8_row_92 rfl rfl ?_
  obtain ⟨h3, hr⟩ := grd_inv hr
  refine x_bald (pc := 93) (k := (Int32.toNatClampNeg v2_)) rfl h3 rfl dX8_row_93 ?_
  refine r_bipush (pc := 94) (v := (48 : Int32)) dX8_row_94 rfl ?_
  refine r_isub (pc := 96) dX8_row_96 ?_
  obtain ⟨h4, hr⟩ := grd_inv hr
  refine x_iast (pc := 97) (j := (Int32.toNatClampNeg (((gI σ_ 73 29) * u1_) + v2_))) rfl h4 rfl dX8_row_97 fun σ5 eσ5 => ?_
  replace hr := vthen_inv hr σ5 eσ5
  have hσ5 := wtI eσ5 hw_
  refine r_iinc (pc := 98) (j := 2) (v := (v2_ + (1 : Int32))) (ls1 := [(2, .int (v2_ + (1 : Int32))), (0, .ref (ad g 73)), (1, .int u1_)]) dX8_row_98 rfl rfl (nle rfl) rfl ?_
  refine r_goto (pc := 101) (tgt := 68) dX8_row_101 rfl ?_
  exact r_pick (ls1 := [(0, .ref (ad g 73)), (1, .int u1_), (2, .int (v2_ + (1 : Int32)))]) [1, 2, 0] rfl (ih (v2_ + (1 : Int32)) σ5 hr hσ5)

set_option maxRecDepth 20000 in
theorem sX8_row {g : GG} {σ : SS} {a1 : Int32} {r : Bool × SS} (hr : fX8_row σ a1 = some r)  : Ct g mX8_row [.ref (ad g 73), .int a1] NF σ (some (.int (b2i r.1))) NF r.2 := by
  refine Ct.of (by decide +kernel) (nle rfl) fun hw0 => ?_
  have hw := hw0 rfl
  unfold fX8_row at hr
  change RR g mX8_row (FinR g mX8_row (some (.int (b2i r.1))) NF r.2) zF 0 [(0, .ref (ad g 73)), (1, .int a1)] [] σ
  refine r_iload_n (pc := 0) (j := 1) dX8_row_0 rfl rfl ?_
  refine r_iconst (pc := 1) (v := (0 : Int32)) dX8_row_1 rfl ?_
  refine r_aload_n (pc := 2) (j := 0) dX8_row_2 rfl rfl ?_
  refine gf8_30 (pc := 3) tw_5_124 rfl dX8_row_3 ?_
  refine r_iconst (pc := 6) (v := (1 : Int32)) dX8_row_6 rfl ?_
  refine r_isub (pc := 7) dX8_row_7 ?_
  refine kX8_in (pc := 8) (hf := rfl) tw_6_65 ⟨nle rfl, nle rfl⟩ (nle rfl) dX8_row_8 ?_
  refine r_ifB_eq (pc := 11) (tgt := 25) dX8_row_11 rfl (fun hc => ?_) (fun hc => ?_)
  · replace hr := ite_f hc hr
    refine r_iconst (pc := 25) (v := (0 : Int32)) dX8_row_25 rfl ?_
    exact l_osz hr (r_zret (pc := 26) (v := b2i false) (ty := .boolean) rfl (b2i_nar _) rfl ⟨Nat.le_refl _, Nat.le_refl _⟩ dX8_row_26)
  replace hr := ite_t hc hr
  refine r_aload_n (pc := 14) (j := 0) dX8_row_14 rfl rfl ?_
  refine gf8_1 (pc := 15) tw_5_95 rfl dX8_row_15 ?_
  refine r_aload_n (pc := 18) (j := 0) dX8_row_18 rfl rfl ?_
  refine gf8_29 (pc := 19) tw_5_123 rfl dX8_row_19 ?_
  refine r_icmp_ge (pc := 22) (tgt := 27) dX8_row_22 rfl (fun hc => ?_) (fun hc => ?_)
  · replace hr := ite_t hc hr
    refine r_aload_n (pc := 27) (j := 0) dX8_row_27 rfl rfl ?_
    refine r_iconst (pc := 28) (v := (0 : Int32)) dX8_row_28 rfl ?_
    refine pf8_1 (pc := 29) tw_5_95 rfl dX8_row_29 fun σ1 eσ1 => ?_
    replace hr := vthen_inv hr σ1 eσ1
    have hσ1 := wtI eσ1 hw
    refine r_iconst (pc := 32) (v := (0 : Int32)) dX8_row_32 rfl ?_
    refine r_istore_n (pc := 33) (ls1 := [(2, .int (0 : Int32)), (0, .ref (ad g 73)), (1, .int a1)]) dX8_row_33 rfl (nle rfl) rfl ?_
    refine r_pick (ls1 := [(0, .ref (ad g 73)), (1, .int a1), (2, .int (0 : Int32))]) [1, 2, 0] rfl ?_
    refine sX8_row_L34  hσ1  (fun hr => ?_) fuel (0 : Int32) hr
    refine r_iconst (pc := 66) (v := (0 : Int32)) dX8_row_66 rfl ?_
    refine r_istore_n (pc := 67) (ls1 := [(2, .int (0 : Int32)), (0, .ref (ad g 73)), (1, .int a1)]) dX8_row_67 rfl (nle rfl) rfl ?_
    refine r_pick (ls1 := [(0, .ref (ad g 73)), (1, .int a1), (2, .int (0 : Int32))]) [1, 2, 0] rfl ?_
    refine sX8_row_L68     fuel (0 : Int32) σ1 hr hσ1
  replace hr := ite_f hc hr
  refine r_iconst (pc := 25) (v := (0 : Int32)) dX8_row_25 rfl ?_
  exact l_osz hr (r_zret (pc := 26) (v := b2i false) (ty := .boolean) rfl (b2i_nar _) rfl ⟨Nat.le_refl _, Nat.le_refl _⟩ dX8_row_26)

theorem kX8_row {g : GG} {σ : SS} {a1 : Int32} {v : Bool} {σ2 : SS} {M : MM} {F : State → Array Value → List Frame → State → Prop} {pc index : Nat} {ls : List (Nat × Value)} {rest : List Value} (hf : fX8_row σ a1 = some (v, σ2))  (hl : Cond.methodLink M.1.cls index yX8_row ∈ lw_gt) (hR : mX8_row.2.2.2.2.frames + 1 ≤ M.2.2.2.2.frames ∧ 8 + (mX8_row.2.2.1 + 11) + mX8_row.2.2.2.2.locals ≤ M.2.2.2.2.locals) (hrest : (rest.map fun v => v.category).sum ≤ 8) (hd : decode M.2.1 pc = .ok (.invokevirtual index, 3)) (k : WT σ2 → RR g M F zF (pc + 3) ls (.int (b2i v) :: rest) σ2) : RR g M F zF pc ls (.int a1 :: .ref (ad g 73) :: rest) σ :=
  r_callV (z := zF) (N := mX8_row) (nn := 1) (o1 := some (.int (b2i v))) (sX8_row hf ) (rfl : shp 73 = (8, 0)) (by decide) (shp_le (rfl : shp 73 = (8, 0)) (nle rfl)) (ci := 8) rfl rfl tw_6_168 tw_1_10 hl tw_6_166 tw_6_167 ⟨by decide, by decide, rfl⟩ hR rfl hrest hd ⟨Nat.zero_le _, Nat.zero_le _⟩ rfl (fun h => k (h rfl))

theorem dX7_isPiece_0 : decode cX7_isPiece 0 = .ok (.iload_n 0, 1) := by decide +kernel
theorem dX7_isPiece_1 : decode cX7_isPiece 1 = .ok (.iconst 1, 1) := by decide +kernel
theorem dX7_isPiece_2 : decode cX7_isPiece 2 = .ok (.if_icmp .lt 24, 3) := by decide +kernel
theorem dX7_isPiece_5 : decode cX7_isPiece 5 = .ok (.iload_n 0, 1) := by decide +kernel
theorem dX7_isPiece_6 : decode cX7_isPiece 6 = .ok (.bipush 40, 2) := by decide +kernel
theorem dX7_isPiece_8 : decode cX7_isPiece 8 = .ok (.if_icmp .gt 18, 3) := by decide +kernel
theorem dX7_isPiece_11 : decode cX7_isPiece 11 = .ok (.iload_n 1, 1) := by decide +kernel
theorem dX7_isPiece_12 : decode cX7_isPiece 12 = .ok (.iconst 1, 1) := by decide +kernel
theorem dX7_isPiece_13 : decode cX7_isPiece 13 = .ok (.if_icmp .lt 13, 3) := by decide +kernel
theorem dX7_isPiece_16 : decode cX7_isPiece 16 = .ok (.iload_n 1, 1) := by decide +kernel
theorem dX7_isPiece_17 : decode cX7_isPiece 17 = .ok (.bipush 40, 2) := by decide +kernel
theorem dX7_isPiece_19 : decode cX7_isPiece 19 = .ok (.if_icmp .gt 7, 3) := by decide +kernel
theorem dX7_isPiece_22 : decode cX7_isPiece 22 = .ok (.iconst 1, 1) := by decide +kernel
theorem dX7_isPiece_23 : decode cX7_isPiece 23 = .ok (.goto 4, 3) := by decide +kernel
theorem dX7_isPiece_26 : decode cX7_isPiece 26 = .ok (.iconst 0, 1) := by decide +kernel
theorem dX7_isPiece_27 : decode cX7_isPiece 27 = .ok (.ireturn, 1) := by decide +kernel
def mX7_isPiece : MM := (yX7_isPiece, cX7_isPiece, 2, Option.some Jvm.ClassFile.FieldType.boolean, { frames := 0, cells := 0, slots := 0, locals := 0 })
def fX7_isPiece (σ0 : SS) (a0 : Int32) (a1 : Int32) : Bool :=
  vthen (fun (_u : Unit) =>
    false
    ) fun j26 =>
  if a0 < (1 : Int32) then (
    j26 ()
    ) else (
    if (40 : Int32) < a0 then (
      j26 ()
      ) else (
      if a1 < (1 : Int32) then (
        j26 ()
        ) else (
        if (40 : Int32) < a1 then (
          j26 ()
          ) else (
          true
          )
        )
      )
    )

set_option maxRecDepth 20000 in
theorem sX7_isPiece {g : GG} {σ0 : SS} {a0 : Int32} {a1 : Int32} {r : Bool} (hr : fX7_isPiece σ0 a0 a1 = r)  : Ct g mX7_isPiece [.int a0, .int a1] NF σ0 (some (.int (b2i r))) NF σ0 := by
  refine Ct.of (by decide +kernel) (nle rfl) fun hw0 => ?_
  have hw := hw0 rfl
  unfold fX7_isPiece at hr
  change RR g mX7_isPiece (FinR g mX7_isPiece (some (.int (b2i r))) NF σ0) zF 0 [(0, .int a0), (1, .int a1)] [] σ0
  refine r_iload_n (pc := 0) (j := 0) dX7_isPiece_0 rfl rfl ?_
  refine r_iconst (pc := 1) (v := (1 : Int32)) dX7_isPiece_1 rfl ?_
  obtain ⟨j26, ej26, hr⟩ := vth_ex hr
  have hj26 : j26 () = r → RR g mX7_isPiece (FinR g mX7_isPiece (some (.int (b2i r))) NF σ0) zF 26 [] [] σ0 := by
    intro  hr
    replace hr := (congrFun ej26 ()).symm.trans hr
    refine r_iconst (pc := 26) (v := (0 : Int32)) dX7_isPiece_26 rfl ?_
    exact l_pz hr (r_zret (pc := 27) (v := b2i false) (ty := .boolean) rfl (b2i_nar _) rfl ⟨Nat.le_refl _, Nat.le_refl _⟩ dX7_isPiece_27)
  refine r_icmp_lt (pc := 2) (tgt := 26) dX7_isPiece_2 rfl (fun hc => ?_) (fun hc => ?_)
  · replace hr := ite_t hc hr
    exact r_pick (ls1 := []) [] rfl (hj26  hr)
  replace hr := ite_f hc hr
  refine r_iload_n (pc := 5) (j := 0) dX7_isPiece_5 rfl rfl ?_
  refine r_bipush (pc := 6) (v := (40 : Int32)) dX7_isPiece_6 rfl ?_
  refine r_icmp_gt (pc := 8) (tgt := 26) dX7_isPiece_8 rfl (fun hc => ?_) (fun hc => ?_)
  · replace hr := ite_t hc hr
    exact r_pick (ls1 := []) [] rfl (hj26  hr)
  replace hr := ite_f hc hr
  refine r_iload_n (pc := 11) (j := 1) dX7_isPiece_11 rfl rfl ?_
  refine r_iconst (pc := 12) (v := (1 : Int32)) dX7_isPiece_12 rfl ?_
  refine r_icmp_lt (pc := 13) (tgt := 26) dX7_isPiece_13 rfl (fun hc => ?_) (fun hc => ?_)
  · replace hr := ite_t hc hr
    exact r_pick (ls1 := []) [] rfl (hj26  hr)
  replace hr := ite_f hc hr
  refine r_iload_n (pc := 16) (j := 1) dX7_isPiece_16 rfl rfl ?_
  refine r_bipush (pc := 17) (v := (40 : Int32)) dX7_isPiece_17 rfl ?_
  refine r_icmp_gt (pc := 19) (tgt := 26) dX7_isPiece_19 rfl (fun hc => ?_) (fun hc => ?_)
  · replace hr := ite_t hc hr
    exact r_pick (ls1 := []) [] rfl (hj26  hr)
  replace hr := ite_f hc hr
  refine r_iconst (pc := 22) (v := (1 : Int32)) dX7_isPiece_22 rfl ?_
  refine r_goto (pc := 23) (tgt := 27) dX7_isPiece_23 rfl ?_
  exact l_pz hr (r_zret (pc := 27) (v := b2i true) (ty := .boolean) rfl (b2i_nar _) rfl ⟨Nat.le_refl _, Nat.le_refl _⟩ dX7_isPiece_27)

theorem kX7_isPiece {g : GG} {σ0 : SS} {a0 : Int32} {a1 : Int32} {v : Bool} {M : MM} {F : State → Array Value → List Frame → State → Prop} {pc index : Nat} {ls : List (Nat × Value)} {rest : List Value} (hf : fX7_isPiece σ0 a0 a1 = v)  (hl : Cond.methodLink M.1.cls index yX7_isPiece ∈ lw_gt) (hR : mX7_isPiece.2.2.2.2.frames + 1 ≤ M.2.2.2.2.frames ∧ 8 + (mX7_isPiece.2.2.1 + 11) + mX7_isPiece.2.2.2.2.locals ≤ M.2.2.2.2.locals) (hrest : (rest.map fun v => v.category).sum ≤ 8) (hd : decode M.2.1 pc = .ok (.invokestatic index, 3)) (k : RR g M F zF (pc + 3) ls (.int (b2i v) :: rest) σ0) : RR g M F zF pc ls (.int a1 :: .int a0 :: rest) σ0 :=
  r_callS (z := zF) (N := mX7_isPiece) (nn := 2) (o1 := some (.int (b2i v))) (sX7_isPiece hf ) tw_3_126 tw_1_1 hl tw_3_125 ⟨by decide, by decide, rfl⟩ hR rfl hrest hd ⟨Nat.zero_le _, Nat.zero_le _⟩ rfl (fun h => k)

