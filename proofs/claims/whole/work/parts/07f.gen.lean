/-! Walks written by a program out of the bytecode: each method as a function over the store, and its contract. -/
theorem dX8_maps_0 : decode cX8_maps 0 = .ok (.iconst 2, 1) := by decide +kernel
theorem dX8_maps_1 : decode cX8_maps 1 = .ok (.aload_n 0, 1) := by decide +kernel
theorem dX8_maps_2 : decode cX8_maps 2 = .ok (.iconst 0, 1) := by decide +kernel
theorem dX8_maps_3 : decode cX8_maps 3 = .ok (.invokevirtual 262, 3) := by decide +kernel
theorem dX8_maps_6 : decode cX8_maps 6 = .ok (.imul, 1) := by decide +kernel
theorem dX8_maps_7 : decode cX8_maps 7 = .ok (.iload_n 1, 1) := by decide +kernel
theorem dX8_maps_8 : decode cX8_maps 8 = .ok (.isub, 1) := by decide +kernel
theorem dX8_maps_9 : decode cX8_maps 9 = .ok (.i2l, 1) := by decide +kernel
theorem dX8_maps_10 : decode cX8_maps 10 = .ok (.lstore 4, 2) := by decide +kernel
theorem dX8_maps_12 : decode cX8_maps 12 = .ok (.iconst 2, 1) := by decide +kernel
theorem dX8_maps_13 : decode cX8_maps 13 = .ok (.aload_n 0, 1) := by decide +kernel
theorem dX8_maps_14 : decode cX8_maps 14 = .ok (.iconst 1, 1) := by decide +kernel
theorem dX8_maps_15 : decode cX8_maps 15 = .ok (.invokevirtual 262, 3) := by decide +kernel
theorem dX8_maps_18 : decode cX8_maps 18 = .ok (.imul, 1) := by decide +kernel
theorem dX8_maps_19 : decode cX8_maps 19 = .ok (.iload_n 2, 1) := by decide +kernel
theorem dX8_maps_20 : decode cX8_maps 20 = .ok (.isub, 1) := by decide +kernel
theorem dX8_maps_21 : decode cX8_maps 21 = .ok (.i2l, 1) := by decide +kernel
theorem dX8_maps_22 : decode cX8_maps 22 = .ok (.lstore 6, 2) := by decide +kernel
theorem dX8_maps_24 : decode cX8_maps 24 = .ok (.aload_n 0, 1) := by decide +kernel
theorem dX8_maps_25 : decode cX8_maps 25 = .ok (.getfield 105, 3) := by decide +kernel
theorem dX8_maps_28 : decode cX8_maps 28 = .ok (.iconst 0, 1) := by decide +kernel
theorem dX8_maps_29 : decode cX8_maps 29 = .ok (.laload, 1) := by decide +kernel
theorem dX8_maps_30 : decode cX8_maps 30 = .ok (.aload_n 0, 1) := by decide +kernel
theorem dX8_maps_31 : decode cX8_maps 31 = .ok (.getfield 105, 3) := by decide +kernel
theorem dX8_maps_34 : decode cX8_maps 34 = .ok (.iconst 1, 1) := by decide +kernel
theorem dX8_maps_35 : decode cX8_maps 35 = .ok (.laload, 1) := by decide +kernel
theorem dX8_maps_36 : decode cX8_maps 36 = .ok (.lmul, 1) := by decide +kernel
theorem dX8_maps_37 : decode cX8_maps 37 = .ok (.aload_n 0, 1) := by decide +kernel
theorem dX8_maps_38 : decode cX8_maps 38 = .ok (.getfield 105, 3) := by decide +kernel
theorem dX8_maps_41 : decode cX8_maps 41 = .ok (.iconst 2, 1) := by decide +kernel
theorem dX8_maps_42 : decode cX8_maps 42 = .ok (.laload, 1) := by decide +kernel
theorem dX8_maps_43 : decode cX8_maps 43 = .ok (.lmul, 1) := by decide +kernel
theorem dX8_maps_44 : decode cX8_maps 44 = .ok (.aload_n 0, 1) := by decide +kernel
theorem dX8_maps_45 : decode cX8_maps 45 = .ok (.getfield 105, 3) := by decide +kernel
theorem dX8_maps_48 : decode cX8_maps 48 = .ok (.iconst 3, 1) := by decide +kernel
theorem dX8_maps_49 : decode cX8_maps 49 = .ok (.laload, 1) := by decide +kernel
theorem dX8_maps_50 : decode cX8_maps 50 = .ok (.lmul, 1) := by decide +kernel
theorem dX8_maps_51 : decode cX8_maps 51 = .ok (.lstore 8, 2) := by decide +kernel
theorem dX8_maps_53 : decode cX8_maps 53 = .ok (.aload_n 0, 1) := by decide +kernel
theorem dX8_maps_54 : decode cX8_maps 54 = .ok (.lconst 0, 1) := by decide +kernel
theorem dX8_maps_55 : decode cX8_maps 55 = .ok (.putfield 345, 3) := by decide +kernel
theorem dX8_maps_58 : decode cX8_maps 58 = .ok (.iconst 0, 1) := by decide +kernel
theorem dX8_maps_59 : decode cX8_maps 59 = .ok (.istore 10, 2) := by decide +kernel
theorem dX8_maps_61 : decode cX8_maps 61 = .ok (.iload 10, 2) := by decide +kernel
theorem dX8_maps_63 : decode cX8_maps 63 = .ok (.iconst 4, 1) := by decide +kernel
theorem dX8_maps_64 : decode cX8_maps 64 = .ok (.if_icmp .ge 83, 3) := by decide +kernel
theorem dX8_maps_67 : decode cX8_maps 67 = .ok (.iload 10, 2) := by decide +kernel
theorem dX8_maps_69 : decode cX8_maps 69 = .ok (.iconst 2, 1) := by decide +kernel
theorem dX8_maps_70 : decode cX8_maps 70 = .ok (.irem, 1) := by decide +kernel
theorem dX8_maps_71 : decode cX8_maps 71 = .ok (.ifCond .ne 8, 3) := by decide +kernel
theorem dX8_maps_74 : decode cX8_maps 74 = .ok (.lload 4, 2) := by decide +kernel
theorem dX8_maps_76 : decode cX8_maps 76 = .ok (.goto 5, 3) := by decide +kernel
theorem dX8_maps_79 : decode cX8_maps 79 = .ok (.iload_n 1, 1) := by decide +kernel
theorem dX8_maps_80 : decode cX8_maps 80 = .ok (.i2l, 1) := by decide +kernel
theorem dX8_maps_81 : decode cX8_maps 81 = .ok (.iload 10, 2) := by decide +kernel
theorem dX8_maps_83 : decode cX8_maps 83 = .ok (.iconst 2, 1) := by decide +kernel
theorem dX8_maps_84 : decode cX8_maps 84 = .ok (.if_icmp .ge 8, 3) := by decide +kernel
theorem dX8_maps_87 : decode cX8_maps 87 = .ok (.lload 6, 2) := by decide +kernel
theorem dX8_maps_89 : decode cX8_maps 89 = .ok (.goto 5, 3) := by decide +kernel
theorem dX8_maps_92 : decode cX8_maps 92 = .ok (.iload_n 2, 1) := by decide +kernel
theorem dX8_maps_93 : decode cX8_maps 93 = .ok (.i2l, 1) := by decide +kernel
theorem dX8_maps_94 : decode cX8_maps 94 = .ok (.lmul, 1) := by decide +kernel
theorem dX8_maps_95 : decode cX8_maps 95 = .ok (.lstore 11, 2) := by decide +kernel
theorem dX8_maps_97 : decode cX8_maps 97 = .ok (.aload_n 0, 1) := by decide +kernel
theorem dX8_maps_98 : decode cX8_maps 98 = .ok (.aload_n 0, 1) := by decide +kernel
theorem dX8_maps_99 : decode cX8_maps 99 = .ok (.getfield 345, 3) := by decide +kernel
theorem dX8_maps_102 : decode cX8_maps 102 = .ok (.lload 11, 2) := by decide +kernel
theorem dX8_maps_104 : decode cX8_maps 104 = .ok (.iload_n 3, 1) := by decide +kernel
theorem dX8_maps_105 : decode cX8_maps 105 = .ok (.ifCond .eq 13, 3) := by decide +kernel
theorem dX8_maps_108 : decode cX8_maps 108 = .ok (.aload_n 0, 1) := by decide +kernel
theorem dX8_maps_109 : decode cX8_maps 109 = .ok (.getfield 98, 3) := by decide +kernel
theorem dX8_maps_112 : decode cX8_maps 112 = .ok (.iload 10, 2) := by decide +kernel
theorem dX8_maps_114 : decode cX8_maps 114 = .ok (.laload, 1) := by decide +kernel
theorem dX8_maps_115 : decode cX8_maps 115 = .ok (.goto 10, 3) := by decide +kernel
theorem dX8_maps_118 : decode cX8_maps 118 = .ok (.aload_n 0, 1) := by decide +kernel
theorem dX8_maps_119 : decode cX8_maps 119 = .ok (.getfield 102, 3) := by decide +kernel
theorem dX8_maps_122 : decode cX8_maps 122 = .ok (.iload 10, 2) := by decide +kernel
theorem dX8_maps_124 : decode cX8_maps 124 = .ok (.laload, 1) := by decide +kernel
theorem dX8_maps_125 : decode cX8_maps 125 = .ok (.lmul, 1) := by decide +kernel
theorem dX8_maps_126 : decode cX8_maps 126 = .ok (.lload 8, 2) := by decide +kernel
theorem dX8_maps_128 : decode cX8_maps 128 = .ok (.aload_n 0, 1) := by decide +kernel
theorem dX8_maps_129 : decode cX8_maps 129 = .ok (.getfield 105, 3) := by decide +kernel
theorem dX8_maps_132 : decode cX8_maps 132 = .ok (.iload 10, 2) := by decide +kernel
theorem dX8_maps_134 : decode cX8_maps 134 = .ok (.laload, 1) := by decide +kernel
theorem dX8_maps_135 : decode cX8_maps 135 = .ok (.ldiv, 1) := by decide +kernel
theorem dX8_maps_136 : decode cX8_maps 136 = .ok (.lmul, 1) := by decide +kernel
theorem dX8_maps_137 : decode cX8_maps 137 = .ok (.ladd, 1) := by decide +kernel
theorem dX8_maps_138 : decode cX8_maps 138 = .ok (.putfield 345, 3) := by decide +kernel
theorem dX8_maps_141 : decode cX8_maps 141 = .ok (.iinc 10 1, 3) := by decide +kernel
theorem dX8_maps_144 : decode cX8_maps 144 = .ok (.goto (-83), 3) := by decide +kernel
theorem dX8_maps_147 : decode cX8_maps 147 = .ok (.aload_n 0, 1) := by decide +kernel
theorem dX8_maps_148 : decode cX8_maps 148 = .ok (.ldc2_w 348, 3) := by decide +kernel
theorem dX8_maps_151 : decode cX8_maps 151 = .ok (.aload_n 0, 1) := by decide +kernel
theorem dX8_maps_152 : decode cX8_maps 152 = .ok (.iconst 0, 1) := by decide +kernel
theorem dX8_maps_153 : decode cX8_maps 153 = .ok (.invokevirtual 262, 3) := by decide +kernel
theorem dX8_maps_156 : decode cX8_maps 156 = .ok (.i2l, 1) := by decide +kernel
theorem dX8_maps_157 : decode cX8_maps 157 = .ok (.lmul, 1) := by decide +kernel
theorem dX8_maps_158 : decode cX8_maps 158 = .ok (.aload_n 0, 1) := by decide +kernel
theorem dX8_maps_159 : decode cX8_maps 159 = .ok (.iconst 1, 1) := by decide +kernel
theorem dX8_maps_160 : decode cX8_maps 160 = .ok (.invokevirtual 262, 3) := by decide +kernel
theorem dX8_maps_163 : decode cX8_maps 163 = .ok (.i2l, 1) := by decide +kernel
theorem dX8_maps_164 : decode cX8_maps 164 = .ok (.lmul, 1) := by decide +kernel
theorem dX8_maps_165 : decode cX8_maps 165 = .ok (.lload 8, 2) := by decide +kernel
theorem dX8_maps_167 : decode cX8_maps 167 = .ok (.lmul, 1) := by decide +kernel
theorem dX8_maps_168 : decode cX8_maps 168 = .ok (.putfield 350, 3) := by decide +kernel
theorem dX8_maps_171 : decode cX8_maps 171 = .ok (.return_, 1) := by decide +kernel
def mX8_maps : MM := (yX8_maps, cX8_maps, 13, none, { frames := 1, cells := 0, slots := 0, locals := 21 })
def X8_maps_L61 (u1_ : Int32) (u2_ : Int32) (u3_ : Bool) (u4_ : Int64) (u6_ : Int64) (u8_ : Int64) (k147 : SS → Option SS) : Nat → Int32 → SS → Option SS :=
  lp (fun _ _ => none) fun rec v10_ σ_ =>
    if (4 : Int32) ≤ v10_ then (
      k147 σ_
      ) else (
      vthen (fun (s11 : Int64) =>
        vthen (fun (s12 : Int64) =>
          vthen (s11 * s12) fun w13 =>
          vthen (fun (s14 : Int64) =>
            grd (inb v10_ 4) <|
            grd (nzl (gL σ_ 105 (Int32.toNatClampNeg v10_))) <|
            vthen (sL σ_ 73 50 ((gL σ_ 73 50) + ((w13 * s14) * (u8_ / (gL σ_ 105 (Int32.toNatClampNeg v10_)))))) fun σ17 =>
            rec (v10_ + (1 : Int32)) σ17
            ) fun j125 =>
          if u3_ = true then (
            grd (inb v10_ 4) <|
            j125 (gL σ_ 103 (Int32.toNatClampNeg v10_))
            ) else (
            grd (inb v10_ 4) <|
            j125 (gL σ_ 104 (Int32.toNatClampNeg v10_))
            )
          ) fun j94 =>
        if (2 : Int32) ≤ v10_ then (
          j94 (Int32.toInt64 u2_)
          ) else (
          j94 u6_
          )
        ) fun j81 =>
      if (irm v10_ (2 : Int32)) = 0 then (
        j81 u4_
        ) else (
        j81 (Int32.toInt64 u1_)
        )
      )

def fX8_maps (σ : SS) (a1 : Int32) (a2 : Int32) (a3 : Bool) : Option SS :=
  bnd1 (fX8_headOf σ (0 : Int32)) fun v1 =>
  vthen (Int32.toInt64 (((2 : Int32) * v1) - a1)) fun w4 =>
  bnd1 (fX8_headOf σ (1 : Int32)) fun v5 =>
  vthen (Int32.toInt64 (((2 : Int32) * v5) - a2)) fun w8 =>
  vthen ((((gL σ 105 0) * (gL σ 105 1)) * (gL σ 105 2)) * (gL σ 105 3)) fun w9 =>
  vthen (sL σ 73 50 (0 : Int64)) fun σ10 =>
  X8_maps_L61 a1 a2 a3 w4 w8 w9
  (fun σ20 =>
    bnd1 (fX8_headOf σ20 (0 : Int32)) fun v21 =>
    bnd1 (fX8_headOf σ20 (1 : Int32)) fun v24 =>
    vthen (sL σ20 73 51 ((((4 : Int64) * (Int32.toInt64 v21)) * (Int32.toInt64 v24)) * w9)) fun σ27 =>
    some σ27
    )
  fuel (0 : Int32) σ10

set_option maxRecDepth 20000 in
theorem sX8_maps_L61 {g : GG} {r : SS} {u1_ : Int32} {u2_ : Int32} {u3_ : Bool} {u4_ : Int64} {u6_ : Int64} {u8_ : Int64} {k147 : SS → Option SS} 
    (hk147 : ∀ (σ_ : SS), k147 σ_ = some r → WT σ_ → RR g mX8_maps (FinR g mX8_maps none NF r) zF 147 [(0, .ref (ad g 73)), (8, .long u8_)] [] σ_)
    (n : Nat) : ∀ (v10_ : Int32) (σ_ : SS), X8_maps_L61 u1_ u2_ u3_ u4_ u6_ u8_ k147 n v10_ σ_ = some r → WT σ_ → RR g mX8_maps (FinR g mX8_maps none NF r) zF 61 [(0, .ref (ad g 73)), (1, .int u1_), (2, .int u2_), (3, .int (b2i u3_)), (4, .long u4_), (6, .long u6_), (8, .long u8_), (10, .int v10_)] [] σ_ := by
  unfold X8_maps_L61
  refine lp_ind (P := fun (rec : Int32 → SS → Option SS) => ∀ (v10_ : Int32) (σ_ : SS), rec v10_ σ_ = some r → WT σ_ → RR g mX8_maps (FinR g mX8_maps none NF r) zF 61 [(0, .ref (ad g 73)), (1, .int u1_), (2, .int u2_), (3, .int (b2i u3_)), (4, .long u4_), (6, .long u6_), (8, .long u8_), (10, .int v10_)] [] σ_) ?_ ?_ n
  · intro v10_ σ_ hr; cases hr
  intro rec ih v10_ σ_ hr hw_
  refine r_iload (pc := 61) (j := 7) dX8_maps_61 rfl ?_
  refine r_iconst (pc := 63) (v := (4 : Int32)) dX8_maps_63 rfl ?_
  refine r_icmp_ge (pc := 64) (tgt := 147) dX8_maps_64 rfl (fun hc => ?_) (fun hc => ?_)
  · replace hr := ite_t hc hr
    exact r_pick (ls1 := [(0, .ref (ad g 73)), (8, .long u8_)]) [0, 6] rfl (hk147 σ_ hr hw_)
  replace hr := ite_f hc hr
  refine r_iload (pc := 67) (j := 7) dX8_maps_67 rfl ?_
  refine r_iconst (pc := 69) (v := (2 : Int32)) dX8_maps_69 rfl ?_
  refine r_irem (pc := 70) dX8_maps_70 (by decide) ?_
  obtain ⟨j81, ej81, hr⟩ := vth_ex hr
  have hj81 : ∀ (s11 : Int64), j81 s11 = some r → RR g mX8_maps (FinR g mX8_maps none NF r) zF 81 [(0, .ref (ad g 73)), (1, .int u1_), (2, .int u2_), (3, .int (b2i u3_)), (4, .long u4_), (6, .long u6_), (8, .long u8_), (10, .int v10_)] [.long s11] σ_ := by
    intro s11 hr
    replace hr := (congrFun ej81 s11).symm.trans hr
    refine r_iload (pc := 81) (j := 7) dX8_maps_81 rfl ?_
    refine r_iconst (pc := 83) (v := (2 : Int32)) dX8_maps_83 rfl ?_
    obtain ⟨j94, ej94, hr⟩ := vth_ex hr
    have hj94 : ∀ (s12 : Int64), j94 s12 = some r → RR g mX8_maps (FinR g mX8_maps none NF r) zF 94 [(0, .ref (ad g 73)), (1, .int u1_), (2, .int u2_), (3, .int (b2i u3_)), (4, .long u4_), (6, .long u6_), (8, .long u8_), (10, .int v10_)] [.long s12, .long s11] σ_ := by
      intro s12 hr
      replace hr := (congrFun ej94 s12).symm.trans hr
      refine r_lmul (pc := 94) dX8_maps_94 ?_
      refine r_topl fun w13 ew13 => ?_
      replace hr := vthen_inv hr w13 ew13
      refine r_lstore (pc := 95) (ls1 := [(11, .long w13), (0, .ref (ad g 73)), (1, .int u1_), (2, .int u2_), (3, .int (b2i u3_)), (4, .long u4_), (6, .long u6_), (8, .long u8_), (10, .int v10_)]) dX8_maps_95 (nle rfl) rfl ?_
      refine r_aload_n (pc := 97) (j := 1) dX8_maps_97 rfl rfl ?_
      refine r_aload_n (pc := 98) (j := 1) dX8_maps_98 rfl rfl ?_
      refine gf8_50 (pc := 99) tw_5_144 rfl dX8_maps_99 ?_
      refine r_lload (pc := 102) (j := 0) dX8_maps_102 rfl ?_
      refine r_iload_n (pc := 104) (j := 4) dX8_maps_104 rfl rfl ?_
      obtain ⟨j125, ej125, hr⟩ := vth_ex hr
      have hj125 : ∀ (s14 : Int64), j125 s14 = some r → RR g mX8_maps (FinR g mX8_maps none NF r) zF 125 [(0, .ref (ad g 73)), (1, .int u1_), (2, .int u2_), (3, .int (b2i u3_)), (4, .long u4_), (6, .long u6_), (8, .long u8_), (10, .int v10_)] [.long s14, .long w13, .long (gL σ_ 73 50), .ref (ad g 73)] σ_ := by
        intro s14 hr
        replace hr := (congrFun ej125 s14).symm.trans hr
        refine r_lmul (pc := 125) dX8_maps_125 ?_
        refine r_lload (pc := 126) (j := 6) dX8_maps_126 rfl ?_
        refine r_aload_n (pc := 128) (j := 0) dX8_maps_128 rfl rfl ?_
        refine gf8_48 (pc := 129) tw_5_142 hw_ dX8_maps_129 ?_
        refine r_iload (pc := 132) (j := 7) dX8_maps_132 rfl ?_
        obtain ⟨h15, hr⟩ := grd_inv hr
        refine x_lald (pc := 134) (k := (Int32.toNatClampNeg v10_)) rfl h15 rfl dX8_maps_134 ?_
        obtain ⟨h16, hr⟩ := grd_inv hr
        refine r_ldiv (pc := 135) dX8_maps_135 (nzl_ne h16) ?_
        refine r_lmul (pc := 136) dX8_maps_136 ?_
        refine r_ladd (pc := 137) dX8_maps_137 ?_
        refine pf8_50 (pc := 138) tw_5_144 rfl dX8_maps_138 fun σ17 eσ17 => ?_
        replace hr := vthen_inv hr σ17 eσ17
        have hσ17 := wtL eσ17 hw_
        refine r_iinc (pc := 141) (j := 7) (v := (v10_ + (1 : Int32))) (ls1 := [(10, .int (v10_ + (1 : Int32))), (0, .ref (ad g 73)), (1, .int u1_), (2, .int u2_), (3, .int (b2i u3_)), (4, .long u4_), (6, .long u6_), (8, .long u8_)]) dX8_maps_141 rfl rfl (nle rfl) rfl ?_
        refine r_goto (pc := 144) (tgt := 61) dX8_maps_144 rfl ?_
        exact r_pick (ls1 := [(0, .ref (ad g 73)), (1, .int u1_), (2, .int u2_), (3, .int (b2i u3_)), (4, .long u4_), (6, .long u6_), (8, .long u8_), (10, .int (v10_ + (1 : Int32)))]) [1, 2, 3, 4, 5, 6, 7, 0] rfl (ih (v10_ + (1 : Int32)) σ17 hr hσ17)
      refine r_ifB_eq (pc := 105) (tgt := 118) dX8_maps_105 rfl (fun hc => ?_) (fun hc => ?_)
      · replace hr := ite_f hc hr
        refine r_aload_n (pc := 118) (j := 1) dX8_maps_118 rfl rfl ?_
        refine gf8_47 (pc := 119) tw_5_141 hw_ dX8_maps_119 ?_
        refine r_iload (pc := 122) (j := 8) dX8_maps_122 rfl ?_
        obtain ⟨h18, hr⟩ := grd_inv hr
        refine x_lald (pc := 124) (k := (Int32.toNatClampNeg v10_)) rfl h18 rfl dX8_maps_124 ?_
        exact r_pick (ls1 := [(0, .ref (ad g 73)), (1, .int u1_), (2, .int u2_), (3, .int (b2i u3_)), (4, .long u4_), (6, .long u6_), (8, .long u8_), (10, .int v10_)]) [1, 2, 3, 4, 5, 6, 7, 8] rfl (hj125 (gL σ_ 104 (Int32.toNatClampNeg v10_)) hr)
      replace hr := ite_t hc hr
      refine r_aload_n (pc := 108) (j := 1) dX8_maps_108 rfl rfl ?_
      refine gf8_46 (pc := 109) tw_5_140 hw_ dX8_maps_109 ?_
      refine r_iload (pc := 112) (j := 8) dX8_maps_112 rfl ?_
      obtain ⟨h19, hr⟩ := grd_inv hr
      refine x_lald (pc := 114) (k := (Int32.toNatClampNeg v10_)) rfl h19 rfl dX8_maps_114 ?_
      refine r_goto (pc := 115) (tgt := 125) dX8_maps_115 rfl ?_
      exact r_pick (ls1 := [(0, .ref (ad g 73)), (1, .int u1_), (2, .int u2_), (3, .int (b2i u3_)), (4, .long u4_), (6, .long u6_), (8, .long u8_), (10, .int v10_)]) [1, 2, 3, 4, 5, 6, 7, 8] rfl (hj125 (gL σ_ 103 (Int32.toNatClampNeg v10_)) hr)
    refine r_icmp_ge (pc := 84) (tgt := 92) dX8_maps_84 rfl (fun hc => ?_) (fun hc => ?_)
    · replace hr := ite_t hc hr
      refine r_iload_n (pc := 92) (j := 2) dX8_maps_92 rfl rfl ?_
      refine r_i2l (pc := 93) dX8_maps_93 ?_
      exact r_pick (ls1 := [(0, .ref (ad g 73)), (1, .int u1_), (2, .int u2_), (3, .int (b2i u3_)), (4, .long u4_), (6, .long u6_), (8, .long u8_), (10, .int v10_)]) [0, 1, 2, 3, 4, 5, 6, 7] rfl (hj94 (Int32.toInt64 u2_) hr)
    replace hr := ite_f hc hr
    refine r_lload (pc := 87) (j := 5) dX8_maps_87 rfl ?_
    refine r_goto (pc := 89) (tgt := 94) dX8_maps_89 rfl ?_
    exact r_pick (ls1 := [(0, .ref (ad g 73)), (1, .int u1_), (2, .int u2_), (3, .int (b2i u3_)), (4, .long u4_), (6, .long u6_), (8, .long u8_), (10, .int v10_)]) [0, 1, 2, 3, 4, 5, 6, 7] rfl (hj94 u6_ hr)
  refine r_if_ne (pc := 71) (tgt := 79) dX8_maps_71 rfl (fun hc => ?_) (fun hc => ?_)
  · replace hr := ite_f hc hr
    refine r_iload_n (pc := 79) (j := 1) dX8_maps_79 rfl rfl ?_
    refine r_i2l (pc := 80) dX8_maps_80 ?_
    exact r_pick (ls1 := [(0, .ref (ad g 73)), (1, .int u1_), (2, .int u2_), (3, .int (b2i u3_)), (4, .long u4_), (6, .long u6_), (8, .long u8_), (10, .int v10_)]) [0, 1, 2, 3, 4, 5, 6, 7] rfl (hj81 (Int32.toInt64 u1_) hr)
  replace hr := ite_t hc hr
  refine r_lload (pc := 74) (j := 4) dX8_maps_74 rfl ?_
  refine r_goto (pc := 76) (tgt := 81) dX8_maps_76 rfl ?_
  exact r_pick (ls1 := [(0, .ref (ad g 73)), (1, .int u1_), (2, .int u2_), (3, .int (b2i u3_)), (4, .long u4_), (6, .long u6_), (8, .long u8_), (10, .int v10_)]) [0, 1, 2, 3, 4, 5, 6, 7] rfl (hj81 u4_ hr)

set_option maxRecDepth 20000 in
theorem sX8_maps {g : GG} {σ : SS} {a1 : Int32} {a2 : Int32} {a3 : Bool} {r : SS} (hr : fX8_maps σ a1 a2 a3 = some r)  : Ct g mX8_maps [.ref (ad g 73), .int a1, .int a2, .int (b2i a3)] NF σ none NF r := by
  refine Ct.of (by decide +kernel) (nle rfl) fun hw0 => ?_
  have hw := hw0 rfl
  unfold fX8_maps at hr
  change RR g mX8_maps (FinR g mX8_maps none NF r) zF 0 [(0, .ref (ad g 73)), (1, .int a1), (2, .int a2), (3, .int (b2i a3))] [] σ
  refine r_iconst (pc := 0) (v := (2 : Int32)) dX8_maps_0 rfl ?_
  refine r_aload_n (pc := 1) (j := 0) dX8_maps_1 rfl rfl ?_
  refine r_iconst (pc := 2) (v := (0 : Int32)) dX8_maps_2 rfl ?_
  obtain ⟨v1, hv1, hr⟩ := bnd1_inv hr
  refine kX8_headOf (pc := 3) hv1 tw_6_149 ⟨nle rfl, nle rfl⟩ (nle rfl) dX8_maps_3 ?_
  refine r_imul (pc := 6) dX8_maps_6 ?_
  refine r_iload_n (pc := 7) (j := 1) dX8_maps_7 rfl rfl ?_
  refine r_isub (pc := 8) dX8_maps_8 ?_
  refine r_i2l (pc := 9) dX8_maps_9 ?_
  refine r_topl fun w4 ew4 => ?_
  replace hr := vthen_inv hr w4 ew4
  refine r_lstore (pc := 10) (ls1 := [(4, .long w4), (0, .ref (ad g 73)), (1, .int a1), (2, .int a2), (3, .int (b2i a3))]) dX8_maps_10 (nle rfl) rfl ?_
  refine r_iconst (pc := 12) (v := (2 : Int32)) dX8_maps_12 rfl ?_
  refine r_aload_n (pc := 13) (j := 1) dX8_maps_13 rfl rfl ?_
  refine r_iconst (pc := 14) (v := (1 : Int32)) dX8_maps_14 rfl ?_
  obtain ⟨v5, hv5, hr⟩ := bnd1_inv hr
  refine kX8_headOf (pc := 15) hv5 tw_6_149 ⟨nle rfl, nle rfl⟩ (nle rfl) dX8_maps_15 ?_
  refine r_imul (pc := 18) dX8_maps_18 ?_
  refine r_iload_n (pc := 19) (j := 3) dX8_maps_19 rfl rfl ?_
  refine r_isub (pc := 20) dX8_maps_20 ?_
  refine r_i2l (pc := 21) dX8_maps_21 ?_
  refine r_topl fun w8 ew8 => ?_
  replace hr := vthen_inv hr w8 ew8
  refine r_lstore (pc := 22) (ls1 := [(6, .long w8), (4, .long w4), (0, .ref (ad g 73)), (1, .int a1), (2, .int a2), (3, .int (b2i a3))]) dX8_maps_22 (nle rfl) rfl ?_
  refine r_aload_n (pc := 24) (j := 2) dX8_maps_24 rfl rfl ?_
  refine gf8_48 (pc := 25) tw_5_142 hw dX8_maps_25 ?_
  refine r_iconst (pc := 28) (v := (0 : Int32)) dX8_maps_28 rfl ?_
  refine x_lald (pc := 29) (k := 0) rfl (by decide) rfl dX8_maps_29 ?_
  refine r_aload_n (pc := 30) (j := 2) dX8_maps_30 rfl rfl ?_
  refine gf8_48 (pc := 31) tw_5_142 hw dX8_maps_31 ?_
  refine r_iconst (pc := 34) (v := (1 : Int32)) dX8_maps_34 rfl ?_
  refine x_lald (pc := 35) (k := 1) rfl (by decide) rfl dX8_maps_35 ?_
  refine r_lmul (pc := 36) dX8_maps_36 ?_
  refine r_aload_n (pc := 37) (j := 2) dX8_maps_37 rfl rfl ?_
  refine gf8_48 (pc := 38) tw_5_142 hw dX8_maps_38 ?_
  refine r_iconst (pc := 41) (v := (2 : Int32)) dX8_maps_41 rfl ?_
  refine x_lald (pc := 42) (k := 2) rfl (by decide) rfl dX8_maps_42 ?_
  refine r_lmul (pc := 43) dX8_maps_43 ?_
  refine r_aload_n (pc := 44) (j := 2) dX8_maps_44 rfl rfl ?_
  refine gf8_48 (pc := 45) tw_5_142 hw dX8_maps_45 ?_
  refine r_iconst (pc := 48) (v := (3 : Int32)) dX8_maps_48 rfl ?_
  refine x_lald (pc := 49) (k := 3) rfl (by decide) rfl dX8_maps_49 ?_
  refine r_lmul (pc := 50) dX8_maps_50 ?_
  refine r_topl fun w9 ew9 => ?_
  replace hr := vthen_inv hr w9 ew9
  refine r_lstore (pc := 51) (ls1 := [(8, .long w9), (6, .long w8), (4, .long w4), (0, .ref (ad g 73)), (1, .int a1), (2, .int a2), (3, .int (b2i a3))]) dX8_maps_51 (nle rfl) rfl ?_
  refine r_aload_n (pc := 53) (j := 3) dX8_maps_53 rfl rfl ?_
  refine r_lconst (pc := 54) (v := (0 : Int64)) dX8_maps_54 rfl ?_
  refine pf8_50 (pc := 55) tw_5_144 rfl dX8_maps_55 fun σ10 eσ10 => ?_
  replace hr := vthen_inv hr σ10 eσ10
  have hσ10 := wtL eσ10 hw
  refine r_iconst (pc := 58) (v := (0 : Int32)) dX8_maps_58 rfl ?_
  refine r_istore (pc := 59) (ls1 := [(10, .int (0 : Int32)), (8, .long w9), (6, .long w8), (4, .long w4), (0, .ref (ad g 73)), (1, .int a1), (2, .int a2), (3, .int (b2i a3))]) dX8_maps_59 (nle rfl) rfl ?_
  refine r_pick (ls1 := [(0, .ref (ad g 73)), (1, .int a1), (2, .int a2), (3, .int (b2i a3)), (4, .long w4), (6, .long w8), (8, .long w9), (10, .int (0 : Int32))]) [4, 5, 6, 7, 3, 2, 1, 0] rfl ?_
  refine sX8_maps_L61    (fun σ20 hr hσ20 => ?_) fuel (0 : Int32) σ10 hr hσ10
  refine r_aload_n (pc := 147) (j := 0) dX8_maps_147 rfl rfl ?_
  refine r_ldc2 (pc := 148) (v := (4 : Int64)) dX8_maps_148 tw_7_84 ?_
  refine r_aload_n (pc := 151) (j := 0) dX8_maps_151 rfl rfl ?_
  refine r_iconst (pc := 152) (v := (0 : Int32)) dX8_maps_152 rfl ?_
  obtain ⟨v21, hv21, hr⟩ := bnd1_inv hr
  refine kX8_headOf (pc := 153) hv21 tw_6_149 ⟨nle rfl, nle rfl⟩ (nle rfl) dX8_maps_153 ?_
  refine r_i2l (pc := 156) dX8_maps_156 ?_
  refine r_lmul (pc := 157) dX8_maps_157 ?_
  refine r_aload_n (pc := 158) (j := 0) dX8_maps_158 rfl rfl ?_
  refine r_iconst (pc := 159) (v := (1 : Int32)) dX8_maps_159 rfl ?_
  obtain ⟨v24, hv24, hr⟩ := bnd1_inv hr
  refine kX8_headOf (pc := 160) hv24 tw_6_149 ⟨nle rfl, nle rfl⟩ (nle rfl) dX8_maps_160 ?_
  refine r_i2l (pc := 163) dX8_maps_163 ?_
  refine r_lmul (pc := 164) dX8_maps_164 ?_
  refine r_lload (pc := 165) (j := 1) dX8_maps_165 rfl ?_
  refine r_lmul (pc := 167) dX8_maps_167 ?_
  refine pf8_51 (pc := 168) tw_5_145 rfl dX8_maps_168 fun σ27 eσ27 => ?_
  replace hr := vthen_inv hr σ27 eσ27
  have hσ27 := wtL eσ27 hσ20
  exact l_ov hr (r_vret (pc := 171) rfl rfl ⟨Nat.le_refl _, Nat.le_refl _⟩ dX8_maps_171)

theorem kX8_maps {g : GG} {σ : SS} {a1 : Int32} {a2 : Int32} {a3 : Bool} {σ2 : SS} {M : MM} {F : State → Array Value → List Frame → State → Prop} {pc index : Nat} {ls : List (Nat × Value)} {rest : List Value} (hf : fX8_maps σ a1 a2 a3 = some σ2)  (hl : Cond.methodLink M.1.cls index yX8_maps ∈ lw_gt) (hR : mX8_maps.2.2.2.2.frames + 1 ≤ M.2.2.2.2.frames ∧ 8 + (mX8_maps.2.2.1 + 11) + mX8_maps.2.2.2.2.locals ≤ M.2.2.2.2.locals) (hrest : (rest.map fun v => v.category).sum ≤ 8) (hd : decode M.2.1 pc = .ok (.invokevirtual index, 3)) (k : WT σ2 → RR g M F zF (pc + 3) ls rest σ2) : RR g M F zF pc ls (.int (b2i a3) :: .int a2 :: .int a1 :: .ref (ad g 73) :: rest) σ :=
  r_callV (z := zF) (N := mX8_maps) (nn := 3) (o1 := none) (sX8_maps hf ) (rfl : shp 73 = (8, 0)) (by decide) (shp_le (rfl : shp 73 = (8, 0)) (nle rfl)) (ci := 8) rfl rfl tw_7_83 tw_1_10 hl tw_7_82 tp_71 ⟨by decide, by decide, rfl⟩ hR rfl hrest hd ⟨Nat.zero_le _, Nat.zero_le _⟩ rfl (fun h => k (h rfl))

theorem dX8_mapped_0 : decode cX8_mapped 0 = .ok (.aload_n 0, 1) := by decide +kernel
theorem dX8_mapped_1 : decode cX8_mapped 1 = .ok (.iload_n 1, 1) := by decide +kernel
theorem dX8_mapped_2 : decode cX8_mapped 2 = .ok (.iload_n 2, 1) := by decide +kernel
theorem dX8_mapped_3 : decode cX8_mapped 3 = .ok (.iload_n 3, 1) := by decide +kernel
theorem dX8_mapped_4 : decode cX8_mapped 4 = .ok (.invokevirtual 353, 3) := by decide +kernel
theorem dX8_mapped_7 : decode cX8_mapped 7 = .ok (.ldc2_w 343, 3) := by decide +kernel
theorem dX8_mapped_10 : decode cX8_mapped 10 = .ok (.aload_n 0, 1) := by decide +kernel
theorem dX8_mapped_11 : decode cX8_mapped 11 = .ok (.getfield 345, 3) := by decide +kernel
theorem dX8_mapped_14 : decode cX8_mapped 14 = .ok (.lmul, 1) := by decide +kernel
theorem dX8_mapped_15 : decode cX8_mapped 15 = .ok (.aload_n 0, 1) := by decide +kernel
theorem dX8_mapped_16 : decode cX8_mapped 16 = .ok (.getfield 350, 3) := by decide +kernel
theorem dX8_mapped_19 : decode cX8_mapped 19 = .ok (.ladd, 1) := by decide +kernel
theorem dX8_mapped_20 : decode cX8_mapped 20 = .ok (.ldc2_w 343, 3) := by decide +kernel
theorem dX8_mapped_23 : decode cX8_mapped 23 = .ok (.aload_n 0, 1) := by decide +kernel
theorem dX8_mapped_24 : decode cX8_mapped 24 = .ok (.getfield 350, 3) := by decide +kernel
theorem dX8_mapped_27 : decode cX8_mapped 27 = .ok (.lmul, 1) := by decide +kernel
theorem dX8_mapped_28 : decode cX8_mapped 28 = .ok (.ldiv, 1) := by decide +kernel
theorem dX8_mapped_29 : decode cX8_mapped 29 = .ok (.l2i, 1) := by decide +kernel
theorem dX8_mapped_30 : decode cX8_mapped 30 = .ok (.ireturn, 1) := by decide +kernel
def mX8_mapped : MM := (yX8_mapped, cX8_mapped, 4, Option.some Jvm.ClassFile.FieldType.int, { frames := 2, cells := 0, slots := 0, locals := 53 })
def fX8_mapped (σ : SS) (a1 : Int32) (a2 : Int32) (a3 : Bool) : Option (Int32 × SS) :=
  bnd1 (fX8_maps σ a1 a2 a3) fun σ1 =>
  grd (nzl ((2 : Int64) * (gL σ1 73 51))) <|
  some ((Int64.toInt32 ((((2 : Int64) * (gL σ1 73 50)) + (gL σ1 73 51)) / ((2 : Int64) * (gL σ1 73 51)))), σ1)

set_option maxRecDepth 20000 in
theorem sX8_mapped {g : GG} {σ : SS} {a1 : Int32} {a2 : Int32} {a3 : Bool} {r : Int32 × SS} (hr : fX8_mapped σ a1 a2 a3 = some r)  : Ct g mX8_mapped [.ref (ad g 73), .int a1, .int a2, .int (b2i a3)] NF σ (some (.int r.1)) NF r.2 := by
  refine Ct.of (by decide +kernel) (nle rfl) fun hw0 => ?_
  have hw := hw0 rfl
  unfold fX8_mapped at hr
  change RR g mX8_mapped (FinR g mX8_mapped (some (.int r.1)) NF r.2) zF 0 [(0, .ref (ad g 73)), (1, .int a1), (2, .int a2), (3, .int (b2i a3))] [] σ
  refine r_aload_n (pc := 0) (j := 0) dX8_mapped_0 rfl rfl ?_
  refine r_iload_n (pc := 1) (j := 1) dX8_mapped_1 rfl rfl ?_
  refine r_iload_n (pc := 2) (j := 2) dX8_mapped_2 rfl rfl ?_
  refine r_iload_n (pc := 3) (j := 3) dX8_mapped_3 rfl rfl ?_
  obtain ⟨σ1, eσ1, hr⟩ := bnd1_inv hr
  refine kX8_maps (pc := 4) eσ1 tw_7_80 ⟨nle rfl, nle rfl⟩ (nle rfl) dX8_mapped_4 fun hσ1 => ?_
  refine r_ldc2 (pc := 7) (v := (2 : Int64)) dX8_mapped_7 tw_7_71 ?_
  refine r_aload_n (pc := 10) (j := 0) dX8_mapped_10 rfl rfl ?_
  refine gf8_50 (pc := 11) tw_5_144 rfl dX8_mapped_11 ?_
  refine r_lmul (pc := 14) dX8_mapped_14 ?_
  refine r_aload_n (pc := 15) (j := 0) dX8_mapped_15 rfl rfl ?_
  refine gf8_51 (pc := 16) tw_5_145 rfl dX8_mapped_16 ?_
  refine r_ladd (pc := 19) dX8_mapped_19 ?_
  refine r_ldc2 (pc := 20) (v := (2 : Int64)) dX8_mapped_20 tw_7_71 ?_
  refine r_aload_n (pc := 23) (j := 0) dX8_mapped_23 rfl rfl ?_
  refine gf8_51 (pc := 24) tw_5_145 rfl dX8_mapped_24 ?_
  refine r_lmul (pc := 27) dX8_mapped_27 ?_
  obtain ⟨h2, hr⟩ := grd_inv hr
  refine r_ldiv (pc := 28) dX8_mapped_28 (nzl_ne h2) ?_
  refine r_l2i (pc := 29) dX8_mapped_29 ?_
  exact l_osi hr (r_iret (pc := 30) (v := (Int64.toInt32 ((((2 : Int64) * (gL σ1 73 50)) + (gL σ1 73 51)) / ((2 : Int64) * (gL σ1 73 51))))) rfl rfl ⟨Nat.le_refl _, Nat.le_refl _⟩ dX8_mapped_30)

theorem kX8_mapped {g : GG} {σ : SS} {a1 : Int32} {a2 : Int32} {a3 : Bool} {v : Int32} {σ2 : SS} {M : MM} {F : State → Array Value → List Frame → State → Prop} {pc index : Nat} {ls : List (Nat × Value)} {rest : List Value} (hf : fX8_mapped σ a1 a2 a3 = some (v, σ2))  (hl : Cond.methodLink M.1.cls index yX8_mapped ∈ lw_gt) (hR : mX8_mapped.2.2.2.2.frames + 1 ≤ M.2.2.2.2.frames ∧ 8 + (mX8_mapped.2.2.1 + 11) + mX8_mapped.2.2.2.2.locals ≤ M.2.2.2.2.locals) (hrest : (rest.map fun v => v.category).sum ≤ 8) (hd : decode M.2.1 pc = .ok (.invokevirtual index, 3)) (k : WT σ2 → RR g M F zF (pc + 3) ls (.int v :: rest) σ2) : RR g M F zF pc ls (.int (b2i a3) :: .int a2 :: .int a1 :: .ref (ad g 73) :: rest) σ :=
  r_callV (z := zF) (N := mX8_mapped) (nn := 3) (o1 := some (.int v)) (sX8_mapped hf ) (rfl : shp 73 = (8, 0)) (by decide) (shp_le (rfl : shp 73 = (8, 0)) (nle rfl)) (ci := 8) rfl rfl tw_7_79 tw_1_10 hl tw_7_78 tp_70 ⟨by decide, by decide, rfl⟩ hR rfl hrest hd ⟨Nat.zero_le _, Nat.zero_le _⟩ rfl (fun h => k (h rfl))

theorem dX8_map_0 : decode cX8_map 0 = .ok (.aload_n 0, 1) := by decide +kernel
theorem dX8_map_1 : decode cX8_map 1 = .ok (.getfield 202, 3) := by decide +kernel
theorem dX8_map_4 : decode cX8_map 4 = .ok (.ifCond .eq 42, 3) := by decide +kernel
theorem dX8_map_7 : decode cX8_map 7 = .ok (.iload_n 1, 1) := by decide +kernel
theorem dX8_map_8 : decode cX8_map 8 = .ok (.iconst 0, 1) := by decide +kernel
theorem dX8_map_9 : decode cX8_map 9 = .ok (.iconst 2, 1) := by decide +kernel
theorem dX8_map_10 : decode cX8_map 10 = .ok (.aload_n 0, 1) := by decide +kernel
theorem dX8_map_11 : decode cX8_map 11 = .ok (.iconst 0, 1) := by decide +kernel
theorem dX8_map_12 : decode cX8_map 12 = .ok (.invokevirtual 262, 3) := by decide +kernel
theorem dX8_map_15 : decode cX8_map 15 = .ok (.imul, 1) := by decide +kernel
theorem dX8_map_16 : decode cX8_map 16 = .ok (.invokestatic 165, 3) := by decide +kernel
theorem dX8_map_19 : decode cX8_map 19 = .ok (.ifCond .eq 27, 3) := by decide +kernel
theorem dX8_map_22 : decode cX8_map 22 = .ok (.iload_n 2, 1) := by decide +kernel
theorem dX8_map_23 : decode cX8_map 23 = .ok (.iconst 0, 1) := by decide +kernel
theorem dX8_map_24 : decode cX8_map 24 = .ok (.iconst 2, 1) := by decide +kernel
theorem dX8_map_25 : decode cX8_map 25 = .ok (.aload_n 0, 1) := by decide +kernel
theorem dX8_map_26 : decode cX8_map 26 = .ok (.iconst 1, 1) := by decide +kernel
theorem dX8_map_27 : decode cX8_map 27 = .ok (.invokevirtual 262, 3) := by decide +kernel
theorem dX8_map_30 : decode cX8_map 30 = .ok (.imul, 1) := by decide +kernel
theorem dX8_map_31 : decode cX8_map 31 = .ok (.invokestatic 165, 3) := by decide +kernel
theorem dX8_map_34 : decode cX8_map 34 = .ok (.ifCond .eq 12, 3) := by decide +kernel
theorem dX8_map_37 : decode cX8_map 37 = .ok (.iload_n 3, 1) := by decide +kernel
theorem dX8_map_38 : decode cX8_map 38 = .ok (.iconst 0, 1) := by decide +kernel
theorem dX8_map_39 : decode cX8_map 39 = .ok (.iconst 3, 1) := by decide +kernel
theorem dX8_map_40 : decode cX8_map 40 = .ok (.invokestatic 165, 3) := by decide +kernel
theorem dX8_map_43 : decode cX8_map 43 = .ok (.ifCond .ne 5, 3) := by decide +kernel
theorem dX8_map_46 : decode cX8_map 46 = .ok (.iconst (-1), 1) := by decide +kernel
theorem dX8_map_47 : decode cX8_map 47 = .ok (.ireturn, 1) := by decide +kernel
theorem dX8_map_48 : decode cX8_map 48 = .ok (.aload_n 0, 1) := by decide +kernel
theorem dX8_map_49 : decode cX8_map 49 = .ok (.invokevirtual 332, 3) := by decide +kernel
theorem dX8_map_52 : decode cX8_map 52 = .ok (.aload_n 0, 1) := by decide +kernel
theorem dX8_map_53 : decode cX8_map 53 = .ok (.getfield 326, 3) := by decide +kernel
theorem dX8_map_56 : decode cX8_map 56 = .ok (.ifCond .ne 6, 3) := by decide +kernel
theorem dX8_map_59 : decode cX8_map 59 = .ok (.bipush (-2), 2) := by decide +kernel
theorem dX8_map_61 : decode cX8_map 61 = .ok (.ireturn, 1) := by decide +kernel
theorem dX8_map_62 : decode cX8_map 62 = .ok (.iload_n 3, 1) := by decide +kernel
theorem dX8_map_63 : decode cX8_map 63 = .ok (.iconst 2, 1) := by decide +kernel
theorem dX8_map_64 : decode cX8_map 64 = .ok (.if_icmp .ge 19, 3) := by decide +kernel
theorem dX8_map_67 : decode cX8_map 67 = .ok (.aload_n 0, 1) := by decide +kernel
theorem dX8_map_68 : decode cX8_map 68 = .ok (.iload_n 1, 1) := by decide +kernel
theorem dX8_map_69 : decode cX8_map 69 = .ok (.iload_n 2, 1) := by decide +kernel
theorem dX8_map_70 : decode cX8_map 70 = .ok (.iload_n 3, 1) := by decide +kernel
theorem dX8_map_71 : decode cX8_map 71 = .ok (.ifCond .ne 7, 3) := by decide +kernel
theorem dX8_map_74 : decode cX8_map 74 = .ok (.iconst 1, 1) := by decide +kernel
theorem dX8_map_75 : decode cX8_map 75 = .ok (.goto 4, 3) := by decide +kernel
theorem dX8_map_78 : decode cX8_map 78 = .ok (.iconst 0, 1) := by decide +kernel
theorem dX8_map_79 : decode cX8_map 79 = .ok (.invokevirtual 357, 3) := by decide +kernel
theorem dX8_map_82 : decode cX8_map 82 = .ok (.ireturn, 1) := by decide +kernel
theorem dX8_map_83 : decode cX8_map 83 = .ok (.aload_n 0, 1) := by decide +kernel
theorem dX8_map_84 : decode cX8_map 84 = .ok (.iload_n 1, 1) := by decide +kernel
theorem dX8_map_85 : decode cX8_map 85 = .ok (.iload_n 2, 1) := by decide +kernel
theorem dX8_map_86 : decode cX8_map 86 = .ok (.iload_n 3, 1) := by decide +kernel
theorem dX8_map_87 : decode cX8_map 87 = .ok (.iconst 2, 1) := by decide +kernel
theorem dX8_map_88 : decode cX8_map 88 = .ok (.if_icmp .ne 7, 3) := by decide +kernel
theorem dX8_map_91 : decode cX8_map 91 = .ok (.iconst 1, 1) := by decide +kernel
theorem dX8_map_92 : decode cX8_map 92 = .ok (.goto 4, 3) := by decide +kernel
theorem dX8_map_95 : decode cX8_map 95 = .ok (.iconst 0, 1) := by decide +kernel
theorem dX8_map_96 : decode cX8_map 96 = .ok (.invokevirtual 353, 3) := by decide +kernel
theorem dX8_map_99 : decode cX8_map 99 = .ok (.ldc2_w 361, 3) := by decide +kernel
theorem dX8_map_102 : decode cX8_map 102 = .ok (.aload_n 0, 1) := by decide +kernel
theorem dX8_map_103 : decode cX8_map 103 = .ok (.getfield 345, 3) := by decide +kernel
theorem dX8_map_106 : decode cX8_map 106 = .ok (.lmul, 1) := by decide +kernel
theorem dX8_map_107 : decode cX8_map 107 = .ok (.aload_n 0, 1) := by decide +kernel
theorem dX8_map_108 : decode cX8_map 108 = .ok (.getfield 350, 3) := by decide +kernel
theorem dX8_map_111 : decode cX8_map 111 = .ok (.ldiv, 1) := by decide +kernel
theorem dX8_map_112 : decode cX8_map 112 = .ok (.l2i, 1) := by decide +kernel
theorem dX8_map_113 : decode cX8_map 113 = .ok (.ireturn, 1) := by decide +kernel
def mX8_map : MM := (yX8_map, cX8_map, 4, Option.some Jvm.ClassFile.FieldType.int, { frames := 6, cells := 0, slots := 0, locals := 135 })
def fX8_map (σ : SS) (a1 : Int32) (a2 : Int32) (a3 : Int32) : Option (Int32 × SS) :=
  if (gI σ 73 12) = 0 then (
    some ((-1 : Int32), σ)
    ) else (
    bnd1 (fX8_headOf σ (0 : Int32)) fun v1 =>
    if (fX8_in σ a1 (0 : Int32) ((2 : Int32) * v1)) = true then (
      bnd1 (fX8_headOf σ (1 : Int32)) fun v4 =>
      if (fX8_in σ a2 (0 : Int32) ((2 : Int32) * v4)) = true then (
        if (fX8_in σ a3 (0 : Int32) (3 : Int32)) = true then (
          bnd1 (fX8_laysMarks σ) fun σ7 =>
          if (gI σ7 73 49) = 0 then (
            some ((-2 : Int32), σ7)
            ) else (
            if (2 : Int32) ≤ a3 then (
              vthen (fun (s8 : Bool) =>
                bnd1 (fX8_maps σ7 a1 a2 s8) fun σ9 =>
                grd (nzl (gL σ9 73 51)) <|
                some ((Int64.toInt32 (((100 : Int64) * (gL σ9 73 50)) / (gL σ9 73 51))), σ9)
                ) fun j96 =>
              if a3 = (2 : Int32) then (
                j96 true
                ) else (
                j96 false
                )
              ) else (
              vthen (fun (s11 : Bool) =>
                bnd (fX8_mapped σ7 a1 a2 s11) fun v12 σ15 =>
                some (v12, σ15)
                ) fun j79 =>
              if a3 = 0 then (
                j79 true
                ) else (
                j79 false
                )
              )
            )
          ) else (
          some ((-1 : Int32), σ)
          )
        ) else (
        some ((-1 : Int32), σ)
        )
      ) else (
      some ((-1 : Int32), σ)
      )
    )

set_option maxRecDepth 20000 in
theorem sX8_map {g : GG} {σ : SS} {a1 : Int32} {a2 : Int32} {a3 : Int32} {r : Int32 × SS} (hr : fX8_map σ a1 a2 a3 = some r)  : Ct g mX8_map [.ref (ad g 73), .int a1, .int a2, .int a3] NF σ (some (.int r.1)) NF r.2 := by
  refine Ct.of (by decide +kernel) (nle rfl) fun hw0 => ?_
  have hw := hw0 rfl
  unfold fX8_map at hr
  change RR g mX8_map (FinR g mX8_map (some (.int r.1)) NF r.2) zF 0 [(0, .ref (ad g 73)), (1, .int a1), (2, .int a2), (3, .int a3)] [] σ
  refine r_aload_n (pc := 0) (j := 0) dX8_map_0 rfl rfl ?_
  refine gf8_12 (pc := 1) tw_5_106 rfl dX8_map_1 ?_
  refine r_if_eq (pc := 4) (tgt := 46) dX8_map_4 rfl (fun hc => ?_) (fun hc => ?_)
  · replace hr := ite_t hc hr
    refine r_iconst (pc := 46) (v := (-1 : Int32)) dX8_map_46 rfl ?_
    exact l_osi hr (r_iret (pc := 47) (v := (-1 : Int32)) rfl rfl ⟨Nat.le_refl _, Nat.le_refl _⟩ dX8_map_47)
  replace hr := ite_f hc hr
  refine r_iload_n (pc := 7) (j := 1) dX8_map_7 rfl rfl ?_
  refine r_iconst (pc := 8) (v := (0 : Int32)) dX8_map_8 rfl ?_
  refine r_iconst (pc := 9) (v := (2 : Int32)) dX8_map_9 rfl ?_
  refine r_aload_n (pc := 10) (j := 0) dX8_map_10 rfl rfl ?_
  refine r_iconst (pc := 11) (v := (0 : Int32)) dX8_map_11 rfl ?_
  obtain ⟨v1, hv1, hr⟩ := bnd1_inv hr
  refine kX8_headOf (pc := 12) hv1 tw_6_149 ⟨nle rfl, nle rfl⟩ (nle rfl) dX8_map_12 ?_
  refine r_imul (pc := 15) dX8_map_15 ?_
  refine kX8_in (pc := 16) (hf := rfl) tw_6_65 ⟨nle rfl, nle rfl⟩ (nle rfl) dX8_map_16 ?_
  refine r_ifB_eq (pc := 19) (tgt := 46) dX8_map_19 rfl (fun hc => ?_) (fun hc => ?_)
  · replace hr := ite_f hc hr
    refine r_iconst (pc := 46) (v := (-1 : Int32)) dX8_map_46 rfl ?_
    exact l_osi hr (r_iret (pc := 47) (v := (-1 : Int32)) rfl rfl ⟨Nat.le_refl _, Nat.le_refl _⟩ dX8_map_47)
  replace hr := ite_t hc hr
  refine r_iload_n (pc := 22) (j := 2) dX8_map_22 rfl rfl ?_
  refine r_iconst (pc := 23) (v := (0 : Int32)) dX8_map_23 rfl ?_
  refine r_iconst (pc := 24) (v := (2 : Int32)) dX8_map_24 rfl ?_
  refine r_aload_n (pc := 25) (j := 0) dX8_map_25 rfl rfl ?_
  refine r_iconst (pc := 26) (v := (1 : Int32)) dX8_map_26 rfl ?_
  obtain ⟨v4, hv4, hr⟩ := bnd1_inv hr
  refine kX8_headOf (pc := 27) hv4 tw_6_149 ⟨nle rfl, nle rfl⟩ (nle rfl) dX8_map_27 ?_
  refine r_imul (pc := 30) dX8_map_30 ?_
  refine kX8_in (pc := 31) (hf := rfl) tw_6_65 ⟨nle rfl, nle rfl⟩ (nle rfl) dX8_map_31 ?_
  refine r_ifB_eq (pc := 34) (tgt := 46) dX8_map_34 rfl (fun hc => ?_) (fun hc => ?_)
  · replace hr := ite_f hc hr
    refine r_iconst (pc := 46) (v := (-1 : Int32)) dX8_map_46 rfl ?_
    exact l_osi hr (r_iret (pc := 47) (v := (-1 : Int32)) rfl rfl ⟨Nat.le_refl _, Nat.le_refl _⟩ dX8_map_47)
  replace hr := ite_t hc hr
  refine r_iload_n (pc := 37) (j := 3) dX8_map_37 rfl rfl ?_
  refine r_iconst (pc := 38) (v := (0 : Int32)) dX8_map_38 rfl ?_
  refine r_iconst (pc := 39) (v := (3 : Int32)) dX8_map_39 rfl ?_
  refine kX8_in (pc := 40) (hf := rfl) tw_6_65 ⟨nle rfl, nle rfl⟩ (nle rfl) dX8_map_40 ?_
  refine r_ifB_ne (pc := 43) (tgt := 48) dX8_map_43 rfl (fun hc => ?_) (fun hc => ?_)
  · replace hr := ite_t hc hr
    refine r_aload_n (pc := 48) (j := 0) dX8_map_48 rfl rfl ?_
    obtain ⟨σ7, eσ7, hr⟩ := bnd1_inv hr
    refine kX8_laysMarks (pc := 49) eσ7 tw_7_47 ⟨nle rfl, nle rfl⟩ (nle rfl) dX8_map_49 fun hσ7 => ?_
    refine r_aload_n (pc := 52) (j := 0) dX8_map_52 rfl rfl ?_
    refine gf8_49 (pc := 53) tw_5_143 rfl dX8_map_53 ?_
    refine r_if_ne (pc := 56) (tgt := 62) dX8_map_56 rfl (fun hc => ?_) (fun hc => ?_)
    · replace hr := ite_f hc hr
      refine r_iload_n (pc := 62) (j := 3) dX8_map_62 rfl rfl ?_
      refine r_iconst (pc := 63) (v := (2 : Int32)) dX8_map_63 rfl ?_
      refine r_icmp_ge (pc := 64) (tgt := 83) dX8_map_64 rfl (fun hc => ?_) (fun hc => ?_)
      · replace hr := ite_t hc hr
        refine r_aload_n (pc := 83) (j := 0) dX8_map_83 rfl rfl ?_
        refine r_iload_n (pc := 84) (j := 1) dX8_map_84 rfl rfl ?_
        refine r_iload_n (pc := 85) (j := 2) dX8_map_85 rfl rfl ?_
        refine r_iload_n (pc := 86) (j := 3) dX8_map_86 rfl rfl ?_
        refine r_iconst (pc := 87) (v := (2 : Int32)) dX8_map_87 rfl ?_
        obtain ⟨j96, ej96, hr⟩ := vth_ex hr
        have hj96 : ∀ (s8 : Bool), j96 s8 = some r → RR g mX8_map (FinR g mX8_map (some (.int r.1)) NF r.2) zF 96 [(0, .ref (ad g 73))] [.int (b2i s8), .int a2, .int a1, .ref (ad g 73)] σ7 := by
          intro s8 hr
          replace hr := (congrFun ej96 s8).symm.trans hr
          obtain ⟨σ9, eσ9, hr⟩ := bnd1_inv hr
          refine kX8_maps (pc := 96) eσ9 tw_7_80 ⟨nle rfl, nle rfl⟩ (nle rfl) dX8_map_96 fun hσ9 => ?_
          refine r_ldc2 (pc := 99) (v := (100 : Int64)) dX8_map_99 tw_7_85 ?_
          refine r_aload_n (pc := 102) (j := 0) dX8_map_102 rfl rfl ?_
          refine gf8_50 (pc := 103) tw_5_144 rfl dX8_map_103 ?_
          refine r_lmul (pc := 106) dX8_map_106 ?_
          refine r_aload_n (pc := 107) (j := 0) dX8_map_107 rfl rfl ?_
          refine gf8_51 (pc := 108) tw_5_145 rfl dX8_map_108 ?_
          obtain ⟨h10, hr⟩ := grd_inv hr
          refine r_ldiv (pc := 111) dX8_map_111 (nzl_ne h10) ?_
          refine r_l2i (pc := 112) dX8_map_112 ?_
          exact l_osi hr (r_iret (pc := 113) (v := (Int64.toInt32 (((100 : Int64) * (gL σ9 73 50)) / (gL σ9 73 51)))) rfl rfl ⟨Nat.le_refl _, Nat.le_refl _⟩ dX8_map_113)
        refine r_icmp_ne (pc := 88) (tgt := 95) dX8_map_88 rfl (fun hc => ?_) (fun hc => ?_)
        · replace hr := ite_f hc hr
          refine r_iconst (pc := 95) (v := (0 : Int32)) dX8_map_95 rfl ?_
          exact r_pick (ls1 := [(0, .ref (ad g 73))]) [0] rfl (hj96 false hr)
        replace hr := ite_t hc hr
        refine r_iconst (pc := 91) (v := (1 : Int32)) dX8_map_91 rfl ?_
        refine r_goto (pc := 92) (tgt := 96) dX8_map_92 rfl ?_
        exact r_pick (ls1 := [(0, .ref (ad g 73))]) [0] rfl (hj96 true hr)
      replace hr := ite_f hc hr
      refine r_aload_n (pc := 67) (j := 0) dX8_map_67 rfl rfl ?_
      refine r_iload_n (pc := 68) (j := 1) dX8_map_68 rfl rfl ?_
      refine r_iload_n (pc := 69) (j := 2) dX8_map_69 rfl rfl ?_
      refine r_iload_n (pc := 70) (j := 3) dX8_map_70 rfl rfl ?_
      obtain ⟨j79, ej79, hr⟩ := vth_ex hr
      have hj79 : ∀ (s11 : Bool), j79 s11 = some r → RR g mX8_map (FinR g mX8_map (some (.int r.1)) NF r.2) zF 79 [] [.int (b2i s11), .int a2, .int a1, .ref (ad g 73)] σ7 := by
        intro s11 hr
        replace hr := (congrFun ej79 s11).symm.trans hr
        obtain ⟨v12, σ15, eσ15, hr⟩ := bnd_inv hr
        refine kX8_mapped (pc := 79) eσ15 tw_7_76 ⟨nle rfl, nle rfl⟩ (nle rfl) dX8_map_79 fun hσ15 => ?_
        exact l_osi hr (r_iret (pc := 82) (v := v12) rfl rfl ⟨Nat.le_refl _, Nat.le_refl _⟩ dX8_map_82)
      refine r_if_ne (pc := 71) (tgt := 78) dX8_map_71 rfl (fun hc => ?_) (fun hc => ?_)
      · replace hr := ite_f hc hr
        refine r_iconst (pc := 78) (v := (0 : Int32)) dX8_map_78 rfl ?_
        exact r_pick (ls1 := []) [] rfl (hj79 false hr)
      replace hr := ite_t hc hr
      refine r_iconst (pc := 74) (v := (1 : Int32)) dX8_map_74 rfl ?_
      refine r_goto (pc := 75) (tgt := 79) dX8_map_75 rfl ?_
      exact r_pick (ls1 := []) [] rfl (hj79 true hr)
    replace hr := ite_t hc hr
    refine r_bipush (pc := 59) (v := (-2 : Int32)) dX8_map_59 rfl ?_
    exact l_osi hr (r_iret (pc := 61) (v := (-2 : Int32)) rfl rfl ⟨Nat.le_refl _, Nat.le_refl _⟩ dX8_map_61)
  replace hr := ite_f hc hr
  refine r_iconst (pc := 46) (v := (-1 : Int32)) dX8_map_46 rfl ?_
  exact l_osi hr (r_iret (pc := 47) (v := (-1 : Int32)) rfl rfl ⟨Nat.le_refl _, Nat.le_refl _⟩ dX8_map_47)

theorem kX8_map {g : GG} {σ : SS} {a1 : Int32} {a2 : Int32} {a3 : Int32} {v : Int32} {σ2 : SS} {M : MM} {F : State → Array Value → List Frame → State → Prop} {pc index : Nat} {ls : List (Nat × Value)} {rest : List Value} (hf : fX8_map σ a1 a2 a3 = some (v, σ2))  (hl : Cond.methodLink M.1.cls index yX8_map ∈ lw_gt) (hR : mX8_map.2.2.2.2.frames + 1 ≤ M.2.2.2.2.frames ∧ 8 + (mX8_map.2.2.1 + 11) + mX8_map.2.2.2.2.locals ≤ M.2.2.2.2.locals) (hrest : (rest.map fun v => v.category).sum ≤ 8) (hd : decode M.2.1 pc = .ok (.invokevirtual index, 3)) (k : WT σ2 → RR g M F zF (pc + 3) ls (.int v :: rest) σ2) : RR g M F zF pc ls (.int a3 :: .int a2 :: .int a1 :: .ref (ad g 73) :: rest) σ :=
  r_callV (z := zF) (N := mX8_map) (nn := 3) (o1 := some (.int v)) (sX8_map hf ) (rfl : shp 73 = (8, 0)) (by decide) (shp_le (rfl : shp 73 = (8, 0)) (nle rfl)) (ci := 8) rfl rfl tw_7_75 tw_1_10 hl tw_7_73 tw_7_74 ⟨by decide, by decide, rfl⟩ hR rfl hrest hd ⟨Nat.zero_le _, Nat.zero_le _⟩ rfl (fun h => k (h rfl))

theorem dX3_darkOf_0 : decode cX3_darkOf 0 = .ok (.iconst 0, 1) := by decide +kernel
theorem dX3_darkOf_1 : decode cX3_darkOf 1 = .ok (.istore 4, 2) := by decide +kernel
theorem dX3_darkOf_3 : decode cX3_darkOf 3 = .ok (.aload_n 2, 1) := by decide +kernel
theorem dX3_darkOf_4 : decode cX3_darkOf 4 = .ok (.getfield 115, 3) := by decide +kernel
theorem dX3_darkOf_7 : decode cX3_darkOf 7 = .ok (.iload_n 3, 1) := by decide +kernel
theorem dX3_darkOf_8 : decode cX3_darkOf 8 = .ok (.iaload, 1) := by decide +kernel
theorem dX3_darkOf_9 : decode cX3_darkOf 9 = .ok (.istore 5, 2) := by decide +kernel
theorem dX3_darkOf_11 : decode cX3_darkOf 11 = .ok (.aload_n 2, 1) := by decide +kernel
theorem dX3_darkOf_12 : decode cX3_darkOf 12 = .ok (.getfield 118, 3) := by decide +kernel
theorem dX3_darkOf_15 : decode cX3_darkOf 15 = .ok (.iload_n 3, 1) := by decide +kernel
theorem dX3_darkOf_16 : decode cX3_darkOf 16 = .ok (.iaload, 1) := by decide +kernel
theorem dX3_darkOf_17 : decode cX3_darkOf 17 = .ok (.istore 6, 2) := by decide +kernel
theorem dX3_darkOf_19 : decode cX3_darkOf 19 = .ok (.iload 6, 2) := by decide +kernel
theorem dX3_darkOf_21 : decode cX3_darkOf 21 = .ok (.istore 7, 2) := by decide +kernel
theorem dX3_darkOf_23 : decode cX3_darkOf 23 = .ok (.iload 7, 2) := by decide +kernel
theorem dX3_darkOf_25 : decode cX3_darkOf 25 = .ok (.iload 6, 2) := by decide +kernel
theorem dX3_darkOf_27 : decode cX3_darkOf 27 = .ok (.aload_n 2, 1) := by decide +kernel
theorem dX3_darkOf_28 : decode cX3_darkOf 28 = .ok (.getfield 121, 3) := by decide +kernel
theorem dX3_darkOf_31 : decode cX3_darkOf 31 = .ok (.iadd, 1) := by decide +kernel
theorem dX3_darkOf_32 : decode cX3_darkOf 32 = .ok (.if_icmp .ge 78, 3) := by decide +kernel
theorem dX3_darkOf_35 : decode cX3_darkOf 35 = .ok (.iload 5, 2) := by decide +kernel
theorem dX3_darkOf_37 : decode cX3_darkOf 37 = .ok (.istore 8, 2) := by decide +kernel
theorem dX3_darkOf_39 : decode cX3_darkOf 39 = .ok (.iload 8, 2) := by decide +kernel
theorem dX3_darkOf_41 : decode cX3_darkOf 41 = .ok (.iload 5, 2) := by decide +kernel
theorem dX3_darkOf_43 : decode cX3_darkOf 43 = .ok (.aload_n 2, 1) := by decide +kernel
theorem dX3_darkOf_44 : decode cX3_darkOf 44 = .ok (.getfield 124, 3) := by decide +kernel
theorem dX3_darkOf_47 : decode cX3_darkOf 47 = .ok (.iadd, 1) := by decide +kernel
theorem dX3_darkOf_48 : decode cX3_darkOf 48 = .ok (.if_icmp .ge 56, 3) := by decide +kernel
theorem dX3_darkOf_51 : decode cX3_darkOf 51 = .ok (.iload 4, 2) := by decide +kernel
theorem dX3_darkOf_53 : decode cX3_darkOf 53 = .ok (.aload_n 1, 1) := by decide +kernel
theorem dX3_darkOf_54 : decode cX3_darkOf 54 = .ok (.aload_n 0, 1) := by decide +kernel
theorem dX3_darkOf_55 : decode cX3_darkOf 55 = .ok (.getfield 28, 3) := by decide +kernel
theorem dX3_darkOf_58 : decode cX3_darkOf 58 = .ok (.iconst 2, 1) := by decide +kernel
theorem dX3_darkOf_59 : decode cX3_darkOf 59 = .ok (.iload 8, 2) := by decide +kernel
theorem dX3_darkOf_61 : decode cX3_darkOf 61 = .ok (.imul, 1) := by decide +kernel
theorem dX3_darkOf_62 : decode cX3_darkOf 62 = .ok (.iconst 1, 1) := by decide +kernel
theorem dX3_darkOf_63 : decode cX3_darkOf 63 = .ok (.iadd, 1) := by decide +kernel
theorem dX3_darkOf_64 : decode cX3_darkOf 64 = .ok (.iconst 2, 1) := by decide +kernel
theorem dX3_darkOf_65 : decode cX3_darkOf 65 = .ok (.iload 7, 2) := by decide +kernel
theorem dX3_darkOf_67 : decode cX3_darkOf 67 = .ok (.imul, 1) := by decide +kernel
theorem dX3_darkOf_68 : decode cX3_darkOf 68 = .ok (.iconst 1, 1) := by decide +kernel
theorem dX3_darkOf_69 : decode cX3_darkOf 69 = .ok (.iadd, 1) := by decide +kernel
theorem dX3_darkOf_70 : decode cX3_darkOf 70 = .ok (.invokevirtual 127, 3) := by decide +kernel
theorem dX3_darkOf_73 : decode cX3_darkOf 73 = .ok (.aload_n 0, 1) := by decide +kernel
theorem dX3_darkOf_74 : decode cX3_darkOf 74 = .ok (.getfield 28, 3) := by decide +kernel
theorem dX3_darkOf_77 : decode cX3_darkOf 77 = .ok (.iconst 2, 1) := by decide +kernel
theorem dX3_darkOf_78 : decode cX3_darkOf 78 = .ok (.iload 8, 2) := by decide +kernel
theorem dX3_darkOf_80 : decode cX3_darkOf 80 = .ok (.imul, 1) := by decide +kernel
theorem dX3_darkOf_81 : decode cX3_darkOf 81 = .ok (.iconst 1, 1) := by decide +kernel
theorem dX3_darkOf_82 : decode cX3_darkOf 82 = .ok (.iadd, 1) := by decide +kernel
theorem dX3_darkOf_83 : decode cX3_darkOf 83 = .ok (.iconst 2, 1) := by decide +kernel
theorem dX3_darkOf_84 : decode cX3_darkOf 84 = .ok (.iload 7, 2) := by decide +kernel
theorem dX3_darkOf_86 : decode cX3_darkOf 86 = .ok (.imul, 1) := by decide +kernel
theorem dX3_darkOf_87 : decode cX3_darkOf 87 = .ok (.iconst 1, 1) := by decide +kernel
theorem dX3_darkOf_88 : decode cX3_darkOf 88 = .ok (.iadd, 1) := by decide +kernel
theorem dX3_darkOf_89 : decode cX3_darkOf 89 = .ok (.invokevirtual 130, 3) := by decide +kernel
theorem dX3_darkOf_92 : decode cX3_darkOf 92 = .ok (.invokevirtual 133, 3) := by decide +kernel
theorem dX3_darkOf_95 : decode cX3_darkOf 95 = .ok (.iadd, 1) := by decide +kernel
theorem dX3_darkOf_96 : decode cX3_darkOf 96 = .ok (.istore 4, 2) := by decide +kernel
theorem dX3_darkOf_98 : decode cX3_darkOf 98 = .ok (.iinc 8 1, 3) := by decide +kernel
theorem dX3_darkOf_101 : decode cX3_darkOf 101 = .ok (.goto (-62), 3) := by decide +kernel
theorem dX3_darkOf_104 : decode cX3_darkOf 104 = .ok (.iinc 7 1, 3) := by decide +kernel
theorem dX3_darkOf_107 : decode cX3_darkOf 107 = .ok (.goto (-84), 3) := by decide +kernel
theorem dX3_darkOf_110 : decode cX3_darkOf 110 = .ok (.iload 4, 2) := by decide +kernel
theorem dX3_darkOf_112 : decode cX3_darkOf 112 = .ok (.ireturn, 1) := by decide +kernel
def mX3_darkOf : MM := (yX3_darkOf, cX3_darkOf, 9, Option.some Jvm.ClassFile.FieldType.int, { frames := 2, cells := 0, slots := 0, locals := 45 })
def X3_darkOf_L39 (σ_ : SS) (o1_ : Nat) (o2_ : Nat) (u5_ : Int32) (u7_ : Int32) (k104 : Int32 → Option Int32) : Nat → Int32 → Int32 → Option Int32 :=
  lp (fun _ _ => none) fun rec v4_ v8_ =>
    if (u5_ + (gI σ_ o2_ 3)) ≤ v8_ then (
      k104 v4_
      ) else (
      bnd1 (fX5_dotX σ_ (((2 : Int32) * v8_) + (1 : Int32)) (((2 : Int32) * u7_) + (1 : Int32))) fun v4 =>
      bnd1 (fX5_dotY σ_ (((2 : Int32) * v8_) + (1 : Int32)) (((2 : Int32) * u7_) + (1 : Int32))) fun v7 =>
      bnd1 (fX6_at σ_ o1_ v4 v7) fun v10 =>
      vthen (v4_ + v10) fun v13 =>
      rec v13 (v8_ + (1 : Int32))
      )

def X3_darkOf_L23 (σ_ : SS) (o1_ : Nat) (o2_ : Nat) (u5_ : Int32) (u6_ : Int32)  : Nat → Int32 → Int32 → Option Int32 :=
  lp (fun _ _ => none) fun rec v4_ v7_ =>
    if (u6_ + (gI σ_ o2_ 4)) ≤ v7_ then (
      some v4_
      ) else (
      X3_darkOf_L39 σ_ o1_ o2_ u5_ v7_
      (fun v14 =>
        rec v14 (v7_ + (1 : Int32))
        )
      fuel v4_ u5_
      )

def fX3_darkOf (σ0 : SS) (a1 : Nat) (a2 : Nat) (a3 : Int32) : Option Int32 :=
  grd (inb a3 72) <|
  vthen (gI σ0 (a2 + 6) (Int32.toNatClampNeg a3)) fun v2 =>
  vthen (gI σ0 (a2 + 7) (Int32.toNatClampNeg a3)) fun v3 =>
  X3_darkOf_L23 σ0 a1 a2 v2 v3
  fuel (0 : Int32) v3

set_option maxRecDepth 20000 in
theorem sX3_darkOf_L39 {g : GG} {r : Int32} {σ_ : SS} {σ0 : SS} {o1_ : Nat} {o2_ : Nat} {u5_ : Int32} {x6_ : Int32} {u7_ : Int32} {k104 : Int32 → Option Int32} (hs1_ : shp o1_ = (6, 0)) (hs2_ : shp o2_ = (1, 0))
    (hw_ : WT σ_)
    (h0_ : σ_ = σ0)
    (hk104 : ∀ (y4 : Int32), k104 y4 = some r → RR g mX3_darkOf (FinR g mX3_darkOf (some (.int r)) NF σ0) zF 104 [(0, .ref (ad g 31)), (1, .ref (ad g o1_)), (2, .ref (ad g o2_)), (4, .int y4), (5, .int u5_), (6, .int x6_), (7, .int u7_)] [] σ_)
    (n : Nat) : ∀ (v4_ : Int32) (v8_ : Int32), X3_darkOf_L39 σ_ o1_ o2_ u5_ u7_ k104 n v4_ v8_ = some r → RR g mX3_darkOf (FinR g mX3_darkOf (some (.int r)) NF σ0) zF 39 [(0, .ref (ad g 31)), (1, .ref (ad g o1_)), (2, .ref (ad g o2_)), (4, .int v4_), (5, .int u5_), (6, .int x6_), (7, .int u7_), (8, .int v8_)] [] σ_ := by
  unfold X3_darkOf_L39
  refine lp_ind (P := fun (rec : Int32 → Int32 → Option Int32) => ∀ (v4_ : Int32) (v8_ : Int32), rec v4_ v8_ = some r → RR g mX3_darkOf (FinR g mX3_darkOf (some (.int r)) NF σ0) zF 39 [(0, .ref (ad g 31)), (1, .ref (ad g o1_)), (2, .ref (ad g o2_)), (4, .int v4_), (5, .int u5_), (6, .int x6_), (7, .int u7_), (8, .int v8_)] [] σ_) ?_ ?_ n
  · intro v4_ v8_ hr; cases hr
  intro rec ih v4_ v8_ hr
  subst h0_
  refine r_iload (pc := 39) (j := 7) dX3_darkOf_39 rfl ?_
  refine r_iload (pc := 41) (j := 4) dX3_darkOf_41 rfl ?_
  refine r_aload_n (pc := 43) (j := 2) dX3_darkOf_43 rfl rfl ?_
  refine gf1_3 (pc := 44) tw_1_72 hs2_ dX3_darkOf_44 ?_
  refine r_iadd (pc := 47) dX3_darkOf_47 ?_
  refine r_icmp_ge (pc := 48) (tgt := 104) dX3_darkOf_48 rfl (fun hc => ?_) (fun hc => ?_)
  · replace hr := ite_t hc hr
    exact r_pick (ls1 := [(0, .ref (ad g 31)), (1, .ref (ad g o1_)), (2, .ref (ad g o2_)), (4, .int v4_), (5, .int u5_), (6, .int x6_), (7, .int u7_)]) [0, 1, 2, 3, 4, 5, 6] rfl (hk104 v4_ hr)
  replace hr := ite_f hc hr
  refine r_iload (pc := 51) (j := 3) dX3_darkOf_51 rfl ?_
  refine r_aload_n (pc := 53) (j := 1) dX3_darkOf_53 rfl rfl ?_
  refine r_aload_n (pc := 54) (j := 0) dX3_darkOf_54 rfl rfl ?_
  refine gf3_3 (pc := 55) tw_2_28 hw_ dX3_darkOf_55 ?_
  refine r_iconst (pc := 58) (v := (2 : Int32)) dX3_darkOf_58 rfl ?_
  refine r_iload (pc := 59) (j := 7) dX3_darkOf_59 rfl ?_
  refine r_imul (pc := 61) dX3_darkOf_61 ?_
  refine r_iconst (pc := 62) (v := (1 : Int32)) dX3_darkOf_62 rfl ?_
  refine r_iadd (pc := 63) dX3_darkOf_63 ?_
  refine r_iconst (pc := 64) (v := (2 : Int32)) dX3_darkOf_64 rfl ?_
  refine r_iload (pc := 65) (j := 6) dX3_darkOf_65 rfl ?_
  refine r_imul (pc := 67) dX3_darkOf_67 ?_
  refine r_iconst (pc := 68) (v := (1 : Int32)) dX3_darkOf_68 rfl ?_
  refine r_iadd (pc := 69) dX3_darkOf_69 ?_
  obtain ⟨v4, hv4, hr⟩ := bnd1_inv hr
  refine kX5_dotX (pc := 70) hv4 tw_4_126 ⟨nle rfl, nle rfl⟩ (nle rfl) dX3_darkOf_70 ?_
  refine r_aload_n (pc := 73) (j := 0) dX3_darkOf_73 rfl rfl ?_
  refine gf3_3 (pc := 74) tw_2_28 hw_ dX3_darkOf_74 ?_
  refine r_iconst (pc := 77) (v := (2 : Int32)) dX3_darkOf_77 rfl ?_
  refine r_iload (pc := 78) (j := 7) dX3_darkOf_78 rfl ?_
  refine r_imul (pc := 80) dX3_darkOf_80 ?_
  refine r_iconst (pc := 81) (v := (1 : Int32)) dX3_darkOf_81 rfl ?_
  refine r_iadd (pc := 82) dX3_darkOf_82 ?_
  refine r_iconst (pc := 83) (v := (2 : Int32)) dX3_darkOf_83 rfl ?_
  refine r_iload (pc := 84) (j := 6) dX3_darkOf_84 rfl ?_
  refine r_imul (pc := 86) dX3_darkOf_86 ?_
  refine r_iconst (pc := 87) (v := (1 : Int32)) dX3_darkOf_87 rfl ?_
  refine r_iadd (pc := 88) dX3_darkOf_88 ?_
  obtain ⟨v7, hv7, hr⟩ := bnd1_inv hr
  refine kX5_dotY (pc := 89) hv7 tw_4_127 ⟨nle rfl, nle rfl⟩ (nle rfl) dX3_darkOf_89 ?_
  obtain ⟨v10, hv10, hr⟩ := bnd1_inv hr
  refine kX6_at (pc := 92) hv10 hs1_ tw_4_128 ⟨nle rfl, nle rfl⟩ (nle rfl) dX3_darkOf_92 ?_
  refine r_iadd (pc := 95) dX3_darkOf_95 ?_
  refine r_topi fun v13 ev13 => ?_
  replace hr := vthen_inv hr v13 ev13
  refine r_istore (pc := 96) (ls1 := [(4, .int v13), (0, .ref (ad g 31)), (1, .ref (ad g o1_)), (2, .ref (ad g o2_)), (5, .int u5_), (6, .int x6_), (7, .int u7_), (8, .int v8_)]) dX3_darkOf_96 (nle rfl) rfl ?_
  refine r_iinc (pc := 98) (j := 7) (v := (v8_ + (1 : Int32))) (ls1 := [(8, .int (v8_ + (1 : Int32))), (4, .int v13), (0, .ref (ad g 31)), (1, .ref (ad g o1_)), (2, .ref (ad g o2_)), (5, .int u5_), (6, .int x6_), (7, .int u7_)]) dX3_darkOf_98 rfl rfl (nle rfl) rfl ?_
  refine r_goto (pc := 101) (tgt := 39) dX3_darkOf_101 rfl ?_
  exact r_pick (ls1 := [(0, .ref (ad g 31)), (1, .ref (ad g o1_)), (2, .ref (ad g o2_)), (4, .int v13), (5, .int u5_), (6, .int x6_), (7, .int u7_), (8, .int (v8_ + (1 : Int32)))]) [2, 3, 4, 1, 5, 6, 7, 0] rfl (ih v13 (v8_ + (1 : Int32)) hr)

set_option maxRecDepth 20000 in
theorem sX3_darkOf_L23 {g : GG} {r : Int32} {σ_ : SS} {σ0 : SS} {o1_ : Nat} {o2_ : Nat} {u5_ : Int32} {u6_ : Int32}  (hs1_ : shp o1_ = (6, 0)) (hs2_ : shp o2_ = (1, 0))
    (hw_ : WT σ_)
    (h0_ : σ_ = σ0)
    (n : Nat) : ∀ (v4_ : Int32) (v7_ : Int32), X3_darkOf_L23 σ_ o1_ o2_ u5_ u6_ n v4_ v7_ = some r → RR g mX3_darkOf (FinR g mX3_darkOf (some (.int r)) NF σ0) zF 23 [(0, .ref (ad g 31)), (1, .ref (ad g o1_)), (2, .ref (ad g o2_)), (4, .int v4_), (5, .int u5_), (6, .int u6_), (7, .int v7_)] [] σ_ := by
  unfold X3_darkOf_L23
  refine lp_ind (P := fun (rec : Int32 → Int32 → Option Int32) => ∀ (v4_ : Int32) (v7_ : Int32), rec v4_ v7_ = some r → RR g mX3_darkOf (FinR g mX3_darkOf (some (.int r)) NF σ0) zF 23 [(0, .ref (ad g 31)), (1, .ref (ad g o1_)), (2, .ref (ad g o2_)), (4, .int v4_), (5, .int u5_), (6, .int u6_), (7, .int v7_)] [] σ_) ?_ ?_ n
  · intro v4_ v7_ hr; cases hr
  intro rec ih v4_ v7_ hr
  subst h0_
  refine r_iload (pc := 23) (j := 6) dX3_darkOf_23 rfl ?_
  refine r_iload (pc := 25) (j := 5) dX3_darkOf_25 rfl ?_
  refine r_aload_n (pc := 27) (j := 2) dX3_darkOf_27 rfl rfl ?_
  refine gf1_4 (pc := 28) tw_1_76 hs2_ dX3_darkOf_28 ?_
  refine r_iadd (pc := 31) dX3_darkOf_31 ?_
  refine r_icmp_ge (pc := 32) (tgt := 110) dX3_darkOf_32 rfl (fun hc => ?_) (fun hc => ?_)
  · replace hr := ite_t hc hr
    refine r_iload (pc := 110) (j := 3) dX3_darkOf_110 rfl ?_
    exact l_opi hr (r_iret (pc := 112) (v := v4_) rfl rfl ⟨Nat.le_refl _, Nat.le_refl _⟩ dX3_darkOf_112)
  replace hr := ite_f hc hr
  refine r_iload (pc := 35) (j := 4) dX3_darkOf_35 rfl ?_
  refine r_istore (pc := 37) (ls1 := [(8, .int u5_), (0, .ref (ad g 31)), (1, .ref (ad g o1_)), (2, .ref (ad g o2_)), (4, .int v4_), (5, .int u5_), (6, .int u6_), (7, .int v7_)]) dX3_darkOf_37 (nle rfl) rfl ?_
  refine r_pick (ls1 := [(0, .ref (ad g 31)), (1, .ref (ad g o1_)), (2, .ref (ad g o2_)), (4, .int v4_), (5, .int u5_), (6, .int u6_), (7, .int v7_), (8, .int u5_)]) [1, 2, 3, 4, 5, 6, 7, 0] rfl ?_
  refine sX3_darkOf_L39 hs1_ hs2_ hw_ rfl (fun v14 hr => ?_) fuel v4_ u5_ hr
  refine r_iinc (pc := 104) (j := 6) (v := (v7_ + (1 : Int32))) (ls1 := [(7, .int (v7_ + (1 : Int32))), (0, .ref (ad g 31)), (1, .ref (ad g o1_)), (2, .ref (ad g o2_)), (4, .int v14), (5, .int u5_), (6, .int u6_)]) dX3_darkOf_104 rfl rfl (nle rfl) rfl ?_
  refine r_goto (pc := 107) (tgt := 23) dX3_darkOf_107 rfl ?_
  exact r_pick (ls1 := [(0, .ref (ad g 31)), (1, .ref (ad g o1_)), (2, .ref (ad g o2_)), (4, .int v14), (5, .int u5_), (6, .int u6_), (7, .int (v7_ + (1 : Int32)))]) [1, 2, 3, 4, 5, 6, 0] rfl (ih v14 (v7_ + (1 : Int32)) hr)

set_option maxRecDepth 20000 in
theorem sX3_darkOf {g : GG} {σ0 : SS} {a1 : Nat} {a2 : Nat} {a3 : Int32} {r : Int32} (hr : fX3_darkOf σ0 a1 a2 a3 = some r) (hs1 : shp a1 = (6, 0)) (hs2 : shp a2 = (1, 0)) : Ct g mX3_darkOf [.ref (ad g 31), .ref (ad g a1), .ref (ad g a2), .int a3] NF σ0 (some (.int r)) NF σ0 := by
  refine Ct.of (by decide +kernel) (nle rfl) fun hw0 => ?_
  have hw := hw0 rfl
  unfold fX3_darkOf at hr
  change RR g mX3_darkOf (FinR g mX3_darkOf (some (.int r)) NF σ0) zF 0 [(0, .ref (ad g 31)), (1, .ref (ad g a1)), (2, .ref (ad g a2)), (3, .int a3)] [] σ0
  refine r_iconst (pc := 0) (v := (0 : Int32)) dX3_darkOf_0 rfl ?_
  refine r_istore (pc := 1) (ls1 := [(4, .int (0 : Int32)), (0, .ref (ad g 31)), (1, .ref (ad g a1)), (2, .ref (ad g a2)), (3, .int a3)]) dX3_darkOf_1 (nle rfl) rfl ?_
  refine r_aload_n (pc := 3) (j := 3) dX3_darkOf_3 rfl rfl ?_
  refine gf1_12 (pc := 4) tw_1_105 hw hs2 dX3_darkOf_4 ?_
  refine r_iload_n (pc := 7) (j := 4) dX3_darkOf_7 rfl rfl ?_
  obtain ⟨h1, hr⟩ := grd_inv hr
  refine x_iald (pc := 8) (k := (Int32.toNatClampNeg a3)) (sh1_12 hs2) h1 rfl dX3_darkOf_8 ?_
  refine r_topi fun v2 ev2 => ?_
  replace hr := vthen_inv hr v2 ev2
  refine r_istore (pc := 9) (ls1 := [(5, .int v2), (4, .int (0 : Int32)), (0, .ref (ad g 31)), (1, .ref (ad g a1)), (2, .ref (ad g a2)), (3, .int a3)]) dX3_darkOf_9 (nle rfl) rfl ?_
  refine r_aload_n (pc := 11) (j := 4) dX3_darkOf_11 rfl rfl ?_
  refine gf1_13 (pc := 12) tw_1_108 hw hs2 dX3_darkOf_12 ?_
  refine r_iload_n (pc := 15) (j := 5) dX3_darkOf_15 rfl rfl ?_
  refine x_iald (pc := 16) (k := (Int32.toNatClampNeg a3)) (sh1_13 hs2) h1 rfl dX3_darkOf_16 ?_
  refine r_topi fun v3 ev3 => ?_
  replace hr := vthen_inv hr v3 ev3
  refine r_istore (pc := 17) (ls1 := [(6, .int v3), (5, .int v2), (4, .int (0 : Int32)), (0, .ref (ad g 31)), (1, .ref (ad g a1)), (2, .ref (ad g a2)), (3, .int a3)]) dX3_darkOf_17 (nle rfl) rfl ?_
  refine r_iload (pc := 19) (j := 0) dX3_darkOf_19 rfl ?_
  refine r_istore (pc := 21) (ls1 := [(7, .int v3), (6, .int v3), (5, .int v2), (4, .int (0 : Int32)), (0, .ref (ad g 31)), (1, .ref (ad g a1)), (2, .ref (ad g a2)), (3, .int a3)]) dX3_darkOf_21 (nle rfl) rfl ?_
  refine r_pick (ls1 := [(0, .ref (ad g 31)), (1, .ref (ad g a1)), (2, .ref (ad g a2)), (4, .int (0 : Int32)), (5, .int v2), (6, .int v3), (7, .int v3)]) [4, 5, 6, 3, 2, 1, 0] rfl ?_
  refine sX3_darkOf_L23 hs1 hs2 hw rfl  fuel (0 : Int32) v3 hr

theorem kX3_darkOf {g : GG} {σ0 : SS} {a1 : Nat} {a2 : Nat} {a3 : Int32} {v : Int32} {M : MM} {F : State → Array Value → List Frame → State → Prop} {pc index : Nat} {ls : List (Nat × Value)} {rest : List Value} (hf : fX3_darkOf σ0 a1 a2 a3 = some v) (hs1 : shp a1 = (6, 0)) (hs2 : shp a2 = (1, 0)) (hl : Cond.methodLink M.1.cls index yX3_darkOf ∈ lw_gt) (hR : mX3_darkOf.2.2.2.2.frames + 1 ≤ M.2.2.2.2.frames ∧ 8 + (mX3_darkOf.2.2.1 + 11) + mX3_darkOf.2.2.2.2.locals ≤ M.2.2.2.2.locals) (hrest : (rest.map fun v => v.category).sum ≤ 8) (hd : decode M.2.1 pc = .ok (.invokevirtual index, 3)) (k : RR g M F zF (pc + 3) ls (.int v :: rest) σ0) : RR g M F zF pc ls (.int a3 :: .ref (ad g a2) :: .ref (ad g a1) :: .ref (ad g 31) :: rest) σ0 :=
  r_callV (z := zF) (N := mX3_darkOf) (nn := 3) (o1 := some (.int v)) (sX3_darkOf hf hs1 hs2) (rfl : shp 31 = (3, 0)) (by decide) (shp_le (rfl : shp 31 = (3, 0)) (nle rfl)) (ci := 3) rfl rfl tw_4_125 tw_1_5 hl tw_4_124 tp_27 ⟨by decide, by decide, rfl⟩ hR rfl hrest hd ⟨Nat.zero_le _, Nat.zero_le _⟩ rfl (fun h => k)

theorem dX3_measure_0 : decode cX3_measure 0 = .ok (.aload_n 0, 1) := by decide +kernel
theorem dX3_measure_1 : decode cX3_measure 1 = .ok (.aload_n 1, 1) := by decide +kernel
theorem dX3_measure_2 : decode cX3_measure 2 = .ok (.invokevirtual 87, 3) := by decide +kernel
theorem dX3_measure_5 : decode cX3_measure 5 = .ok (.ifCond .ne 5, 3) := by decide +kernel
theorem dX3_measure_8 : decode cX3_measure 8 = .ok (.iconst 0, 1) := by decide +kernel
theorem dX3_measure_9 : decode cX3_measure 9 = .ok (.ireturn, 1) := by decide +kernel
theorem dX3_measure_10 : decode cX3_measure 10 = .ok (.aload_n 0, 1) := by decide +kernel
theorem dX3_measure_11 : decode cX3_measure 11 = .ok (.getfield 28, 3) := by decide +kernel
theorem dX3_measure_14 : decode cX3_measure 14 = .ok (.aload_n 2, 1) := by decide +kernel
theorem dX3_measure_15 : decode cX3_measure 15 = .ok (.getfield 91, 3) := by decide +kernel
theorem dX3_measure_18 : decode cX3_measure 18 = .ok (.aload_n 2, 1) := by decide +kernel
theorem dX3_measure_19 : decode cX3_measure 19 = .ok (.getfield 94, 3) := by decide +kernel
theorem dX3_measure_22 : decode cX3_measure 22 = .ok (.invokevirtual 95, 3) := by decide +kernel
theorem dX3_measure_25 : decode cX3_measure 25 = .ok (.iconst 0, 1) := by decide +kernel
theorem dX3_measure_26 : decode cX3_measure 26 = .ok (.istore_n 3, 1) := by decide +kernel
theorem dX3_measure_27 : decode cX3_measure 27 = .ok (.iload_n 3, 1) := by decide +kernel
theorem dX3_measure_28 : decode cX3_measure 28 = .ok (.aload_n 2, 1) := by decide +kernel
theorem dX3_measure_29 : decode cX3_measure 29 = .ok (.getfield 99, 3) := by decide +kernel
theorem dX3_measure_32 : decode cX3_measure 32 = .ok (.if_icmp .ge 52, 3) := by decide +kernel
theorem dX3_measure_35 : decode cX3_measure 35 = .ok (.aload_n 0, 1) := by decide +kernel
theorem dX3_measure_36 : decode cX3_measure 36 = .ok (.getfield 32, 3) := by decide +kernel
theorem dX3_measure_39 : decode cX3_measure 39 = .ok (.iload_n 3, 1) := by decide +kernel
theorem dX3_measure_40 : decode cX3_measure 40 = .ok (.aload_n 0, 1) := by decide +kernel
theorem dX3_measure_41 : decode cX3_measure 41 = .ok (.aload_n 1, 1) := by decide +kernel
theorem dX3_measure_42 : decode cX3_measure 42 = .ok (.aload_n 2, 1) := by decide +kernel
theorem dX3_measure_43 : decode cX3_measure 43 = .ok (.iload_n 3, 1) := by decide +kernel
theorem dX3_measure_44 : decode cX3_measure 44 = .ok (.invokevirtual 102, 3) := by decide +kernel
theorem dX3_measure_47 : decode cX3_measure 47 = .ok (.iastore, 1) := by decide +kernel
theorem dX3_measure_48 : decode cX3_measure 48 = .ok (.aload_n 0, 1) := by decide +kernel
theorem dX3_measure_49 : decode cX3_measure 49 = .ok (.iload_n 3, 1) := by decide +kernel
theorem dX3_measure_50 : decode cX3_measure 50 = .ok (.ifCond .ne 12, 3) := by decide +kernel
theorem dX3_measure_53 : decode cX3_measure 53 = .ok (.aload_n 0, 1) := by decide +kernel
theorem dX3_measure_54 : decode cX3_measure 54 = .ok (.getfield 32, 3) := by decide +kernel
theorem dX3_measure_57 : decode cX3_measure 57 = .ok (.iload_n 3, 1) := by decide +kernel
theorem dX3_measure_58 : decode cX3_measure 58 = .ok (.iaload, 1) := by decide +kernel
theorem dX3_measure_59 : decode cX3_measure 59 = .ok (.goto 16, 3) := by decide +kernel
theorem dX3_measure_62 : decode cX3_measure 62 = .ok (.aload_n 0, 1) := by decide +kernel
theorem dX3_measure_63 : decode cX3_measure 63 = .ok (.getfield 106, 3) := by decide +kernel
theorem dX3_measure_66 : decode cX3_measure 66 = .ok (.aload_n 0, 1) := by decide +kernel
theorem dX3_measure_67 : decode cX3_measure 67 = .ok (.getfield 32, 3) := by decide +kernel
theorem dX3_measure_70 : decode cX3_measure 70 = .ok (.iload_n 3, 1) := by decide +kernel
theorem dX3_measure_71 : decode cX3_measure 71 = .ok (.iaload, 1) := by decide +kernel
theorem dX3_measure_72 : decode cX3_measure 72 = .ok (.invokestatic 109, 3) := by decide +kernel
theorem dX3_measure_75 : decode cX3_measure 75 = .ok (.putfield 106, 3) := by decide +kernel
theorem dX3_measure_78 : decode cX3_measure 78 = .ok (.iinc 3 1, 3) := by decide +kernel
theorem dX3_measure_81 : decode cX3_measure 81 = .ok (.goto (-54), 3) := by decide +kernel
theorem dX3_measure_84 : decode cX3_measure 84 = .ok (.iconst 1, 1) := by decide +kernel
theorem dX3_measure_85 : decode cX3_measure 85 = .ok (.ireturn, 1) := by decide +kernel
def mX3_measure : MM := (yX3_measure, cX3_measure, 4, Option.some Jvm.ClassFile.FieldType.boolean, { frames := 4, cells := 0, slots := 0, locals := 102 })
def X3_measure_L27 (o1_ : Nat) (o2_ : Nat)  : Nat → Int32 → SS → Option (Bool × SS) :=
  lp (fun _ _ => none) fun rec v3_ σ_ =>
    if (gI σ_ o2_ 6) ≤ v3_ then (
      some (true, σ_)
      ) else (
      bnd1 (fX3_darkOf σ_ o1_ o2_ v3_) fun v6 =>
      grd (inb v3_ 72) <|
      vthen (sI σ_ 51 (Int32.toNatClampNeg v3_) v6) fun σ10 =>
      vthen (fun (s11 : Int32) =>
        vthen (sI σ10 31 6 s11) fun σ12 =>
        rec (v3_ + (1 : Int32)) σ12
        ) fun j75 =>
      if v3_ = 0 then (
        j75 (gI σ10 51 (Int32.toNatClampNeg v3_))
        ) else (
        j75 (fJ9_min_7cf53 σ10 (gI σ10 31 6) (gI σ10 51 (Int32.toNatClampNeg v3_)))
        )
      )

def fX3_measure (σ : SS) (a1 : Nat) (a2 : Nat) : Option (Bool × SS) :=
  bnd (fX3_locate σ a1) fun b2 σ4 =>
  if b2 = true then (
    bnd1 (fX5_spread σ4 (gI σ4 a2 1) (gI σ4 a2 2)) fun σ5 =>
    X3_measure_L27 a1 a2
    fuel (0 : Int32) σ5
    ) else (
    some (false, σ4)
    )

set_option maxRecDepth 20000 in
theorem sX3_measure_L27 {g : GG} {r : Bool × SS} {o1_ : Nat} {o2_ : Nat}  (hs1_ : shp o1_ = (6, 0)) (hs2_ : shp o2_ = (1, 0))
    (n : Nat) : ∀ (v3_ : Int32) (σ_ : SS), X3_measure_L27 o1_ o2_ n v3_ σ_ = some r → WT σ_ → RR g mX3_measure (FinR g mX3_measure (some (.int (b2i r.1))) NF r.2) zF 27 [(0, .ref (ad g 31)), (1, .ref (ad g o1_)), (2, .ref (ad g o2_)), (3, .int v3_)] [] σ_ := by
  unfold X3_measure_L27
  refine lp_ind (P := fun (rec : Int32 → SS → Option (Bool × SS)) => ∀ (v3_ : Int32) (σ_ : SS), rec v3_ σ_ = some r → WT σ_ → RR g mX3_measure (FinR g mX3_measure (some (.int (b2i r.1))) NF r.2) zF 27 [(0, .ref (ad g 31)), (1, .ref (ad g o1_)), (2, .ref (ad g o2_)), (3, .int v3_)] [] σ_) ?_ ?_ n
  · intro v3_ σ_ hr; cases hr
  intro rec ih v3_ σ_ hr hw_
  refine r_iload_n (pc := 27) (j := 3) dX3_measure_27 rfl rfl ?_
  refine r_aload_n (pc := 28) (j := 2) dX3_measure_28 rfl rfl ?_
  refine gf1_6 (pc := 29) tw_1_83 hs2_ dX3_measure_29 ?_
  refine r_icmp_ge (pc := 32) (tgt := 84) dX3_measure_32 rfl (fun hc => ?_) (fun hc => ?_)
  · replace hr := ite_t hc hr
    refine r_iconst (pc := 84) (v := (1 : Int32)) dX3_measure_84 rfl ?_
    exact l_osz hr (r_zret (pc := 85) (v := b2i true) (ty := .boolean) rfl (b2i_nar _) rfl ⟨Nat.le_refl _, Nat.le_refl _⟩ dX3_measure_85)
  replace hr := ite_f hc hr
  refine r_aload_n (pc := 35) (j := 0) dX3_measure_35 rfl rfl ?_
  refine gf3_4 (pc := 36) tw_2_30 hw_ dX3_measure_36 ?_
  refine r_iload_n (pc := 39) (j := 3) dX3_measure_39 rfl rfl ?_
  refine r_aload_n (pc := 40) (j := 0) dX3_measure_40 rfl rfl ?_
  refine r_aload_n (pc := 41) (j := 1) dX3_measure_41 rfl rfl ?_
  refine r_aload_n (pc := 42) (j := 2) dX3_measure_42 rfl rfl ?_
  refine r_iload_n (pc := 43) (j := 3) dX3_measure_43 rfl rfl ?_
  obtain ⟨v6, hv6, hr⟩ := bnd1_inv hr
  refine kX3_darkOf (pc := 44) hv6 hs1_ hs2_ tw_4_122 ⟨nle rfl, nle rfl⟩ (nle rfl) dX3_measure_44 ?_
  obtain ⟨h9, hr⟩ := grd_inv hr
  refine x_iast (pc := 47) (j := (Int32.toNatClampNeg v3_)) rfl h9 rfl dX3_measure_47 fun σ10 eσ10 => ?_
  replace hr := vthen_inv hr σ10 eσ10
  have hσ10 := wtI eσ10 hw_
  refine r_aload_n (pc := 48) (j := 0) dX3_measure_48 rfl rfl ?_
  refine r_iload_n (pc := 49) (j := 3) dX3_measure_49 rfl rfl ?_
  obtain ⟨j75, ej75, hr⟩ := vth_ex hr
  have hj75 : ∀ (s11 : Int32), j75 s11 = some r → RR g mX3_measure (FinR g mX3_measure (some (.int (b2i r.1))) NF r.2) zF 75 [(0, .ref (ad g 31)), (1, .ref (ad g o1_)), (2, .ref (ad g o2_)), (3, .int v3_)] [.int s11, .ref (ad g 31)] σ10 := by
    intro s11 hr
    replace hr := (congrFun ej75 s11).symm.trans hr
    refine pf3_6 (pc := 75) tw_2_33 rfl dX3_measure_75 fun σ12 eσ12 => ?_
    replace hr := vthen_inv hr σ12 eσ12
    have hσ12 := wtI eσ12 hσ10
    refine r_iinc (pc := 78) (j := 3) (v := (v3_ + (1 : Int32))) (ls1 := [(3, .int (v3_ + (1 : Int32))), (0, .ref (ad g 31)), (1, .ref (ad g o1_)), (2, .ref (ad g o2_))]) dX3_measure_78 rfl rfl (nle rfl) rfl ?_
    refine r_goto (pc := 81) (tgt := 27) dX3_measure_81 rfl ?_
    exact r_pick (ls1 := [(0, .ref (ad g 31)), (1, .ref (ad g o1_)), (2, .ref (ad g o2_)), (3, .int (v3_ + (1 : Int32)))]) [1, 2, 3, 0] rfl (ih (v3_ + (1 : Int32)) σ12 hr hσ12)
  refine r_if_ne (pc := 50) (tgt := 62) dX3_measure_50 rfl (fun hc => ?_) (fun hc => ?_)
  · replace hr := ite_f hc hr
    refine r_aload_n (pc := 62) (j := 0) dX3_measure_62 rfl rfl ?_
    refine gf3_6 (pc := 63) tw_2_33 rfl dX3_measure_63 ?_
    refine r_aload_n (pc := 66) (j := 0) dX3_measure_66 rfl rfl ?_
    refine gf3_4 (pc := 67) tw_2_30 hσ10 dX3_measure_67 ?_
    refine r_iload_n (pc := 70) (j := 3) dX3_measure_70 rfl rfl ?_
    refine x_iald (pc := 71) (k := (Int32.toNatClampNeg v3_)) rfl h9 rfl dX3_measure_71 ?_
    refine kJ9_min_7cf53 (pc := 72) (hf := rfl) tw_4_129 ⟨nle rfl, nle rfl⟩ (nle rfl) dX3_measure_72 ?_
    exact r_pick (ls1 := [(0, .ref (ad g 31)), (1, .ref (ad g o1_)), (2, .ref (ad g o2_)), (3, .int v3_)]) [0, 1, 2, 3] rfl (hj75 (fJ9_min_7cf53 σ10 (gI σ10 31 6) (gI σ10 51 (Int32.toNatClampNeg v3_))) hr)
  replace hr := ite_t hc hr
  refine r_aload_n (pc := 53) (j := 0) dX3_measure_53 rfl rfl ?_
  refine gf3_4 (pc := 54) tw_2_30 hσ10 dX3_measure_54 ?_
  refine r_iload_n (pc := 57) (j := 3) dX3_measure_57 rfl rfl ?_
  refine x_iald (pc := 58) (k := (Int32.toNatClampNeg v3_)) rfl h9 rfl dX3_measure_58 ?_
  refine r_goto (pc := 59) (tgt := 75) dX3_measure_59 rfl ?_
  exact r_pick (ls1 := [(0, .ref (ad g 31)), (1, .ref (ad g o1_)), (2, .ref (ad g o2_)), (3, .int v3_)]) [0, 1, 2, 3] rfl (hj75 (gI σ10 51 (Int32.toNatClampNeg v3_)) hr)

set_option maxRecDepth 20000 in
theorem sX3_measure {g : GG} {σ : SS} {a1 : Nat} {a2 : Nat} {r : Bool × SS} (hr : fX3_measure σ a1 a2 = some r) (hs1 : shp a1 = (6, 0)) (hs2 : shp a2 = (1, 0)) : Ct g mX3_measure [.ref (ad g 31), .ref (ad g a1), .ref (ad g a2)] NF σ (some (.int (b2i r.1))) NF r.2 := by
  refine Ct.of (by decide +kernel) (nle rfl) fun hw0 => ?_
  have hw := hw0 rfl
  unfold fX3_measure at hr
  change RR g mX3_measure (FinR g mX3_measure (some (.int (b2i r.1))) NF r.2) zF 0 [(0, .ref (ad g 31)), (1, .ref (ad g a1)), (2, .ref (ad g a2))] [] σ
  refine r_aload_n (pc := 0) (j := 0) dX3_measure_0 rfl rfl ?_
  refine r_aload_n (pc := 1) (j := 1) dX3_measure_1 rfl rfl ?_
  obtain ⟨b2, σ4, eσ4, hr⟩ := bnd_inv hr
  refine kX3_locate (pc := 2) eσ4 hs1 tw_4_120 ⟨nle rfl, nle rfl⟩ (nle rfl) dX3_measure_2 fun hσ4 => ?_
  refine r_ifB_ne (pc := 5) (tgt := 10) dX3_measure_5 rfl (fun hc => ?_) (fun hc => ?_)
  · replace hr := ite_t hc hr
    refine r_aload_n (pc := 10) (j := 0) dX3_measure_10 rfl rfl ?_
    refine gf3_3 (pc := 11) tw_2_28 hσ4 dX3_measure_11 ?_
    refine r_aload_n (pc := 14) (j := 2) dX3_measure_14 rfl rfl ?_
    refine gf1_1 (pc := 15) tw_1_64 hs2 dX3_measure_15 ?_
    refine r_aload_n (pc := 18) (j := 2) dX3_measure_18 rfl rfl ?_
    refine gf1_2 (pc := 19) tw_1_68 hs2 dX3_measure_19 ?_
    obtain ⟨σ5, eσ5, hr⟩ := bnd1_inv hr
    refine kX5_spread (pc := 22) eσ5 tw_4_121 ⟨nle rfl, nle rfl⟩ (nle rfl) dX3_measure_22 fun hσ5 => ?_
    refine r_iconst (pc := 25) (v := (0 : Int32)) dX3_measure_25 rfl ?_
    refine r_istore_n (pc := 26) (ls1 := [(3, .int (0 : Int32)), (0, .ref (ad g 31)), (1, .ref (ad g a1)), (2, .ref (ad g a2))]) dX3_measure_26 rfl (nle rfl) rfl ?_
    refine r_pick (ls1 := [(0, .ref (ad g 31)), (1, .ref (ad g a1)), (2, .ref (ad g a2)), (3, .int (0 : Int32))]) [1, 2, 3, 0] rfl ?_
    refine sX3_measure_L27 hs1 hs2    fuel (0 : Int32) σ5 hr hσ5
  replace hr := ite_f hc hr
  refine r_iconst (pc := 8) (v := (0 : Int32)) dX3_measure_8 rfl ?_
  exact l_osz hr (r_zret (pc := 9) (v := b2i false) (ty := .boolean) rfl (b2i_nar _) rfl ⟨Nat.le_refl _, Nat.le_refl _⟩ dX3_measure_9)

theorem kX3_measure {g : GG} {σ : SS} {a1 : Nat} {a2 : Nat} {v : Bool} {σ2 : SS} {M : MM} {F : State → Array Value → List Frame → State → Prop} {pc index : Nat} {ls : List (Nat × Value)} {rest : List Value} (hf : fX3_measure σ a1 a2 = some (v, σ2)) (hs1 : shp a1 = (6, 0)) (hs2 : shp a2 = (1, 0)) (hl : Cond.methodLink M.1.cls index yX3_measure ∈ lw_gt) (hR : mX3_measure.2.2.2.2.frames + 1 ≤ M.2.2.2.2.frames ∧ 8 + (mX3_measure.2.2.1 + 11) + mX3_measure.2.2.2.2.locals ≤ M.2.2.2.2.locals) (hrest : (rest.map fun v => v.category).sum ≤ 8) (hd : decode M.2.1 pc = .ok (.invokevirtual index, 3)) (k : WT σ2 → RR g M F zF (pc + 3) ls (.int (b2i v) :: rest) σ2) : RR g M F zF pc ls (.ref (ad g a2) :: .ref (ad g a1) :: .ref (ad g 31) :: rest) σ :=
  r_callV (z := zF) (N := mX3_measure) (nn := 2) (o1 := some (.int (b2i v))) (sX3_measure hf hs1 hs2) (rfl : shp 31 = (3, 0)) (by decide) (shp_le (rfl : shp 31 = (3, 0)) (nle rfl)) (ci := 3) rfl rfl tw_4_119 tw_1_5 hl tw_4_117 tw_4_118 ⟨by decide, by decide, rfl⟩ hR rfl hrest hd ⟨Nat.zero_le _, Nat.zero_le _⟩ rfl (fun h => k (h rfl))

theorem dX7_dark_0 : decode cX7_dark 0 = .ok (.aload_n 0, 1) := by decide +kernel
theorem dX7_dark_1 : decode cX7_dark 1 = .ok (.getfield 32, 3) := by decide +kernel
theorem dX7_dark_4 : decode cX7_dark 4 = .ok (.iload_n 1, 1) := by decide +kernel
theorem dX7_dark_5 : decode cX7_dark 5 = .ok (.invokevirtual 121, 3) := by decide +kernel
theorem dX7_dark_8 : decode cX7_dark 8 = .ok (.ifCond .eq 20, 3) := by decide +kernel
theorem dX7_dark_11 : decode cX7_dark 11 = .ok (.iload_n 2, 1) := by decide +kernel
theorem dX7_dark_12 : decode cX7_dark 12 = .ok (.iconst (-1), 1) := by decide +kernel
theorem dX7_dark_13 : decode cX7_dark 13 = .ok (.if_icmp .eq 17, 3) := by decide +kernel
theorem dX7_dark_16 : decode cX7_dark 16 = .ok (.aload_n 0, 1) := by decide +kernel
theorem dX7_dark_17 : decode cX7_dark 17 = .ok (.getfield 32, 3) := by decide +kernel
theorem dX7_dark_20 : decode cX7_dark 20 = .ok (.iload_n 1, 1) := by decide +kernel
theorem dX7_dark_21 : decode cX7_dark 21 = .ok (.iload_n 2, 1) := by decide +kernel
theorem dX7_dark_22 : decode cX7_dark 22 = .ok (.invokevirtual 138, 3) := by decide +kernel
theorem dX7_dark_25 : decode cX7_dark 25 = .ok (.ifCond .ne 5, 3) := by decide +kernel
theorem dX7_dark_28 : decode cX7_dark 28 = .ok (.iconst (-1), 1) := by decide +kernel
theorem dX7_dark_29 : decode cX7_dark 29 = .ok (.ireturn, 1) := by decide +kernel
theorem dX7_dark_30 : decode cX7_dark 30 = .ok (.aload_n 0, 1) := by decide +kernel
theorem dX7_dark_31 : decode cX7_dark 31 = .ok (.getfield 62, 3) := by decide +kernel
theorem dX7_dark_34 : decode cX7_dark 34 = .ok (.aload_n 0, 1) := by decide +kernel
theorem dX7_dark_35 : decode cX7_dark 35 = .ok (.getfield 18, 3) := by decide +kernel
theorem dX7_dark_38 : decode cX7_dark 38 = .ok (.aload_n 0, 1) := by decide +kernel
theorem dX7_dark_39 : decode cX7_dark 39 = .ok (.getfield 32, 3) := by decide +kernel
theorem dX7_dark_42 : decode cX7_dark 42 = .ok (.invokevirtual 292, 3) := by decide +kernel
theorem dX7_dark_45 : decode cX7_dark 45 = .ok (.ifCond .ne 6, 3) := by decide +kernel
theorem dX7_dark_48 : decode cX7_dark 48 = .ok (.bipush (-2), 2) := by decide +kernel
theorem dX7_dark_50 : decode cX7_dark 50 = .ok (.ireturn, 1) := by decide +kernel
theorem dX7_dark_51 : decode cX7_dark 51 = .ok (.iload_n 2, 1) := by decide +kernel
theorem dX7_dark_52 : decode cX7_dark 52 = .ok (.iconst (-1), 1) := by decide +kernel
theorem dX7_dark_53 : decode cX7_dark 53 = .ok (.if_icmp .ne 13, 3) := by decide +kernel
theorem dX7_dark_56 : decode cX7_dark 56 = .ok (.aload_n 0, 1) := by decide +kernel
theorem dX7_dark_57 : decode cX7_dark 57 = .ok (.getfield 62, 3) := by decide +kernel
theorem dX7_dark_60 : decode cX7_dark 60 = .ok (.getfield 296, 3) := by decide +kernel
theorem dX7_dark_63 : decode cX7_dark 63 = .ok (.goto 22, 3) := by decide +kernel
theorem dX7_dark_66 : decode cX7_dark 66 = .ok (.aload_n 0, 1) := by decide +kernel
theorem dX7_dark_67 : decode cX7_dark 67 = .ok (.getfield 62, 3) := by decide +kernel
theorem dX7_dark_70 : decode cX7_dark 70 = .ok (.getfield 299, 3) := by decide +kernel
theorem dX7_dark_73 : decode cX7_dark 73 = .ok (.aload_n 0, 1) := by decide +kernel
theorem dX7_dark_74 : decode cX7_dark 74 = .ok (.getfield 32, 3) := by decide +kernel
theorem dX7_dark_77 : decode cX7_dark 77 = .ok (.getfield 145, 3) := by decide +kernel
theorem dX7_dark_80 : decode cX7_dark 80 = .ok (.iload_n 1, 1) := by decide +kernel
theorem dX7_dark_81 : decode cX7_dark 81 = .ok (.iaload, 1) := by decide +kernel
theorem dX7_dark_82 : decode cX7_dark 82 = .ok (.iload_n 2, 1) := by decide +kernel
theorem dX7_dark_83 : decode cX7_dark 83 = .ok (.iadd, 1) := by decide +kernel
theorem dX7_dark_84 : decode cX7_dark 84 = .ok (.iaload, 1) := by decide +kernel
theorem dX7_dark_85 : decode cX7_dark 85 = .ok (.ireturn, 1) := by decide +kernel
def mX7_dark : MM := (yX7_dark, cX7_dark, 3, Option.some Jvm.ClassFile.FieldType.int, { frames := 5, cells := 0, slots := 0, locals := 125 })
def fX7_dark (σ : SS) (a1 : Int32) (a2 : Int32) : Option (Int32 × SS) :=
  if (fX1_hasQuestion σ (gR σ 1 5) a1) = true then (
    vthen (fun (_u : Unit) =>
      bnd (fX3_measure σ (gR σ 1 2) (gR σ 1 5)) fun b2 σ4 =>
      if b2 = true then (
        if a2 = (-1 : Int32) then (
          some ((gI σ4 31 6), σ4)
          ) else (
          grd (inb a1 12) <|
          grd (inb ((gI σ4 ((gR σ4 1 5) + 2) (Int32.toNatClampNeg a1)) + a2) 72) <|
          some ((gI σ4 51 (Int32.toNatClampNeg ((gI σ4 ((gR σ4 1 5) + 2) (Int32.toNatClampNeg a1)) + a2))), σ4)
          )
        ) else (
        some ((-2 : Int32), σ4)
        )
      ) fun j30 =>
    if a2 = (-1 : Int32) then (
      j30 ()
      ) else (
      bnd1 (fX1_hasBox σ (gR σ 1 5) a1 a2) fun b8 =>
      if b8 = true then (
        j30 ()
        ) else (
        some ((-1 : Int32), σ)
        )
      )
    ) else (
    some ((-1 : Int32), σ)
    )

set_option maxRecDepth 20000 in
theorem sX7_dark {g : GG} {σ : SS} {a1 : Int32} {a2 : Int32} {r : Int32 × SS} (hr : fX7_dark σ a1 a2 = some r)  : Ct g mX7_dark [.ref (ad g 1), .int a1, .int a2] NF σ (some (.int r.1)) NF r.2 := by
  refine Ct.of (by decide +kernel) (nle rfl) fun hw0 => ?_
  have hw := hw0 rfl
  unfold fX7_dark at hr
  change RR g mX7_dark (FinR g mX7_dark (some (.int r.1)) NF r.2) zF 0 [(0, .ref (ad g 1)), (1, .int a1), (2, .int a2)] [] σ
  refine r_aload_n (pc := 0) (j := 0) dX7_dark_0 rfl rfl ?_
  refine gf7_5 (pc := 1) tw_2_114 hw dX7_dark_1 ?_
  refine r_iload_n (pc := 4) (j := 1) dX7_dark_4 rfl rfl ?_
  refine kX1_hasQuestion (pc := 5) (hf := rfl) (wt_fo hw).1 tw_3_87 ⟨nle rfl, nle rfl⟩ (nle rfl) dX7_dark_5 ?_
  refine r_ifB_eq (pc := 8) (tgt := 28) dX7_dark_8 rfl (fun hc => ?_) (fun hc => ?_)
  · replace hr := ite_f hc hr
    refine r_iconst (pc := 28) (v := (-1 : Int32)) dX7_dark_28 rfl ?_
    exact l_osi hr (r_iret (pc := 29) (v := (-1 : Int32)) rfl rfl ⟨Nat.le_refl _, Nat.le_refl _⟩ dX7_dark_29)
  replace hr := ite_t hc hr
  refine r_iload_n (pc := 11) (j := 2) dX7_dark_11 rfl rfl ?_
  refine r_iconst (pc := 12) (v := (-1 : Int32)) dX7_dark_12 rfl ?_
  obtain ⟨j30, ej30, hr⟩ := vth_ex hr
  have hj30 : j30 () = some r → RR g mX7_dark (FinR g mX7_dark (some (.int r.1)) NF r.2) zF 30 [(0, .ref (ad g 1)), (1, .int a1), (2, .int a2)] [] σ := by
    intro  hr
    replace hr := (congrFun ej30 ()).symm.trans hr
    refine r_aload_n (pc := 30) (j := 0) dX7_dark_30 rfl rfl ?_
    refine gf7_12 (pc := 31) tw_2_121 hw dX7_dark_31 ?_
    refine r_aload_n (pc := 34) (j := 0) dX7_dark_34 rfl rfl ?_
    refine gf7_2 (pc := 35) tw_2_111 hw dX7_dark_35 ?_
    refine r_aload_n (pc := 38) (j := 0) dX7_dark_38 rfl rfl ?_
    refine gf7_5 (pc := 39) tw_2_114 hw dX7_dark_39 ?_
    obtain ⟨b2, σ4, eσ4, hr⟩ := bnd_inv hr
    refine kX3_measure (pc := 42) eσ4 (wt_sc hw).1 (wt_fo hw).1 tw_4_116 ⟨nle rfl, nle rfl⟩ (nle rfl) dX7_dark_42 fun hσ4 => ?_
    refine r_ifB_ne (pc := 45) (tgt := 51) dX7_dark_45 rfl (fun hc => ?_) (fun hc => ?_)
    · replace hr := ite_t hc hr
      refine r_iload_n (pc := 51) (j := 2) dX7_dark_51 rfl rfl ?_
      refine r_iconst (pc := 52) (v := (-1 : Int32)) dX7_dark_52 rfl ?_
      refine r_icmp_ne (pc := 53) (tgt := 66) dX7_dark_53 rfl (fun hc => ?_) (fun hc => ?_)
      · replace hr := ite_f hc hr
        refine r_aload_n (pc := 66) (j := 0) dX7_dark_66 rfl rfl ?_
        refine gf7_12 (pc := 67) tw_2_121 hσ4 dX7_dark_67 ?_
        refine gf3_4 (pc := 70) tw_2_31 hσ4 dX7_dark_70 ?_
        refine r_aload_n (pc := 73) (j := 0) dX7_dark_73 rfl rfl ?_
        refine gf7_5 (pc := 74) tw_2_114 hσ4 dX7_dark_74 ?_
        refine gf1_8 (pc := 77) tw_1_89 hσ4 (wt_fo hσ4).1 dX7_dark_77 ?_
        refine r_iload_n (pc := 80) (j := 1) dX7_dark_80 rfl rfl ?_
        obtain ⟨h5, hr⟩ := grd_inv hr
        refine x_iald (pc := 81) (k := (Int32.toNatClampNeg a1)) (sh1_8 (wt_fo hσ4).1) h5 rfl dX7_dark_81 ?_
        refine r_iload_n (pc := 82) (j := 2) dX7_dark_82 rfl rfl ?_
        refine r_iadd (pc := 83) dX7_dark_83 ?_
        obtain ⟨h6, hr⟩ := grd_inv hr
        refine x_iald (pc := 84) (k := (Int32.toNatClampNeg ((gI σ4 ((gR σ4 1 5) + 2) (Int32.toNatClampNeg a1)) + a2))) rfl h6 rfl dX7_dark_84 ?_
        exact l_osi hr (r_iret (pc := 85) (v := (gI σ4 51 (Int32.toNatClampNeg ((gI σ4 ((gR σ4 1 5) + 2) (Int32.toNatClampNeg a1)) + a2)))) rfl rfl ⟨Nat.le_refl _, Nat.le_refl _⟩ dX7_dark_85)
      replace hr := ite_t hc hr
      refine r_aload_n (pc := 56) (j := 0) dX7_dark_56 rfl rfl ?_
      refine gf7_12 (pc := 57) tw_2_121 hσ4 dX7_dark_57 ?_
      refine gf3_6 (pc := 60) tw_2_34 rfl dX7_dark_60 ?_
      refine r_goto (pc := 63) (tgt := 85) dX7_dark_63 rfl ?_
      exact l_osi hr (r_iret (pc := 85) (v := (gI σ4 31 6)) rfl rfl ⟨Nat.le_refl _, Nat.le_refl _⟩ dX7_dark_85)
    replace hr := ite_f hc hr
    refine r_bipush (pc := 48) (v := (-2 : Int32)) dX7_dark_48 rfl ?_
    exact l_osi hr (r_iret (pc := 50) (v := (-2 : Int32)) rfl rfl ⟨Nat.le_refl _, Nat.le_refl _⟩ dX7_dark_50)
  refine r_icmp_eq (pc := 13) (tgt := 30) dX7_dark_13 rfl (fun hc => ?_) (fun hc => ?_)
  · replace hr := ite_t hc hr
    exact r_pick (ls1 := [(0, .ref (ad g 1)), (1, .int a1), (2, .int a2)]) [0, 1, 2] rfl (hj30  hr)
  replace hr := ite_f hc hr
  refine r_aload_n (pc := 16) (j := 0) dX7_dark_16 rfl rfl ?_
  refine gf7_5 (pc := 17) tw_2_114 hw dX7_dark_17 ?_
  refine r_iload_n (pc := 20) (j := 1) dX7_dark_20 rfl rfl ?_
  refine r_iload_n (pc := 21) (j := 2) dX7_dark_21 rfl rfl ?_
  obtain ⟨b8, hb8, hr⟩ := bnd1_inv hr
  refine kX1_hasBox (pc := 22) hb8 (wt_fo hw).1 tw_3_91 ⟨nle rfl, nle rfl⟩ (nle rfl) dX7_dark_22 ?_
  refine r_ifB_ne (pc := 25) (tgt := 30) dX7_dark_25 rfl (fun hc => ?_) (fun hc => ?_)
  · replace hr := ite_t hc hr
    exact r_pick (ls1 := [(0, .ref (ad g 1)), (1, .int a1), (2, .int a2)]) [0, 1, 2] rfl (hj30  hr)
  replace hr := ite_f hc hr
  refine r_iconst (pc := 28) (v := (-1 : Int32)) dX7_dark_28 rfl ?_
  exact l_osi hr (r_iret (pc := 29) (v := (-1 : Int32)) rfl rfl ⟨Nat.le_refl _, Nat.le_refl _⟩ dX7_dark_29)

theorem kX7_dark {g : GG} {σ : SS} {a1 : Int32} {a2 : Int32} {v : Int32} {σ2 : SS} {M : MM} {F : State → Array Value → List Frame → State → Prop} {pc index : Nat} {ls : List (Nat × Value)} {rest : List Value} (hf : fX7_dark σ a1 a2 = some (v, σ2))  (hl : Cond.methodLink M.1.cls index yX7_dark ∈ lw_gt) (hR : mX7_dark.2.2.2.2.frames + 1 ≤ M.2.2.2.2.frames ∧ 8 + (mX7_dark.2.2.1 + 11) + mX7_dark.2.2.2.2.locals ≤ M.2.2.2.2.locals) (hrest : (rest.map fun v => v.category).sum ≤ 8) (hd : decode M.2.1 pc = .ok (.invokevirtual index, 3)) (k : WT σ2 → RR g M F zF (pc + 3) ls (.int v :: rest) σ2) : RR g M F zF pc ls (.int a2 :: .int a1 :: .ref (ad g 1) :: rest) σ :=
  r_callV (z := zF) (N := mX7_dark) (nn := 2) (o1 := some (.int v)) (sX7_dark hf ) (rfl : shp 1 = (7, 0)) (by decide) (shp_le (rfl : shp 1 = (7, 0)) (nle rfl)) (ci := 7) rfl rfl tw_4_115 tw_1_1 hl tw_4_113 tw_4_114 ⟨by decide, by decide, rfl⟩ hR rfl hrest hd ⟨Nat.zero_le _, Nat.zero_le _⟩ rfl (fun h => k (h rfl))

theorem dX8_isBox_0 : decode cX8_isBox 0 = .ok (.aload_n 0, 1) := by decide +kernel
theorem dX8_isBox_1 : decode cX8_isBox 1 = .ok (.iload_n 1, 1) := by decide +kernel
theorem dX8_isBox_2 : decode cX8_isBox 2 = .ok (.invokevirtual 269, 3) := by decide +kernel
theorem dX8_isBox_5 : decode cX8_isBox 5 = .ok (.ifCond .eq 22, 3) := by decide +kernel
theorem dX8_isBox_8 : decode cX8_isBox 8 = .ok (.iload_n 2, 1) := by decide +kernel
theorem dX8_isBox_9 : decode cX8_isBox 9 = .ok (.iconst 0, 1) := by decide +kernel
theorem dX8_isBox_10 : decode cX8_isBox 10 = .ok (.aload_n 0, 1) := by decide +kernel
theorem dX8_isBox_11 : decode cX8_isBox 11 = .ok (.iload_n 1, 1) := by decide +kernel
theorem dX8_isBox_12 : decode cX8_isBox 12 = .ok (.invokevirtual 272, 3) := by decide +kernel
theorem dX8_isBox_15 : decode cX8_isBox 15 = .ok (.iconst 1, 1) := by decide +kernel
theorem dX8_isBox_16 : decode cX8_isBox 16 = .ok (.isub, 1) := by decide +kernel
theorem dX8_isBox_17 : decode cX8_isBox 17 = .ok (.invokestatic 165, 3) := by decide +kernel
theorem dX8_isBox_20 : decode cX8_isBox 20 = .ok (.ifCond .eq 7, 3) := by decide +kernel
theorem dX8_isBox_23 : decode cX8_isBox 23 = .ok (.iconst 1, 1) := by decide +kernel
theorem dX8_isBox_24 : decode cX8_isBox 24 = .ok (.goto 4, 3) := by decide +kernel
theorem dX8_isBox_27 : decode cX8_isBox 27 = .ok (.iconst 0, 1) := by decide +kernel
theorem dX8_isBox_28 : decode cX8_isBox 28 = .ok (.ireturn, 1) := by decide +kernel
def mX8_isBox : MM := (yX8_isBox, cX8_isBox, 3, Option.some Jvm.ClassFile.FieldType.boolean, { frames := 3, cells := 0, slots := 0, locals := 62 })
def fX8_isBox (σ0 : SS) (a1 : Int32) (a2 : Int32) : Option Bool :=
  bnd1 (fX8_isQuestion σ0 a1) fun b2 =>
  vthen (fun (_u : Unit) =>
    some false
    ) fun j27 =>
  if b2 = true then (
    bnd1 (fX8_boxesOf σ0 a1) fun v4 =>
    if (fX8_in σ0 a2 (0 : Int32) (v4 - (1 : Int32))) = true then (
      some true
      ) else (
      j27 ()
      )
    ) else (
    j27 ()
    )

set_option maxRecDepth 20000 in
theorem sX8_isBox {g : GG} {σ0 : SS} {a1 : Int32} {a2 : Int32} {r : Bool} (hr : fX8_isBox σ0 a1 a2 = some r)  : Ct g mX8_isBox [.ref (ad g 73), .int a1, .int a2] NF σ0 (some (.int (b2i r))) NF σ0 := by
  refine Ct.of (by decide +kernel) (nle rfl) fun hw0 => ?_
  have hw := hw0 rfl
  unfold fX8_isBox at hr
  change RR g mX8_isBox (FinR g mX8_isBox (some (.int (b2i r))) NF σ0) zF 0 [(0, .ref (ad g 73)), (1, .int a1), (2, .int a2)] [] σ0
  refine r_aload_n (pc := 0) (j := 0) dX8_isBox_0 rfl rfl ?_
  refine r_iload_n (pc := 1) (j := 1) dX8_isBox_1 rfl rfl ?_
  obtain ⟨b2, hb2, hr⟩ := bnd1_inv hr
  refine kX8_isQuestion (pc := 2) hb2 tw_6_141 ⟨nle rfl, nle rfl⟩ (nle rfl) dX8_isBox_2 ?_
  obtain ⟨j27, ej27, hr⟩ := vth_ex hr
  have hj27 : j27 () = some r → RR g mX8_isBox (FinR g mX8_isBox (some (.int (b2i r))) NF σ0) zF 27 [] [] σ0 := by
    intro  hr
    replace hr := (congrFun ej27 ()).symm.trans hr
    refine r_iconst (pc := 27) (v := (0 : Int32)) dX8_isBox_27 rfl ?_
    exact l_opz hr (r_zret (pc := 28) (v := b2i false) (ty := .boolean) rfl (b2i_nar _) rfl ⟨Nat.le_refl _, Nat.le_refl _⟩ dX8_isBox_28)
  refine r_ifB_eq (pc := 5) (tgt := 27) dX8_isBox_5 rfl (fun hc => ?_) (fun hc => ?_)
  · replace hr := ite_f hc hr
    exact r_pick (ls1 := []) [] rfl (hj27  hr)
  replace hr := ite_t hc hr
  refine r_iload_n (pc := 8) (j := 2) dX8_isBox_8 rfl rfl ?_
  refine r_iconst (pc := 9) (v := (0 : Int32)) dX8_isBox_9 rfl ?_
  refine r_aload_n (pc := 10) (j := 0) dX8_isBox_10 rfl rfl ?_
  refine r_iload_n (pc := 11) (j := 1) dX8_isBox_11 rfl rfl ?_
  obtain ⟨v4, hv4, hr⟩ := bnd1_inv hr
  refine kX8_boxesOf (pc := 12) hv4 tw_7_27 ⟨nle rfl, nle rfl⟩ (nle rfl) dX8_isBox_12 ?_
  refine r_iconst (pc := 15) (v := (1 : Int32)) dX8_isBox_15 rfl ?_
  refine r_isub (pc := 16) dX8_isBox_16 ?_
  refine kX8_in (pc := 17) (hf := rfl) tw_6_65 ⟨nle rfl, nle rfl⟩ (nle rfl) dX8_isBox_17 ?_
  refine r_ifB_eq (pc := 20) (tgt := 27) dX8_isBox_20 rfl (fun hc => ?_) (fun hc => ?_)
  · replace hr := ite_f hc hr
    exact r_pick (ls1 := []) [] rfl (hj27  hr)
  replace hr := ite_t hc hr
  refine r_iconst (pc := 23) (v := (1 : Int32)) dX8_isBox_23 rfl ?_
  refine r_goto (pc := 24) (tgt := 28) dX8_isBox_24 rfl ?_
  exact l_opz hr (r_zret (pc := 28) (v := b2i true) (ty := .boolean) rfl (b2i_nar _) rfl ⟨Nat.le_refl _, Nat.le_refl _⟩ dX8_isBox_28)

theorem kX8_isBox {g : GG} {σ0 : SS} {a1 : Int32} {a2 : Int32} {v : Bool} {M : MM} {F : State → Array Value → List Frame → State → Prop} {pc index : Nat} {ls : List (Nat × Value)} {rest : List Value} (hf : fX8_isBox σ0 a1 a2 = some v)  (hl : Cond.methodLink M.1.cls index yX8_isBox ∈ lw_gt) (hR : mX8_isBox.2.2.2.2.frames + 1 ≤ M.2.2.2.2.frames ∧ 8 + (mX8_isBox.2.2.1 + 11) + mX8_isBox.2.2.2.2.locals ≤ M.2.2.2.2.locals) (hrest : (rest.map fun v => v.category).sum ≤ 8) (hd : decode M.2.1 pc = .ok (.invokevirtual index, 3)) (k : RR g M F zF (pc + 3) ls (.int (b2i v) :: rest) σ0) : RR g M F zF pc ls (.int a2 :: .int a1 :: .ref (ad g 73) :: rest) σ0 :=
  r_callV (z := zF) (N := mX8_isBox) (nn := 2) (o1 := some (.int (b2i v))) (sX8_isBox hf ) (rfl : shp 73 = (8, 0)) (by decide) (shp_le (rfl : shp 73 = (8, 0)) (nle rfl)) (ci := 8) rfl rfl tw_7_93 tw_1_10 hl tw_7_92 tp_72 ⟨by decide, by decide, rfl⟩ hR rfl hrest hd ⟨Nat.zero_le _, Nat.zero_le _⟩ rfl (fun h => k)

theorem dX8_darkOf_0 : decode cX8_darkOf 0 = .ok (.bipush 6, 2) := by decide +kernel
theorem dX8_darkOf_2 : decode cX8_darkOf 2 = .ok (.bipush 12, 2) := by decide +kernel
theorem dX8_darkOf_4 : decode cX8_darkOf 4 = .ok (.aload_n 0, 1) := by decide +kernel
theorem dX8_darkOf_5 : decode cX8_darkOf 5 = .ok (.getfield 206, 3) := by decide +kernel
theorem dX8_darkOf_8 : decode cX8_darkOf 8 = .ok (.imul, 1) := by decide +kernel
theorem dX8_darkOf_9 : decode cX8_darkOf 9 = .ok (.iload_n 1, 1) := by decide +kernel
theorem dX8_darkOf_10 : decode cX8_darkOf 10 = .ok (.iadd, 1) := by decide +kernel
theorem dX8_darkOf_11 : decode cX8_darkOf 11 = .ok (.imul, 1) := by decide +kernel
theorem dX8_darkOf_12 : decode cX8_darkOf 12 = .ok (.iload_n 2, 1) := by decide +kernel
theorem dX8_darkOf_13 : decode cX8_darkOf 13 = .ok (.iadd, 1) := by decide +kernel
theorem dX8_darkOf_14 : decode cX8_darkOf 14 = .ok (.istore_n 3, 1) := by decide +kernel
theorem dX8_darkOf_15 : decode cX8_darkOf 15 = .ok (.iconst 0, 1) := by decide +kernel
theorem dX8_darkOf_16 : decode cX8_darkOf 16 = .ok (.istore 4, 2) := by decide +kernel
theorem dX8_darkOf_18 : decode cX8_darkOf 18 = .ok (.iconst 0, 1) := by decide +kernel
theorem dX8_darkOf_19 : decode cX8_darkOf 19 = .ok (.istore 5, 2) := by decide +kernel
theorem dX8_darkOf_21 : decode cX8_darkOf 21 = .ok (.iload 5, 2) := by decide +kernel
theorem dX8_darkOf_23 : decode cX8_darkOf 23 = .ok (.aload_n 0, 1) := by decide +kernel
theorem dX8_darkOf_24 : decode cX8_darkOf 24 = .ok (.iconst 3, 1) := by decide +kernel
theorem dX8_darkOf_25 : decode cX8_darkOf 25 = .ok (.invokevirtual 262, 3) := by decide +kernel
theorem dX8_darkOf_28 : decode cX8_darkOf 28 = .ok (.if_icmp .ge 115, 3) := by decide +kernel
theorem dX8_darkOf_31 : decode cX8_darkOf 31 = .ok (.iconst 0, 1) := by decide +kernel
theorem dX8_darkOf_32 : decode cX8_darkOf 32 = .ok (.istore 6, 2) := by decide +kernel
theorem dX8_darkOf_34 : decode cX8_darkOf 34 = .ok (.iload 6, 2) := by decide +kernel
theorem dX8_darkOf_36 : decode cX8_darkOf 36 = .ok (.aload_n 0, 1) := by decide +kernel
theorem dX8_darkOf_37 : decode cX8_darkOf 37 = .ok (.iconst 2, 1) := by decide +kernel
theorem dX8_darkOf_38 : decode cX8_darkOf 38 = .ok (.invokevirtual 262, 3) := by decide +kernel
theorem dX8_darkOf_41 : decode cX8_darkOf 41 = .ok (.if_icmp .ge 96, 3) := by decide +kernel
theorem dX8_darkOf_44 : decode cX8_darkOf 44 = .ok (.iconst 2, 1) := by decide +kernel
theorem dX8_darkOf_45 : decode cX8_darkOf 45 = .ok (.aload_n 0, 1) := by decide +kernel
theorem dX8_darkOf_46 : decode cX8_darkOf 46 = .ok (.getfield 29, 3) := by decide +kernel
theorem dX8_darkOf_49 : decode cX8_darkOf 49 = .ok (.iload_n 3, 1) := by decide +kernel
theorem dX8_darkOf_50 : decode cX8_darkOf 50 = .ok (.iaload, 1) := by decide +kernel
theorem dX8_darkOf_51 : decode cX8_darkOf 51 = .ok (.iload 6, 2) := by decide +kernel
theorem dX8_darkOf_53 : decode cX8_darkOf 53 = .ok (.iadd, 1) := by decide +kernel
theorem dX8_darkOf_54 : decode cX8_darkOf 54 = .ok (.imul, 1) := by decide +kernel
theorem dX8_darkOf_55 : decode cX8_darkOf 55 = .ok (.iconst 1, 1) := by decide +kernel
theorem dX8_darkOf_56 : decode cX8_darkOf 56 = .ok (.iadd, 1) := by decide +kernel
theorem dX8_darkOf_57 : decode cX8_darkOf 57 = .ok (.istore 7, 2) := by decide +kernel
theorem dX8_darkOf_59 : decode cX8_darkOf 59 = .ok (.iconst 2, 1) := by decide +kernel
theorem dX8_darkOf_60 : decode cX8_darkOf 60 = .ok (.aload_n 0, 1) := by decide +kernel
theorem dX8_darkOf_61 : decode cX8_darkOf 61 = .ok (.getfield 32, 3) := by decide +kernel
theorem dX8_darkOf_64 : decode cX8_darkOf 64 = .ok (.iload_n 3, 1) := by decide +kernel
theorem dX8_darkOf_65 : decode cX8_darkOf 65 = .ok (.iaload, 1) := by decide +kernel
theorem dX8_darkOf_66 : decode cX8_darkOf 66 = .ok (.iload 5, 2) := by decide +kernel
theorem dX8_darkOf_68 : decode cX8_darkOf 68 = .ok (.iadd, 1) := by decide +kernel
theorem dX8_darkOf_69 : decode cX8_darkOf 69 = .ok (.imul, 1) := by decide +kernel
theorem dX8_darkOf_70 : decode cX8_darkOf 70 = .ok (.iconst 1, 1) := by decide +kernel
theorem dX8_darkOf_71 : decode cX8_darkOf 71 = .ok (.iadd, 1) := by decide +kernel
theorem dX8_darkOf_72 : decode cX8_darkOf 72 = .ok (.istore 8, 2) := by decide +kernel
theorem dX8_darkOf_74 : decode cX8_darkOf 74 = .ok (.aload_n 0, 1) := by decide +kernel
theorem dX8_darkOf_75 : decode cX8_darkOf 75 = .ok (.iload 7, 2) := by decide +kernel
theorem dX8_darkOf_77 : decode cX8_darkOf 77 = .ok (.iload 8, 2) := by decide +kernel
theorem dX8_darkOf_79 : decode cX8_darkOf 79 = .ok (.iconst 1, 1) := by decide +kernel
theorem dX8_darkOf_80 : decode cX8_darkOf 80 = .ok (.invokevirtual 357, 3) := by decide +kernel
theorem dX8_darkOf_83 : decode cX8_darkOf 83 = .ok (.istore 9, 2) := by decide +kernel
theorem dX8_darkOf_85 : decode cX8_darkOf 85 = .ok (.aload_n 0, 1) := by decide +kernel
theorem dX8_darkOf_86 : decode cX8_darkOf 86 = .ok (.iload 7, 2) := by decide +kernel
theorem dX8_darkOf_88 : decode cX8_darkOf 88 = .ok (.iload 8, 2) := by decide +kernel
theorem dX8_darkOf_90 : decode cX8_darkOf 90 = .ok (.iconst 0, 1) := by decide +kernel
theorem dX8_darkOf_91 : decode cX8_darkOf 91 = .ok (.invokevirtual 357, 3) := by decide +kernel
theorem dX8_darkOf_94 : decode cX8_darkOf 94 = .ok (.istore 10, 2) := by decide +kernel
theorem dX8_darkOf_96 : decode cX8_darkOf 96 = .ok (.iload 4, 2) := by decide +kernel
theorem dX8_darkOf_98 : decode cX8_darkOf 98 = .ok (.aload_n 0, 1) := by decide +kernel
theorem dX8_darkOf_99 : decode cX8_darkOf 99 = .ok (.iload 9, 2) := by decide +kernel
theorem dX8_darkOf_101 : decode cX8_darkOf 101 = .ok (.iload 10, 2) := by decide +kernel
theorem dX8_darkOf_103 : decode cX8_darkOf 103 = .ok (.invokevirtual 281, 3) := by decide +kernel
theorem dX8_darkOf_106 : decode cX8_darkOf 106 = .ok (.ifCond .eq 21, 3) := by decide +kernel
theorem dX8_darkOf_109 : decode cX8_darkOf 109 = .ok (.aload_n 0, 1) := by decide +kernel
theorem dX8_darkOf_110 : decode cX8_darkOf 110 = .ok (.getfield 38, 3) := by decide +kernel
theorem dX8_darkOf_113 : decode cX8_darkOf 113 = .ok (.aload_n 0, 1) := by decide +kernel
theorem dX8_darkOf_114 : decode cX8_darkOf 114 = .ok (.getfield 132, 3) := by decide +kernel
theorem dX8_darkOf_117 : decode cX8_darkOf 117 = .ok (.iload 10, 2) := by decide +kernel
theorem dX8_darkOf_119 : decode cX8_darkOf 119 = .ok (.imul, 1) := by decide +kernel
theorem dX8_darkOf_120 : decode cX8_darkOf 120 = .ok (.iload 9, 2) := by decide +kernel
theorem dX8_darkOf_122 : decode cX8_darkOf 122 = .ok (.iadd, 1) := by decide +kernel
theorem dX8_darkOf_123 : decode cX8_darkOf 123 = .ok (.iaload, 1) := by decide +kernel
theorem dX8_darkOf_124 : decode cX8_darkOf 124 = .ok (.goto 4, 3) := by decide +kernel
theorem dX8_darkOf_127 : decode cX8_darkOf 127 = .ok (.iconst 0, 1) := by decide +kernel
theorem dX8_darkOf_128 : decode cX8_darkOf 128 = .ok (.iadd, 1) := by decide +kernel
theorem dX8_darkOf_129 : decode cX8_darkOf 129 = .ok (.istore 4, 2) := by decide +kernel
theorem dX8_darkOf_131 : decode cX8_darkOf 131 = .ok (.iinc 6 1, 3) := by decide +kernel
theorem dX8_darkOf_134 : decode cX8_darkOf 134 = .ok (.goto (-100), 3) := by decide +kernel
theorem dX8_darkOf_137 : decode cX8_darkOf 137 = .ok (.iinc 5 1, 3) := by decide +kernel
theorem dX8_darkOf_140 : decode cX8_darkOf 140 = .ok (.goto (-119), 3) := by decide +kernel
theorem dX8_darkOf_143 : decode cX8_darkOf 143 = .ok (.iload 4, 2) := by decide +kernel
theorem dX8_darkOf_145 : decode cX8_darkOf 145 = .ok (.ireturn, 1) := by decide +kernel
def mX8_darkOf : MM := (yX8_darkOf, cX8_darkOf, 11, Option.some Jvm.ClassFile.FieldType.int, { frames := 3, cells := 0, slots := 0, locals := 76 })
def X8_darkOf_L34 (u3_ : Int32) (u5_ : Int32) (k137 : Int32 → SS → Option (Int32 × SS)) : Nat → Int32 → Int32 → SS → Option (Int32 × SS) :=
  lp (fun _ _ _ => none) fun rec v4_ v6_ σ_ =>
    bnd1 (fX8_headOf σ_ (2 : Int32)) fun v5 =>
    if v5 ≤ v6_ then (
      k137 v4_ σ_
      ) else (
      grd (inb u3_ 144) <|
      vthen (((2 : Int32) * ((gI σ_ 80 (Int32.toNatClampNeg u3_)) + v6_)) + (1 : Int32)) fun v9 =>
      vthen (((2 : Int32) * ((gI σ_ 81 (Int32.toNatClampNeg u3_)) + u5_)) + (1 : Int32)) fun v10 =>
      bnd (fX8_mapped σ_ v9 v10 true) fun v11 σ14 =>
      bnd (fX8_mapped σ14 v9 v10 false) fun v15 σ18 =>
      if (fX8_isDot σ18 v11 v15) = true then (
        grd (inb (((gI σ18 73 29) * v15) + v11) 1600) <|
        vthen (v4_ + (gI σ18 83 (Int32.toNatClampNeg (((gI σ18 73 29) * v15) + v11)))) fun v21 =>
        rec v21 (v6_ + (1 : Int32)) σ18
        ) else (
        vthen (v4_ + (0 : Int32)) fun v19 =>
        rec v19 (v6_ + (1 : Int32)) σ18
        )
      )

def X8_darkOf_L21 (u3_ : Int32)  : Nat → Int32 → Int32 → SS → Option (Int32 × SS) :=
  lp (fun _ _ _ => none) fun rec v4_ v5_ σ_ =>
    bnd1 (fX8_headOf σ_ (3 : Int32)) fun v2 =>
    if v2 ≤ v5_ then (
      some (v4_, σ_)
      ) else (
      X8_darkOf_L34 u3_ v5_
      (fun v22 σ23 =>
        rec v22 (v5_ + (1 : Int32)) σ23
        )
      fuel v4_ (0 : Int32) σ_
      )

def fX8_darkOf (σ : SS) (a1 : Int32) (a2 : Int32) : Option (Int32 × SS) :=
  vthen (((6 : Int32) * (((12 : Int32) * (gI σ 73 11)) + a1)) + a2) fun v1 =>
  X8_darkOf_L21 v1
  fuel (0 : Int32) (0 : Int32) σ

set_option maxRecDepth 20000 in
theorem sX8_darkOf_L34 {g : GG} {r : Int32 × SS} {u3_ : Int32} {u5_ : Int32} {k137 : Int32 → SS → Option (Int32 × SS)} 
    (hk137 : ∀ (y4 : Int32) (σ_ : SS), k137 y4 σ_ = some r → WT σ_ → RR g mX8_darkOf (FinR g mX8_darkOf (some (.int r.1)) NF r.2) zF 137 [(0, .ref (ad g 73)), (3, .int u3_), (4, .int y4), (5, .int u5_)] [] σ_)
    (n : Nat) : ∀ (v4_ : Int32) (v6_ : Int32) (σ_ : SS), X8_darkOf_L34 u3_ u5_ k137 n v4_ v6_ σ_ = some r → WT σ_ → RR g mX8_darkOf (FinR g mX8_darkOf (some (.int r.1)) NF r.2) zF 34 [(0, .ref (ad g 73)), (3, .int u3_), (4, .int v4_), (5, .int u5_), (6, .int v6_)] [] σ_ := by
  unfold X8_darkOf_L34
  refine lp_ind (P := fun (rec : Int32 → Int32 → SS → Option (Int32 × SS)) => ∀ (v4_ : Int32) (v6_ : Int32) (σ_ : SS), rec v4_ v6_ σ_ = some r → WT σ_ → RR g mX8_darkOf (FinR g mX8_darkOf (some (.int r.1)) NF r.2) zF 34 [(0, .ref (ad g 73)), (3, .int u3_), (4, .int v4_), (5, .int u5_), (6, .int v6_)] [] σ_) ?_ ?_ n
  · intro v4_ v6_ σ_ hr; cases hr
  intro rec ih v4_ v6_ σ_ hr hw_
  refine r_iload (pc := 34) (j := 4) dX8_darkOf_34 rfl ?_
  refine r_aload_n (pc := 36) (j := 0) dX8_darkOf_36 rfl rfl ?_
  refine r_iconst (pc := 37) (v := (2 : Int32)) dX8_darkOf_37 rfl ?_
  obtain ⟨v5, hv5, hr⟩ := bnd1_inv hr
  refine kX8_headOf (pc := 38) hv5 tw_6_149 ⟨nle rfl, nle rfl⟩ (nle rfl) dX8_darkOf_38 ?_
  refine r_icmp_ge (pc := 41) (tgt := 137) dX8_darkOf_41 rfl (fun hc => ?_) (fun hc => ?_)
  · replace hr := ite_t hc hr
    exact r_pick (ls1 := [(0, .ref (ad g 73)), (3, .int u3_), (4, .int v4_), (5, .int u5_)]) [0, 1, 2, 3] rfl (hk137 v4_ σ_ hr hw_)
  replace hr := ite_f hc hr
  refine r_iconst (pc := 44) (v := (2 : Int32)) dX8_darkOf_44 rfl ?_
  refine r_aload_n (pc := 45) (j := 0) dX8_darkOf_45 rfl rfl ?_
  refine gf8_18 (pc := 46) tw_5_112 hw_ dX8_darkOf_46 ?_
  refine r_iload_n (pc := 49) (j := 1) dX8_darkOf_49 rfl rfl ?_
  obtain ⟨h8, hr⟩ := grd_inv hr
  refine x_iald (pc := 50) (k := (Int32.toNatClampNeg u3_)) rfl h8 rfl dX8_darkOf_50 ?_
  refine r_iload (pc := 51) (j := 4) dX8_darkOf_51 rfl ?_
  refine r_iadd (pc := 53) dX8_darkOf_53 ?_
  refine r_imul (pc := 54) dX8_darkOf_54 ?_
  refine r_iconst (pc := 55) (v := (1 : Int32)) dX8_darkOf_55 rfl ?_
  refine r_iadd (pc := 56) dX8_darkOf_56 ?_
  refine r_topi fun v9 ev9 => ?_
  replace hr := vthen_inv hr v9 ev9
  refine r_istore (pc := 57) (ls1 := [(7, .int v9), (0, .ref (ad g 73)), (3, .int u3_), (4, .int v4_), (5, .int u5_), (6, .int v6_)]) dX8_darkOf_57 (nle rfl) rfl ?_
  refine r_iconst (pc := 59) (v := (2 : Int32)) dX8_darkOf_59 rfl ?_
  refine r_aload_n (pc := 60) (j := 1) dX8_darkOf_60 rfl rfl ?_
  refine gf8_19 (pc := 61) tw_5_113 hw_ dX8_darkOf_61 ?_
  refine r_iload_n (pc := 64) (j := 2) dX8_darkOf_64 rfl rfl ?_
  refine x_iald (pc := 65) (k := (Int32.toNatClampNeg u3_)) rfl h8 rfl dX8_darkOf_65 ?_
  refine r_iload (pc := 66) (j := 4) dX8_darkOf_66 rfl ?_
  refine r_iadd (pc := 68) dX8_darkOf_68 ?_
  refine r_imul (pc := 69) dX8_darkOf_69 ?_
  refine r_iconst (pc := 70) (v := (1 : Int32)) dX8_darkOf_70 rfl ?_
  refine r_iadd (pc := 71) dX8_darkOf_71 ?_
  refine r_topi fun v10 ev10 => ?_
  replace hr := vthen_inv hr v10 ev10
  refine r_istore (pc := 72) (ls1 := [(8, .int v10), (7, .int v9), (0, .ref (ad g 73)), (3, .int u3_), (4, .int v4_), (5, .int u5_), (6, .int v6_)]) dX8_darkOf_72 (nle rfl) rfl ?_
  refine r_aload_n (pc := 74) (j := 2) dX8_darkOf_74 rfl rfl ?_
  refine r_iload (pc := 75) (j := 1) dX8_darkOf_75 rfl ?_
  refine r_iload (pc := 77) (j := 0) dX8_darkOf_77 rfl ?_
  refine r_iconst (pc := 79) (v := (1 : Int32)) dX8_darkOf_79 rfl ?_
  obtain ⟨v11, σ14, eσ14, hr⟩ := bnd_inv hr
  refine kX8_mapped (pc := 80) eσ14 tw_7_76 ⟨nle rfl, nle rfl⟩ (nle rfl) dX8_darkOf_80 fun hσ14 => ?_
  refine r_istore (pc := 83) (ls1 := [(9, .int v11), (8, .int v10), (7, .int v9), (0, .ref (ad g 73)), (3, .int u3_), (4, .int v4_), (5, .int u5_), (6, .int v6_)]) dX8_darkOf_83 (nle rfl) rfl ?_
  refine r_aload_n (pc := 85) (j := 3) dX8_darkOf_85 rfl rfl ?_
  refine r_iload (pc := 86) (j := 2) dX8_darkOf_86 rfl ?_
  refine r_iload (pc := 88) (j := 1) dX8_darkOf_88 rfl ?_
  refine r_iconst (pc := 90) (v := (0 : Int32)) dX8_darkOf_90 rfl ?_
  obtain ⟨v15, σ18, eσ18, hr⟩ := bnd_inv hr
  refine kX8_mapped (pc := 91) eσ18 tw_7_76 ⟨nle rfl, nle rfl⟩ (nle rfl) dX8_darkOf_91 fun hσ18 => ?_
  refine r_istore (pc := 94) (ls1 := [(10, .int v15), (9, .int v11), (8, .int v10), (7, .int v9), (0, .ref (ad g 73)), (3, .int u3_), (4, .int v4_), (5, .int u5_), (6, .int v6_)]) dX8_darkOf_94 (nle rfl) rfl ?_
  refine r_iload (pc := 96) (j := 6) dX8_darkOf_96 rfl ?_
  refine r_aload_n (pc := 98) (j := 4) dX8_darkOf_98 rfl rfl ?_
  refine r_iload (pc := 99) (j := 1) dX8_darkOf_99 rfl ?_
  refine r_iload (pc := 101) (j := 0) dX8_darkOf_101 rfl ?_
  refine kX8_isDot (pc := 103) (hf := rfl) tw_6_173 ⟨nle rfl, nle rfl⟩ (nle rfl) dX8_darkOf_103 ?_
  refine r_ifB_eq (pc := 106) (tgt := 127) dX8_darkOf_106 rfl (fun hc => ?_) (fun hc => ?_)
  · replace hr := ite_f hc hr
    refine r_iconst (pc := 127) (v := (0 : Int32)) dX8_darkOf_127 rfl ?_
    refine r_iadd (pc := 128) dX8_darkOf_128 ?_
    refine r_topi fun v19 ev19 => ?_
    replace hr := vthen_inv hr v19 ev19
    refine r_istore (pc := 129) (ls1 := [(4, .int v19), (10, .int v15), (9, .int v11), (8, .int v10), (7, .int v9), (0, .ref (ad g 73)), (3, .int u3_), (5, .int u5_), (6, .int v6_)]) dX8_darkOf_129 (nle rfl) rfl ?_
    refine r_iinc (pc := 131) (j := 8) (v := (v6_ + (1 : Int32))) (ls1 := [(6, .int (v6_ + (1 : Int32))), (4, .int v19), (10, .int v15), (9, .int v11), (8, .int v10), (7, .int v9), (0, .ref (ad g 73)), (3, .int u3_), (5, .int u5_)]) dX8_darkOf_131 rfl rfl (nle rfl) rfl ?_
    refine r_goto (pc := 134) (tgt := 34) dX8_darkOf_134 rfl ?_
    exact r_pick (ls1 := [(0, .ref (ad g 73)), (3, .int u3_), (4, .int v19), (5, .int u5_), (6, .int (v6_ + (1 : Int32)))]) [6, 7, 1, 8, 0] rfl (ih v19 (v6_ + (1 : Int32)) σ18 hr hσ18)
  replace hr := ite_t hc hr
  refine r_aload_n (pc := 109) (j := 4) dX8_darkOf_109 rfl rfl ?_
  refine gf8_21 (pc := 110) tw_5_115 hσ18 dX8_darkOf_110 ?_
  refine r_aload_n (pc := 113) (j := 4) dX8_darkOf_113 rfl rfl ?_
  refine gf8_29 (pc := 114) tw_5_123 rfl dX8_darkOf_114 ?_
  refine r_iload (pc := 117) (j := 0) dX8_darkOf_117 rfl ?_
  refine r_imul (pc := 119) dX8_darkOf_119 ?_
  refine r_iload (pc := 120) (j := 1) dX8_darkOf_120 rfl ?_
  refine r_iadd (pc := 122) dX8_darkOf_122 ?_
  obtain ⟨h20, hr⟩ := grd_inv hr
  refine x_iald (pc := 123) (k := (Int32.toNatClampNeg (((gI σ18 73 29) * v15) + v11))) rfl h20 rfl dX8_darkOf_123 ?_
  refine r_goto (pc := 124) (tgt := 128) dX8_darkOf_124 rfl ?_
  refine r_iadd (pc := 128) dX8_darkOf_128 ?_
  refine r_topi fun v21 ev21 => ?_
  replace hr := vthen_inv hr v21 ev21
  refine r_istore (pc := 129) (ls1 := [(4, .int v21), (10, .int v15), (9, .int v11), (8, .int v10), (7, .int v9), (0, .ref (ad g 73)), (3, .int u3_), (5, .int u5_), (6, .int v6_)]) dX8_darkOf_129 (nle rfl) rfl ?_
  refine r_iinc (pc := 131) (j := 8) (v := (v6_ + (1 : Int32))) (ls1 := [(6, .int (v6_ + (1 : Int32))), (4, .int v21), (10, .int v15), (9, .int v11), (8, .int v10), (7, .int v9), (0, .ref (ad g 73)), (3, .int u3_), (5, .int u5_)]) dX8_darkOf_131 rfl rfl (nle rfl) rfl ?_
  refine r_goto (pc := 134) (tgt := 34) dX8_darkOf_134 rfl ?_
  exact r_pick (ls1 := [(0, .ref (ad g 73)), (3, .int u3_), (4, .int v21), (5, .int u5_), (6, .int (v6_ + (1 : Int32)))]) [6, 7, 1, 8, 0] rfl (ih v21 (v6_ + (1 : Int32)) σ18 hr hσ18)

set_option maxRecDepth 20000 in
theorem sX8_darkOf_L21 {g : GG} {r : Int32 × SS} {u3_ : Int32}  
    (n : Nat) : ∀ (v4_ : Int32) (v5_ : Int32) (σ_ : SS), X8_darkOf_L21 u3_ n v4_ v5_ σ_ = some r → WT σ_ → RR g mX8_darkOf (FinR g mX8_darkOf (some (.int r.1)) NF r.2) zF 21 [(0, .ref (ad g 73)), (3, .int u3_), (4, .int v4_), (5, .int v5_)] [] σ_ := by
  unfold X8_darkOf_L21
  refine lp_ind (P := fun (rec : Int32 → Int32 → SS → Option (Int32 × SS)) => ∀ (v4_ : Int32) (v5_ : Int32) (σ_ : SS), rec v4_ v5_ σ_ = some r → WT σ_ → RR g mX8_darkOf (FinR g mX8_darkOf (some (.int r.1)) NF r.2) zF 21 [(0, .ref (ad g 73)), (3, .int u3_), (4, .int v4_), (5, .int v5_)] [] σ_) ?_ ?_ n
  · intro v4_ v5_ σ_ hr; cases hr
  intro rec ih v4_ v5_ σ_ hr hw_
  refine r_iload (pc := 21) (j := 3) dX8_darkOf_21 rfl ?_
  refine r_aload_n (pc := 23) (j := 0) dX8_darkOf_23 rfl rfl ?_
  refine r_iconst (pc := 24) (v := (3 : Int32)) dX8_darkOf_24 rfl ?_
  obtain ⟨v2, hv2, hr⟩ := bnd1_inv hr
  refine kX8_headOf (pc := 25) hv2 tw_6_149 ⟨nle rfl, nle rfl⟩ (nle rfl) dX8_darkOf_25 ?_
  refine r_icmp_ge (pc := 28) (tgt := 143) dX8_darkOf_28 rfl (fun hc => ?_) (fun hc => ?_)
  · replace hr := ite_t hc hr
    refine r_iload (pc := 143) (j := 2) dX8_darkOf_143 rfl ?_
    exact l_osi hr (r_iret (pc := 145) (v := v4_) rfl rfl ⟨Nat.le_refl _, Nat.le_refl _⟩ dX8_darkOf_145)
  replace hr := ite_f hc hr
  refine r_iconst (pc := 31) (v := (0 : Int32)) dX8_darkOf_31 rfl ?_
  refine r_istore (pc := 32) (ls1 := [(6, .int (0 : Int32)), (0, .ref (ad g 73)), (3, .int u3_), (4, .int v4_), (5, .int v5_)]) dX8_darkOf_32 (nle rfl) rfl ?_
  refine r_pick (ls1 := [(0, .ref (ad g 73)), (3, .int u3_), (4, .int v4_), (5, .int v5_), (6, .int (0 : Int32))]) [1, 2, 3, 4, 0] rfl ?_
  refine sX8_darkOf_L34    (fun v22 σ23 hr hσ23 => ?_) fuel v4_ (0 : Int32) σ_ hr hw_
  refine r_iinc (pc := 137) (j := 3) (v := (v5_ + (1 : Int32))) (ls1 := [(5, .int (v5_ + (1 : Int32))), (0, .ref (ad g 73)), (3, .int u3_), (4, .int v22)]) dX8_darkOf_137 rfl rfl (nle rfl) rfl ?_
  refine r_goto (pc := 140) (tgt := 21) dX8_darkOf_140 rfl ?_
  exact r_pick (ls1 := [(0, .ref (ad g 73)), (3, .int u3_), (4, .int v22), (5, .int (v5_ + (1 : Int32)))]) [1, 2, 3, 0] rfl (ih v22 (v5_ + (1 : Int32)) σ23 hr hσ23)

set_option maxRecDepth 20000 in
theorem sX8_darkOf {g : GG} {σ : SS} {a1 : Int32} {a2 : Int32} {r : Int32 × SS} (hr : fX8_darkOf σ a1 a2 = some r)  : Ct g mX8_darkOf [.ref (ad g 73), .int a1, .int a2] NF σ (some (.int r.1)) NF r.2 := by
  refine Ct.of (by decide +kernel) (nle rfl) fun hw0 => ?_
  have hw := hw0 rfl
  unfold fX8_darkOf at hr
  change RR g mX8_darkOf (FinR g mX8_darkOf (some (.int r.1)) NF r.2) zF 0 [(0, .ref (ad g 73)), (1, .int a1), (2, .int a2)] [] σ
  refine r_bipush (pc := 0) (v := (6 : Int32)) dX8_darkOf_0 rfl ?_
  refine r_bipush (pc := 2) (v := (12 : Int32)) dX8_darkOf_2 rfl ?_
  refine r_aload_n (pc := 4) (j := 0) dX8_darkOf_4 rfl rfl ?_
  refine gf8_11 (pc := 5) tw_5_105 rfl dX8_darkOf_5 ?_
  refine r_imul (pc := 8) dX8_darkOf_8 ?_
  refine r_iload_n (pc := 9) (j := 1) dX8_darkOf_9 rfl rfl ?_
  refine r_iadd (pc := 10) dX8_darkOf_10 ?_
  refine r_imul (pc := 11) dX8_darkOf_11 ?_
  refine r_iload_n (pc := 12) (j := 2) dX8_darkOf_12 rfl rfl ?_
  refine r_iadd (pc := 13) dX8_darkOf_13 ?_
  refine r_topi fun v1 ev1 => ?_
  replace hr := vthen_inv hr v1 ev1
  refine r_istore_n (pc := 14) (ls1 := [(3, .int v1), (0, .ref (ad g 73)), (1, .int a1), (2, .int a2)]) dX8_darkOf_14 rfl (nle rfl) rfl ?_
  refine r_iconst (pc := 15) (v := (0 : Int32)) dX8_darkOf_15 rfl ?_
  refine r_istore (pc := 16) (ls1 := [(4, .int (0 : Int32)), (3, .int v1), (0, .ref (ad g 73)), (1, .int a1), (2, .int a2)]) dX8_darkOf_16 (nle rfl) rfl ?_
  refine r_iconst (pc := 18) (v := (0 : Int32)) dX8_darkOf_18 rfl ?_
  refine r_istore (pc := 19) (ls1 := [(5, .int (0 : Int32)), (4, .int (0 : Int32)), (3, .int v1), (0, .ref (ad g 73)), (1, .int a1), (2, .int a2)]) dX8_darkOf_19 (nle rfl) rfl ?_
  refine r_pick (ls1 := [(0, .ref (ad g 73)), (3, .int v1), (4, .int (0 : Int32)), (5, .int (0 : Int32))]) [3, 2, 1, 0] rfl ?_
  refine sX8_darkOf_L21     fuel (0 : Int32) (0 : Int32) σ hr hw

theorem kX8_darkOf {g : GG} {σ : SS} {a1 : Int32} {a2 : Int32} {v : Int32} {σ2 : SS} {M : MM} {F : State → Array Value → List Frame → State → Prop} {pc index : Nat} {ls : List (Nat × Value)} {rest : List Value} (hf : fX8_darkOf σ a1 a2 = some (v, σ2))  (hl : Cond.methodLink M.1.cls index yX8_darkOf ∈ lw_gt) (hR : mX8_darkOf.2.2.2.2.frames + 1 ≤ M.2.2.2.2.frames ∧ 8 + (mX8_darkOf.2.2.1 + 11) + mX8_darkOf.2.2.2.2.locals ≤ M.2.2.2.2.locals) (hrest : (rest.map fun v => v.category).sum ≤ 8) (hd : decode M.2.1 pc = .ok (.invokevirtual index, 3)) (k : WT σ2 → RR g M F zF (pc + 3) ls (.int v :: rest) σ2) : RR g M F zF pc ls (.int a2 :: .int a1 :: .ref (ad g 73) :: rest) σ :=
  r_callV (z := zF) (N := mX8_darkOf) (nn := 2) (o1 := some (.int v)) (sX8_darkOf hf ) (rfl : shp 73 = (8, 0)) (by decide) (shp_le (rfl : shp 73 = (8, 0)) (nle rfl)) (ci := 8) rfl rfl tw_7_101 tw_1_10 hl tw_7_100 tp_74 ⟨by decide, by decide, rfl⟩ hR rfl hrest hd ⟨Nat.zero_le _, Nat.zero_le _⟩ rfl (fun h => k (h rfl))

theorem dX8_finds_0 : decode cX8_finds 0 = .ok (.aload_n 0, 1) := by decide +kernel
theorem dX8_finds_1 : decode cX8_finds 1 = .ok (.invokevirtual 332, 3) := by decide +kernel
theorem dX8_finds_4 : decode cX8_finds 4 = .ok (.aload_n 0, 1) := by decide +kernel
theorem dX8_finds_5 : decode cX8_finds 5 = .ok (.getfield 326, 3) := by decide +kernel
theorem dX8_finds_8 : decode cX8_finds 8 = .ok (.ifCond .ne 5, 3) := by decide +kernel
theorem dX8_finds_11 : decode cX8_finds 11 = .ok (.iconst 0, 1) := by decide +kernel
theorem dX8_finds_12 : decode cX8_finds 12 = .ok (.ireturn, 1) := by decide +kernel
theorem dX8_finds_13 : decode cX8_finds 13 = .ok (.aload_n 0, 1) := by decide +kernel
theorem dX8_finds_14 : decode cX8_finds 14 = .ok (.iconst (-1), 1) := by decide +kernel
theorem dX8_finds_15 : decode cX8_finds 15 = .ok (.putfield 363, 3) := by decide +kernel
theorem dX8_finds_18 : decode cX8_finds 18 = .ok (.iconst 0, 1) := by decide +kernel
theorem dX8_finds_19 : decode cX8_finds 19 = .ok (.istore_n 1, 1) := by decide +kernel
theorem dX8_finds_20 : decode cX8_finds 20 = .ok (.iload_n 1, 1) := by decide +kernel
theorem dX8_finds_21 : decode cX8_finds 21 = .ok (.aload_n 0, 1) := by decide +kernel
theorem dX8_finds_22 : decode cX8_finds 22 = .ok (.invokevirtual 266, 3) := by decide +kernel
theorem dX8_finds_25 : decode cX8_finds 25 = .ok (.if_icmp .ge 73, 3) := by decide +kernel
theorem dX8_finds_28 : decode cX8_finds 28 = .ok (.iconst 0, 1) := by decide +kernel
theorem dX8_finds_29 : decode cX8_finds 29 = .ok (.istore_n 2, 1) := by decide +kernel
theorem dX8_finds_30 : decode cX8_finds 30 = .ok (.iload_n 2, 1) := by decide +kernel
theorem dX8_finds_31 : decode cX8_finds 31 = .ok (.aload_n 0, 1) := by decide +kernel
theorem dX8_finds_32 : decode cX8_finds 32 = .ok (.iload_n 1, 1) := by decide +kernel
theorem dX8_finds_33 : decode cX8_finds 33 = .ok (.invokevirtual 272, 3) := by decide +kernel
theorem dX8_finds_36 : decode cX8_finds 36 = .ok (.if_icmp .ge 56, 3) := by decide +kernel
theorem dX8_finds_39 : decode cX8_finds 39 = .ok (.aload_n 0, 1) := by decide +kernel
theorem dX8_finds_40 : decode cX8_finds 40 = .ok (.iload_n 1, 1) := by decide +kernel
theorem dX8_finds_41 : decode cX8_finds 41 = .ok (.iload_n 2, 1) := by decide +kernel
theorem dX8_finds_42 : decode cX8_finds 42 = .ok (.invokevirtual 366, 3) := by decide +kernel
theorem dX8_finds_45 : decode cX8_finds 45 = .ok (.istore_n 3, 1) := by decide +kernel
theorem dX8_finds_46 : decode cX8_finds 46 = .ok (.aload_n 0, 1) := by decide +kernel
theorem dX8_finds_47 : decode cX8_finds 47 = .ok (.getfield 108, 3) := by decide +kernel
theorem dX8_finds_50 : decode cX8_finds 50 = .ok (.bipush 6, 2) := by decide +kernel
theorem dX8_finds_52 : decode cX8_finds 52 = .ok (.iload_n 1, 1) := by decide +kernel
theorem dX8_finds_53 : decode cX8_finds 53 = .ok (.imul, 1) := by decide +kernel
theorem dX8_finds_54 : decode cX8_finds 54 = .ok (.iload_n 2, 1) := by decide +kernel
theorem dX8_finds_55 : decode cX8_finds 55 = .ok (.iadd, 1) := by decide +kernel
theorem dX8_finds_56 : decode cX8_finds 56 = .ok (.iload_n 3, 1) := by decide +kernel
theorem dX8_finds_57 : decode cX8_finds 57 = .ok (.iastore, 1) := by decide +kernel
theorem dX8_finds_58 : decode cX8_finds 58 = .ok (.aload_n 0, 1) := by decide +kernel
theorem dX8_finds_59 : decode cX8_finds 59 = .ok (.aload_n 0, 1) := by decide +kernel
theorem dX8_finds_60 : decode cX8_finds 60 = .ok (.getfield 363, 3) := by decide +kernel
theorem dX8_finds_63 : decode cX8_finds 63 = .ok (.iconst (-1), 1) := by decide +kernel
theorem dX8_finds_64 : decode cX8_finds 64 = .ok (.if_icmp .eq 11, 3) := by decide +kernel
theorem dX8_finds_67 : decode cX8_finds 67 = .ok (.iload_n 3, 1) := by decide +kernel
theorem dX8_finds_68 : decode cX8_finds 68 = .ok (.aload_n 0, 1) := by decide +kernel
theorem dX8_finds_69 : decode cX8_finds 69 = .ok (.getfield 363, 3) := by decide +kernel
theorem dX8_finds_72 : decode cX8_finds 72 = .ok (.if_icmp .ge 7, 3) := by decide +kernel
theorem dX8_finds_75 : decode cX8_finds 75 = .ok (.iload_n 3, 1) := by decide +kernel
theorem dX8_finds_76 : decode cX8_finds 76 = .ok (.goto 7, 3) := by decide +kernel
theorem dX8_finds_79 : decode cX8_finds 79 = .ok (.aload_n 0, 1) := by decide +kernel
theorem dX8_finds_80 : decode cX8_finds 80 = .ok (.getfield 363, 3) := by decide +kernel
theorem dX8_finds_83 : decode cX8_finds 83 = .ok (.putfield 363, 3) := by decide +kernel
theorem dX8_finds_86 : decode cX8_finds 86 = .ok (.iinc 2 1, 3) := by decide +kernel
theorem dX8_finds_89 : decode cX8_finds 89 = .ok (.goto (-59), 3) := by decide +kernel
theorem dX8_finds_92 : decode cX8_finds 92 = .ok (.iinc 1 1, 3) := by decide +kernel
theorem dX8_finds_95 : decode cX8_finds 95 = .ok (.goto (-75), 3) := by decide +kernel
theorem dX8_finds_98 : decode cX8_finds 98 = .ok (.iconst 1, 1) := by decide +kernel
theorem dX8_finds_99 : decode cX8_finds 99 = .ok (.ireturn, 1) := by decide +kernel
def mX8_finds : MM := (yX8_finds, cX8_finds, 4, Option.some Jvm.ClassFile.FieldType.boolean, { frames := 6, cells := 0, slots := 0, locals := 135 })
def X8_finds_L30 (u1_ : Int32) (k92 : SS → Option (Bool × SS)) : Nat → Int32 → SS → Option (Bool × SS) :=
  lp (fun _ _ => none) fun rec v2_ σ_ =>
    bnd1 (fX8_boxesOf σ_ u1_) fun v6 =>
    if v6 ≤ v2_ then (
      k92 σ_
      ) else (
      bnd (fX8_darkOf σ_ u1_ v2_) fun v9 σ12 =>
      grd (inb (((6 : Int32) * u1_) + v2_) 72) <|
      vthen (sI σ12 106 (Int32.toNatClampNeg (((6 : Int32) * u1_) + v2_)) v9) fun σ14 =>
      vthen (fun (s15 : Int32) =>
        vthen (sI σ14 73 54 s15) fun σ16 =>
        rec (v2_ + (1 : Int32)) σ16
        ) fun j83 =>
      vthen (fun (_u : Unit) =>
        j83 v9
        ) fun j75 =>
      if (gI σ14 73 54) = (-1 : Int32) then (
        j75 ()
        ) else (
        if (gI σ14 73 54) ≤ v9 then (
          j83 (gI σ14 73 54)
          ) else (
          j75 ()
          )
        )
      )

def X8_finds_L20   : Nat → Int32 → SS → Option (Bool × SS) :=
  lp (fun _ _ => none) fun rec v1_ σ_ =>
    bnd1 (fX8_questions σ_) fun v3 =>
    if v3 ≤ v1_ then (
      some (true, σ_)
      ) else (
      X8_finds_L30 v1_
      (fun σ17 =>
        rec (v1_ + (1 : Int32)) σ17
        )
      fuel (0 : Int32) σ_
      )

def fX8_finds (σ : SS)  : Option (Bool × SS) :=
  bnd1 (fX8_laysMarks σ) fun σ1 =>
  if (gI σ1 73 49) = 0 then (
    some (false, σ1)
    ) else (
    vthen (sI σ1 73 54 (-1 : Int32)) fun σ2 =>
    X8_finds_L20
    fuel (0 : Int32) σ2
    )

set_option maxRecDepth 20000 in
theorem sX8_finds_L30 {g : GG} {r : Bool × SS} {u1_ : Int32} {k92 : SS → Option (Bool × SS)} 
    (hk92 : ∀ (σ_ : SS), k92 σ_ = some r → WT σ_ → RR g mX8_finds (FinR g mX8_finds (some (.int (b2i r.1))) NF r.2) zF 92 [(0, .ref (ad g 73)), (1, .int u1_)] [] σ_)
    (n : Nat) : ∀ (v2_ : Int32) (σ_ : SS), X8_finds_L30 u1_ k92 n v2_ σ_ = some r → WT σ_ → RR g mX8_finds (FinR g mX8_finds (some (.int (b2i r.1))) NF r.2) zF 30 [(0, .ref (ad g 73)), (1, .int u1_), (2, .int v2_)] [] σ_ := by
  unfold X8_finds_L30
  refine lp_ind (P := fun (rec : Int32 → SS → Option (Bool × SS)) => ∀ (v2_ : Int32) (σ_ : SS), rec v2_ σ_ = some r → WT σ_ → RR g mX8_finds (FinR g mX8_finds (some (.int (b2i r.1))) NF r.2) zF 30 [(0, .ref (ad g 73)), (1, .int u1_), (2, .int v2_)] [] σ_) ?_ ?_ n
  · intro v2_ σ_ hr; cases hr
  intro rec ih v2_ σ_ hr hw_
  refine r_iload_n (pc := 30) (j := 2) dX8_finds_30 rfl rfl ?_
  refine r_aload_n (pc := 31) (j := 0) dX8_finds_31 rfl rfl ?_
  refine r_iload_n (pc := 32) (j := 1) dX8_finds_32 rfl rfl ?_
  obtain ⟨v6, hv6, hr⟩ := bnd1_inv hr
  refine kX8_boxesOf (pc := 33) hv6 tw_7_27 ⟨nle rfl, nle rfl⟩ (nle rfl) dX8_finds_33 ?_
  refine r_icmp_ge (pc := 36) (tgt := 92) dX8_finds_36 rfl (fun hc => ?_) (fun hc => ?_)
  · replace hr := ite_t hc hr
    exact r_pick (ls1 := [(0, .ref (ad g 73)), (1, .int u1_)]) [0, 1] rfl (hk92 σ_ hr hw_)
  replace hr := ite_f hc hr
  refine r_aload_n (pc := 39) (j := 0) dX8_finds_39 rfl rfl ?_
  refine r_iload_n (pc := 40) (j := 1) dX8_finds_40 rfl rfl ?_
  refine r_iload_n (pc := 41) (j := 2) dX8_finds_41 rfl rfl ?_
  obtain ⟨v9, σ12, eσ12, hr⟩ := bnd_inv hr
  refine kX8_darkOf (pc := 42) eσ12 tw_7_98 ⟨nle rfl, nle rfl⟩ (nle rfl) dX8_finds_42 fun hσ12 => ?_
  refine r_istore_n (pc := 45) (ls1 := [(3, .int v9), (0, .ref (ad g 73)), (1, .int u1_), (2, .int v2_)]) dX8_finds_45 rfl (nle rfl) rfl ?_
  refine r_aload_n (pc := 46) (j := 1) dX8_finds_46 rfl rfl ?_
  refine gf8_52 (pc := 47) tw_5_146 hσ12 dX8_finds_47 ?_
  refine r_bipush (pc := 50) (v := (6 : Int32)) dX8_finds_50 rfl ?_
  refine r_iload_n (pc := 52) (j := 2) dX8_finds_52 rfl rfl ?_
  refine r_imul (pc := 53) dX8_finds_53 ?_
  refine r_iload_n (pc := 54) (j := 3) dX8_finds_54 rfl rfl ?_
  refine r_iadd (pc := 55) dX8_finds_55 ?_
  refine r_iload_n (pc := 56) (j := 0) dX8_finds_56 rfl rfl ?_
  obtain ⟨h13, hr⟩ := grd_inv hr
  refine x_iast (pc := 57) (j := (Int32.toNatClampNeg (((6 : Int32) * u1_) + v2_))) rfl h13 rfl dX8_finds_57 fun σ14 eσ14 => ?_
  replace hr := vthen_inv hr σ14 eσ14
  have hσ14 := wtI eσ14 hσ12
  refine r_aload_n (pc := 58) (j := 1) dX8_finds_58 rfl rfl ?_
  refine r_aload_n (pc := 59) (j := 1) dX8_finds_59 rfl rfl ?_
  refine gf8_54 (pc := 60) tw_5_148 rfl dX8_finds_60 ?_
  refine r_iconst (pc := 63) (v := (-1 : Int32)) dX8_finds_63 rfl ?_
  obtain ⟨j83, ej83, hr⟩ := vth_ex hr
  have hj83 : ∀ (s15 : Int32), j83 s15 = some r → RR g mX8_finds (FinR g mX8_finds (some (.int (b2i r.1))) NF r.2) zF 83 [(0, .ref (ad g 73)), (1, .int u1_), (2, .int v2_)] [.int s15, .ref (ad g 73)] σ14 := by
    intro s15 hr
    replace hr := (congrFun ej83 s15).symm.trans hr
    refine pf8_54 (pc := 83) tw_5_148 rfl dX8_finds_83 fun σ16 eσ16 => ?_
    replace hr := vthen_inv hr σ16 eσ16
    have hσ16 := wtI eσ16 hσ14
    refine r_iinc (pc := 86) (j := 2) (v := (v2_ + (1 : Int32))) (ls1 := [(2, .int (v2_ + (1 : Int32))), (0, .ref (ad g 73)), (1, .int u1_)]) dX8_finds_86 rfl rfl (nle rfl) rfl ?_
    refine r_goto (pc := 89) (tgt := 30) dX8_finds_89 rfl ?_
    exact r_pick (ls1 := [(0, .ref (ad g 73)), (1, .int u1_), (2, .int (v2_ + (1 : Int32)))]) [1, 2, 0] rfl (ih (v2_ + (1 : Int32)) σ16 hr hσ16)
  obtain ⟨j75, ej75, hr⟩ := vth_ex hr
  have hj75 : j75 () = some r → RR g mX8_finds (FinR g mX8_finds (some (.int (b2i r.1))) NF r.2) zF 75 [(0, .ref (ad g 73)), (1, .int u1_), (2, .int v2_), (3, .int v9)] [.ref (ad g 73)] σ14 := by
    intro  hr
    replace hr := (congrFun ej75 ()).symm.trans hr
    refine r_iload_n (pc := 75) (j := 3) dX8_finds_75 rfl rfl ?_
    refine r_goto (pc := 76) (tgt := 83) dX8_finds_76 rfl ?_
    exact r_pick (ls1 := [(0, .ref (ad g 73)), (1, .int u1_), (2, .int v2_)]) [0, 1, 2] rfl (hj83 v9 hr)
  refine r_icmp_eq (pc := 64) (tgt := 75) dX8_finds_64 rfl (fun hc => ?_) (fun hc => ?_)
  · replace hr := ite_t hc hr
    exact r_pick (ls1 := [(0, .ref (ad g 73)), (1, .int u1_), (2, .int v2_), (3, .int v9)]) [1, 2, 3, 0] rfl (hj75  hr)
  replace hr := ite_f hc hr
  refine r_iload_n (pc := 67) (j := 0) dX8_finds_67 rfl rfl ?_
  refine r_aload_n (pc := 68) (j := 1) dX8_finds_68 rfl rfl ?_
  refine gf8_54 (pc := 69) tw_5_148 rfl dX8_finds_69 ?_
  refine r_icmp_ge (pc := 72) (tgt := 79) dX8_finds_72 rfl (fun hc => ?_) (fun hc => ?_)
  · replace hr := ite_t hc hr
    refine r_aload_n (pc := 79) (j := 1) dX8_finds_79 rfl rfl ?_
    refine gf8_54 (pc := 80) tw_5_148 rfl dX8_finds_80 ?_
    exact r_pick (ls1 := [(0, .ref (ad g 73)), (1, .int u1_), (2, .int v2_)]) [1, 2, 3] rfl (hj83 (gI σ14 73 54) hr)
  replace hr := ite_f hc hr
  exact r_pick (ls1 := [(0, .ref (ad g 73)), (1, .int u1_), (2, .int v2_), (3, .int v9)]) [1, 2, 3, 0] rfl (hj75  hr)

set_option maxRecDepth 20000 in
theorem sX8_finds_L20 {g : GG} {r : Bool × SS}   
    (n : Nat) : ∀ (v1_ : Int32) (σ_ : SS), X8_finds_L20 n v1_ σ_ = some r → WT σ_ → RR g mX8_finds (FinR g mX8_finds (some (.int (b2i r.1))) NF r.2) zF 20 [(0, .ref (ad g 73)), (1, .int v1_)] [] σ_ := by
  unfold X8_finds_L20
  refine lp_ind (P := fun (rec : Int32 → SS → Option (Bool × SS)) => ∀ (v1_ : Int32) (σ_ : SS), rec v1_ σ_ = some r → WT σ_ → RR g mX8_finds (FinR g mX8_finds (some (.int (b2i r.1))) NF r.2) zF 20 [(0, .ref (ad g 73)), (1, .int v1_)] [] σ_) ?_ ?_ n
  · intro v1_ σ_ hr; cases hr
  intro rec ih v1_ σ_ hr hw_
  refine r_iload_n (pc := 20) (j := 1) dX8_finds_20 rfl rfl ?_
  refine r_aload_n (pc := 21) (j := 0) dX8_finds_21 rfl rfl ?_
  obtain ⟨v3, hv3, hr⟩ := bnd1_inv hr
  refine kX8_questions (pc := 22) hv3 tw_6_145 ⟨nle rfl, nle rfl⟩ (nle rfl) dX8_finds_22 ?_
  refine r_icmp_ge (pc := 25) (tgt := 98) dX8_finds_25 rfl (fun hc => ?_) (fun hc => ?_)
  · replace hr := ite_t hc hr
    refine r_iconst (pc := 98) (v := (1 : Int32)) dX8_finds_98 rfl ?_
    exact l_osz hr (r_zret (pc := 99) (v := b2i true) (ty := .boolean) rfl (b2i_nar _) rfl ⟨Nat.le_refl _, Nat.le_refl _⟩ dX8_finds_99)
  replace hr := ite_f hc hr
  refine r_iconst (pc := 28) (v := (0 : Int32)) dX8_finds_28 rfl ?_
  refine r_istore_n (pc := 29) (ls1 := [(2, .int (0 : Int32)), (0, .ref (ad g 73)), (1, .int v1_)]) dX8_finds_29 rfl (nle rfl) rfl ?_
  refine r_pick (ls1 := [(0, .ref (ad g 73)), (1, .int v1_), (2, .int (0 : Int32))]) [1, 2, 0] rfl ?_
  refine sX8_finds_L30    (fun σ17 hr hσ17 => ?_) fuel (0 : Int32) σ_ hr hw_
  refine r_iinc (pc := 92) (j := 1) (v := (v1_ + (1 : Int32))) (ls1 := [(1, .int (v1_ + (1 : Int32))), (0, .ref (ad g 73))]) dX8_finds_92 rfl rfl (nle rfl) rfl ?_
  refine r_goto (pc := 95) (tgt := 20) dX8_finds_95 rfl ?_
  exact r_pick (ls1 := [(0, .ref (ad g 73)), (1, .int (v1_ + (1 : Int32)))]) [1, 0] rfl (ih (v1_ + (1 : Int32)) σ17 hr hσ17)

set_option maxRecDepth 20000 in
theorem sX8_finds {g : GG} {σ : SS}  {r : Bool × SS} (hr : fX8_finds σ = some r)  : Ct g mX8_finds [.ref (ad g 73)] NF σ (some (.int (b2i r.1))) NF r.2 := by
  refine Ct.of (by decide +kernel) (nle rfl) fun hw0 => ?_
  have hw := hw0 rfl
  unfold fX8_finds at hr
  change RR g mX8_finds (FinR g mX8_finds (some (.int (b2i r.1))) NF r.2) zF 0 [(0, .ref (ad g 73))] [] σ
  refine r_aload_n (pc := 0) (j := 0) dX8_finds_0 rfl rfl ?_
  obtain ⟨σ1, eσ1, hr⟩ := bnd1_inv hr
  refine kX8_laysMarks (pc := 1) eσ1 tw_7_47 ⟨nle rfl, nle rfl⟩ (nle rfl) dX8_finds_1 fun hσ1 => ?_
  refine r_aload_n (pc := 4) (j := 0) dX8_finds_4 rfl rfl ?_
  refine gf8_49 (pc := 5) tw_5_143 rfl dX8_finds_5 ?_
  refine r_if_ne (pc := 8) (tgt := 13) dX8_finds_8 rfl (fun hc => ?_) (fun hc => ?_)
  · replace hr := ite_f hc hr
    refine r_aload_n (pc := 13) (j := 0) dX8_finds_13 rfl rfl ?_
    refine r_iconst (pc := 14) (v := (-1 : Int32)) dX8_finds_14 rfl ?_
    refine pf8_54 (pc := 15) tw_5_148 rfl dX8_finds_15 fun σ2 eσ2 => ?_
    replace hr := vthen_inv hr σ2 eσ2
    have hσ2 := wtI eσ2 hσ1
    refine r_iconst (pc := 18) (v := (0 : Int32)) dX8_finds_18 rfl ?_
    refine r_istore_n (pc := 19) (ls1 := [(1, .int (0 : Int32)), (0, .ref (ad g 73))]) dX8_finds_19 rfl (nle rfl) rfl ?_
    refine r_pick (ls1 := [(0, .ref (ad g 73)), (1, .int (0 : Int32))]) [1, 0] rfl ?_
    refine sX8_finds_L20     fuel (0 : Int32) σ2 hr hσ2
  replace hr := ite_t hc hr
  refine r_iconst (pc := 11) (v := (0 : Int32)) dX8_finds_11 rfl ?_
  exact l_osz hr (r_zret (pc := 12) (v := b2i false) (ty := .boolean) rfl (b2i_nar _) rfl ⟨Nat.le_refl _, Nat.le_refl _⟩ dX8_finds_12)

theorem kX8_finds {g : GG} {σ : SS}  {v : Bool} {σ2 : SS} {M : MM} {F : State → Array Value → List Frame → State → Prop} {pc index : Nat} {ls : List (Nat × Value)} {rest : List Value} (hf : fX8_finds σ = some (v, σ2))  (hl : Cond.methodLink M.1.cls index yX8_finds ∈ lw_gt) (hR : mX8_finds.2.2.2.2.frames + 1 ≤ M.2.2.2.2.frames ∧ 8 + (mX8_finds.2.2.1 + 11) + mX8_finds.2.2.2.2.locals ≤ M.2.2.2.2.locals) (hrest : (rest.map fun v => v.category).sum ≤ 8) (hd : decode M.2.1 pc = .ok (.invokevirtual index, 3)) (k : WT σ2 → RR g M F zF (pc + 3) ls (.int (b2i v) :: rest) σ2) : RR g M F zF pc ls (.ref (ad g 73) :: rest) σ :=
  r_callV (z := zF) (N := mX8_finds) (nn := 0) (o1 := some (.int (b2i v))) (sX8_finds hf ) (rfl : shp 73 = (8, 0)) (by decide) (shp_le (rfl : shp 73 = (8, 0)) (nle rfl)) (ci := 8) rfl rfl tw_7_97 tw_1_10 hl tw_7_96 tp_73 ⟨by decide, by decide, rfl⟩ hR rfl hrest hd ⟨Nat.zero_le _, Nat.zero_le _⟩ rfl (fun h => k (h rfl))

theorem dX8_dark_0 : decode cX8_dark 0 = .ok (.aload_n 0, 1) := by decide +kernel
theorem dX8_dark_1 : decode cX8_dark 1 = .ok (.iload_n 1, 1) := by decide +kernel
theorem dX8_dark_2 : decode cX8_dark 2 = .ok (.invokevirtual 269, 3) := by decide +kernel
theorem dX8_dark_5 : decode cX8_dark 5 = .ok (.ifCond .eq 17, 3) := by decide +kernel
theorem dX8_dark_8 : decode cX8_dark 8 = .ok (.iload_n 2, 1) := by decide +kernel
theorem dX8_dark_9 : decode cX8_dark 9 = .ok (.iconst (-1), 1) := by decide +kernel
theorem dX8_dark_10 : decode cX8_dark 10 = .ok (.if_icmp .eq 14, 3) := by decide +kernel
theorem dX8_dark_13 : decode cX8_dark 13 = .ok (.aload_n 0, 1) := by decide +kernel
theorem dX8_dark_14 : decode cX8_dark 14 = .ok (.iload_n 1, 1) := by decide +kernel
theorem dX8_dark_15 : decode cX8_dark 15 = .ok (.iload_n 2, 1) := by decide +kernel
theorem dX8_dark_16 : decode cX8_dark 16 = .ok (.invokevirtual 370, 3) := by decide +kernel
theorem dX8_dark_19 : decode cX8_dark 19 = .ok (.ifCond .ne 5, 3) := by decide +kernel
theorem dX8_dark_22 : decode cX8_dark 22 = .ok (.iconst (-1), 1) := by decide +kernel
theorem dX8_dark_23 : decode cX8_dark 23 = .ok (.ireturn, 1) := by decide +kernel
theorem dX8_dark_24 : decode cX8_dark 24 = .ok (.aload_n 0, 1) := by decide +kernel
theorem dX8_dark_25 : decode cX8_dark 25 = .ok (.invokevirtual 373, 3) := by decide +kernel
theorem dX8_dark_28 : decode cX8_dark 28 = .ok (.ifCond .ne 6, 3) := by decide +kernel
theorem dX8_dark_31 : decode cX8_dark 31 = .ok (.bipush (-2), 2) := by decide +kernel
theorem dX8_dark_33 : decode cX8_dark 33 = .ok (.ireturn, 1) := by decide +kernel
theorem dX8_dark_34 : decode cX8_dark 34 = .ok (.iload_n 2, 1) := by decide +kernel
theorem dX8_dark_35 : decode cX8_dark 35 = .ok (.iconst (-1), 1) := by decide +kernel
theorem dX8_dark_36 : decode cX8_dark 36 = .ok (.if_icmp .ne 10, 3) := by decide +kernel
theorem dX8_dark_39 : decode cX8_dark 39 = .ok (.aload_n 0, 1) := by decide +kernel
theorem dX8_dark_40 : decode cX8_dark 40 = .ok (.getfield 363, 3) := by decide +kernel
theorem dX8_dark_43 : decode cX8_dark 43 = .ok (.goto 14, 3) := by decide +kernel
theorem dX8_dark_46 : decode cX8_dark 46 = .ok (.aload_n 0, 1) := by decide +kernel
theorem dX8_dark_47 : decode cX8_dark 47 = .ok (.getfield 108, 3) := by decide +kernel
theorem dX8_dark_50 : decode cX8_dark 50 = .ok (.bipush 6, 2) := by decide +kernel
theorem dX8_dark_52 : decode cX8_dark 52 = .ok (.iload_n 1, 1) := by decide +kernel
theorem dX8_dark_53 : decode cX8_dark 53 = .ok (.imul, 1) := by decide +kernel
theorem dX8_dark_54 : decode cX8_dark 54 = .ok (.iload_n 2, 1) := by decide +kernel
theorem dX8_dark_55 : decode cX8_dark 55 = .ok (.iadd, 1) := by decide +kernel
theorem dX8_dark_56 : decode cX8_dark 56 = .ok (.iaload, 1) := by decide +kernel
theorem dX8_dark_57 : decode cX8_dark 57 = .ok (.ireturn, 1) := by decide +kernel
def mX8_dark : MM := (yX8_dark, cX8_dark, 3, Option.some Jvm.ClassFile.FieldType.int, { frames := 7, cells := 0, slots := 0, locals := 158 })
def fX8_dark (σ : SS) (a1 : Int32) (a2 : Int32) : Option (Int32 × SS) :=
  bnd1 (fX8_isQuestion σ a1) fun b2 =>
  if b2 = true then (
    vthen (fun (_u : Unit) =>
      bnd (fX8_finds σ) fun b5 σ7 =>
      if b5 = true then (
        if a2 = (-1 : Int32) then (
          some ((gI σ7 73 54), σ7)
          ) else (
          grd (inb (((6 : Int32) * a1) + a2) 72) <|
          some ((gI σ7 106 (Int32.toNatClampNeg (((6 : Int32) * a1) + a2))), σ7)
          )
        ) else (
        some ((-2 : Int32), σ7)
        )
      ) fun j24 =>
    if a2 = (-1 : Int32) then (
      j24 ()
      ) else (
      bnd1 (fX8_isBox σ a1 a2) fun b10 =>
      if b10 = true then (
        j24 ()
        ) else (
        some ((-1 : Int32), σ)
        )
      )
    ) else (
    some ((-1 : Int32), σ)
    )

set_option maxRecDepth 20000 in
theorem sX8_dark {g : GG} {σ : SS} {a1 : Int32} {a2 : Int32} {r : Int32 × SS} (hr : fX8_dark σ a1 a2 = some r)  : Ct g mX8_dark [.ref (ad g 73), .int a1, .int a2] NF σ (some (.int r.1)) NF r.2 := by
  refine Ct.of (by decide +kernel) (nle rfl) fun hw0 => ?_
  have hw := hw0 rfl
  unfold fX8_dark at hr
  change RR g mX8_dark (FinR g mX8_dark (some (.int r.1)) NF r.2) zF 0 [(0, .ref (ad g 73)), (1, .int a1), (2, .int a2)] [] σ
  refine r_aload_n (pc := 0) (j := 0) dX8_dark_0 rfl rfl ?_
  refine r_iload_n (pc := 1) (j := 1) dX8_dark_1 rfl rfl ?_
  obtain ⟨b2, hb2, hr⟩ := bnd1_inv hr
  refine kX8_isQuestion (pc := 2) hb2 tw_6_141 ⟨nle rfl, nle rfl⟩ (nle rfl) dX8_dark_2 ?_
  refine r_ifB_eq (pc := 5) (tgt := 22) dX8_dark_5 rfl (fun hc => ?_) (fun hc => ?_)
  · replace hr := ite_f hc hr
    refine r_iconst (pc := 22) (v := (-1 : Int32)) dX8_dark_22 rfl ?_
    exact l_osi hr (r_iret (pc := 23) (v := (-1 : Int32)) rfl rfl ⟨Nat.le_refl _, Nat.le_refl _⟩ dX8_dark_23)
  replace hr := ite_t hc hr
  refine r_iload_n (pc := 8) (j := 2) dX8_dark_8 rfl rfl ?_
  refine r_iconst (pc := 9) (v := (-1 : Int32)) dX8_dark_9 rfl ?_
  obtain ⟨j24, ej24, hr⟩ := vth_ex hr
  have hj24 : j24 () = some r → RR g mX8_dark (FinR g mX8_dark (some (.int r.1)) NF r.2) zF 24 [(0, .ref (ad g 73)), (1, .int a1), (2, .int a2)] [] σ := by
    intro  hr
    replace hr := (congrFun ej24 ()).symm.trans hr
    refine r_aload_n (pc := 24) (j := 0) dX8_dark_24 rfl rfl ?_
    obtain ⟨b5, σ7, eσ7, hr⟩ := bnd_inv hr
    refine kX8_finds (pc := 25) eσ7 tw_7_94 ⟨nle rfl, nle rfl⟩ (nle rfl) dX8_dark_25 fun hσ7 => ?_
    refine r_ifB_ne (pc := 28) (tgt := 34) dX8_dark_28 rfl (fun hc => ?_) (fun hc => ?_)
    · replace hr := ite_t hc hr
      refine r_iload_n (pc := 34) (j := 2) dX8_dark_34 rfl rfl ?_
      refine r_iconst (pc := 35) (v := (-1 : Int32)) dX8_dark_35 rfl ?_
      refine r_icmp_ne (pc := 36) (tgt := 46) dX8_dark_36 rfl (fun hc => ?_) (fun hc => ?_)
      · replace hr := ite_f hc hr
        refine r_aload_n (pc := 46) (j := 0) dX8_dark_46 rfl rfl ?_
        refine gf8_52 (pc := 47) tw_5_146 hσ7 dX8_dark_47 ?_
        refine r_bipush (pc := 50) (v := (6 : Int32)) dX8_dark_50 rfl ?_
        refine r_iload_n (pc := 52) (j := 1) dX8_dark_52 rfl rfl ?_
        refine r_imul (pc := 53) dX8_dark_53 ?_
        refine r_iload_n (pc := 54) (j := 2) dX8_dark_54 rfl rfl ?_
        refine r_iadd (pc := 55) dX8_dark_55 ?_
        obtain ⟨h8, hr⟩ := grd_inv hr
        refine x_iald (pc := 56) (k := (Int32.toNatClampNeg (((6 : Int32) * a1) + a2))) rfl h8 rfl dX8_dark_56 ?_
        exact l_osi hr (r_iret (pc := 57) (v := (gI σ7 106 (Int32.toNatClampNeg (((6 : Int32) * a1) + a2)))) rfl rfl ⟨Nat.le_refl _, Nat.le_refl _⟩ dX8_dark_57)
      replace hr := ite_t hc hr
      refine r_aload_n (pc := 39) (j := 0) dX8_dark_39 rfl rfl ?_
      refine gf8_54 (pc := 40) tw_5_148 rfl dX8_dark_40 ?_
      refine r_goto (pc := 43) (tgt := 57) dX8_dark_43 rfl ?_
      exact l_osi hr (r_iret (pc := 57) (v := (gI σ7 73 54)) rfl rfl ⟨Nat.le_refl _, Nat.le_refl _⟩ dX8_dark_57)
    replace hr := ite_f hc hr
    refine r_bipush (pc := 31) (v := (-2 : Int32)) dX8_dark_31 rfl ?_
    exact l_osi hr (r_iret (pc := 33) (v := (-2 : Int32)) rfl rfl ⟨Nat.le_refl _, Nat.le_refl _⟩ dX8_dark_33)
  refine r_icmp_eq (pc := 10) (tgt := 24) dX8_dark_10 rfl (fun hc => ?_) (fun hc => ?_)
  · replace hr := ite_t hc hr
    exact r_pick (ls1 := [(0, .ref (ad g 73)), (1, .int a1), (2, .int a2)]) [0, 1, 2] rfl (hj24  hr)
  replace hr := ite_f hc hr
  refine r_aload_n (pc := 13) (j := 0) dX8_dark_13 rfl rfl ?_
  refine r_iload_n (pc := 14) (j := 1) dX8_dark_14 rfl rfl ?_
  refine r_iload_n (pc := 15) (j := 2) dX8_dark_15 rfl rfl ?_
  obtain ⟨b10, hb10, hr⟩ := bnd1_inv hr
  refine kX8_isBox (pc := 16) hb10 tw_7_90 ⟨nle rfl, nle rfl⟩ (nle rfl) dX8_dark_16 ?_
  refine r_ifB_ne (pc := 19) (tgt := 24) dX8_dark_19 rfl (fun hc => ?_) (fun hc => ?_)
  · replace hr := ite_t hc hr
    exact r_pick (ls1 := [(0, .ref (ad g 73)), (1, .int a1), (2, .int a2)]) [0, 1, 2] rfl (hj24  hr)
  replace hr := ite_f hc hr
  refine r_iconst (pc := 22) (v := (-1 : Int32)) dX8_dark_22 rfl ?_
  exact l_osi hr (r_iret (pc := 23) (v := (-1 : Int32)) rfl rfl ⟨Nat.le_refl _, Nat.le_refl _⟩ dX8_dark_23)

theorem kX8_dark {g : GG} {σ : SS} {a1 : Int32} {a2 : Int32} {v : Int32} {σ2 : SS} {M : MM} {F : State → Array Value → List Frame → State → Prop} {pc index : Nat} {ls : List (Nat × Value)} {rest : List Value} (hf : fX8_dark σ a1 a2 = some (v, σ2))  (hl : Cond.methodLink M.1.cls index yX8_dark ∈ lw_gt) (hR : mX8_dark.2.2.2.2.frames + 1 ≤ M.2.2.2.2.frames ∧ 8 + (mX8_dark.2.2.1 + 11) + mX8_dark.2.2.2.2.locals ≤ M.2.2.2.2.locals) (hrest : (rest.map fun v => v.category).sum ≤ 8) (hd : decode M.2.1 pc = .ok (.invokevirtual index, 3)) (k : WT σ2 → RR g M F zF (pc + 3) ls (.int v :: rest) σ2) : RR g M F zF pc ls (.int a2 :: .int a1 :: .ref (ad g 73) :: rest) σ :=
  r_callV (z := zF) (N := mX8_dark) (nn := 2) (o1 := some (.int v)) (sX8_dark hf ) (rfl : shp 73 = (8, 0)) (by decide) (shp_le (rfl : shp 73 = (8, 0)) (nle rfl)) (ci := 8) rfl rfl tw_7_89 tw_1_10 hl tw_7_87 tw_7_88 ⟨by decide, by decide, rfl⟩ hR rfl hrest hd ⟨Nat.zero_le _, Nat.zero_le _⟩ rfl (fun h => k (h rfl))

theorem dX3_sortByDark_0 : decode cX3_sortByDark 0 = .ok (.iconst 0, 1) := by decide +kernel
theorem dX3_sortByDark_1 : decode cX3_sortByDark 1 = .ok (.istore_n 3, 1) := by decide +kernel
theorem dX3_sortByDark_2 : decode cX3_sortByDark 2 = .ok (.iload_n 3, 1) := by decide +kernel
theorem dX3_sortByDark_3 : decode cX3_sortByDark 3 = .ok (.iload_n 2, 1) := by decide +kernel
theorem dX3_sortByDark_4 : decode cX3_sortByDark 4 = .ok (.if_icmp .ge 77, 3) := by decide +kernel
theorem dX3_sortByDark_7 : decode cX3_sortByDark 7 = .ok (.iload_n 1, 1) := by decide +kernel
theorem dX3_sortByDark_8 : decode cX3_sortByDark 8 = .ok (.iload_n 3, 1) := by decide +kernel
theorem dX3_sortByDark_9 : decode cX3_sortByDark 9 = .ok (.iadd, 1) := by decide +kernel
theorem dX3_sortByDark_10 : decode cX3_sortByDark 10 = .ok (.istore 4, 2) := by decide +kernel
theorem dX3_sortByDark_12 : decode cX3_sortByDark 12 = .ok (.iload_n 3, 1) := by decide +kernel
theorem dX3_sortByDark_13 : decode cX3_sortByDark 13 = .ok (.istore 5, 2) := by decide +kernel
theorem dX3_sortByDark_15 : decode cX3_sortByDark 15 = .ok (.iload 5, 2) := by decide +kernel
theorem dX3_sortByDark_17 : decode cX3_sortByDark 17 = .ok (.ifCond .le 49, 3) := by decide +kernel
theorem dX3_sortByDark_20 : decode cX3_sortByDark 20 = .ok (.aload_n 0, 1) := by decide +kernel
theorem dX3_sortByDark_21 : decode cX3_sortByDark 21 = .ok (.getfield 32, 3) := by decide +kernel
theorem dX3_sortByDark_24 : decode cX3_sortByDark 24 = .ok (.aload_n 0, 1) := by decide +kernel
theorem dX3_sortByDark_25 : decode cX3_sortByDark 25 = .ok (.getfield 35, 3) := by decide +kernel
theorem dX3_sortByDark_28 : decode cX3_sortByDark 28 = .ok (.iload 5, 2) := by decide +kernel
theorem dX3_sortByDark_30 : decode cX3_sortByDark 30 = .ok (.iconst 1, 1) := by decide +kernel
theorem dX3_sortByDark_31 : decode cX3_sortByDark 31 = .ok (.isub, 1) := by decide +kernel
theorem dX3_sortByDark_32 : decode cX3_sortByDark 32 = .ok (.iaload, 1) := by decide +kernel
theorem dX3_sortByDark_33 : decode cX3_sortByDark 33 = .ok (.iaload, 1) := by decide +kernel
theorem dX3_sortByDark_34 : decode cX3_sortByDark 34 = .ok (.aload_n 0, 1) := by decide +kernel
theorem dX3_sortByDark_35 : decode cX3_sortByDark 35 = .ok (.getfield 32, 3) := by decide +kernel
theorem dX3_sortByDark_38 : decode cX3_sortByDark 38 = .ok (.iload 4, 2) := by decide +kernel
theorem dX3_sortByDark_40 : decode cX3_sortByDark 40 = .ok (.iaload, 1) := by decide +kernel
theorem dX3_sortByDark_41 : decode cX3_sortByDark 41 = .ok (.if_icmp .ge 25, 3) := by decide +kernel
theorem dX3_sortByDark_44 : decode cX3_sortByDark 44 = .ok (.aload_n 0, 1) := by decide +kernel
theorem dX3_sortByDark_45 : decode cX3_sortByDark 45 = .ok (.getfield 35, 3) := by decide +kernel
theorem dX3_sortByDark_48 : decode cX3_sortByDark 48 = .ok (.iload 5, 2) := by decide +kernel
theorem dX3_sortByDark_50 : decode cX3_sortByDark 50 = .ok (.aload_n 0, 1) := by decide +kernel
theorem dX3_sortByDark_51 : decode cX3_sortByDark 51 = .ok (.getfield 35, 3) := by decide +kernel
theorem dX3_sortByDark_54 : decode cX3_sortByDark 54 = .ok (.iload 5, 2) := by decide +kernel
theorem dX3_sortByDark_56 : decode cX3_sortByDark 56 = .ok (.iconst 1, 1) := by decide +kernel
theorem dX3_sortByDark_57 : decode cX3_sortByDark 57 = .ok (.isub, 1) := by decide +kernel
theorem dX3_sortByDark_58 : decode cX3_sortByDark 58 = .ok (.iaload, 1) := by decide +kernel
theorem dX3_sortByDark_59 : decode cX3_sortByDark 59 = .ok (.iastore, 1) := by decide +kernel
theorem dX3_sortByDark_60 : decode cX3_sortByDark 60 = .ok (.iinc 5 (-1), 3) := by decide +kernel
theorem dX3_sortByDark_63 : decode cX3_sortByDark 63 = .ok (.goto (-48), 3) := by decide +kernel
theorem dX3_sortByDark_66 : decode cX3_sortByDark 66 = .ok (.aload_n 0, 1) := by decide +kernel
theorem dX3_sortByDark_67 : decode cX3_sortByDark 67 = .ok (.getfield 35, 3) := by decide +kernel
theorem dX3_sortByDark_70 : decode cX3_sortByDark 70 = .ok (.iload 5, 2) := by decide +kernel
theorem dX3_sortByDark_72 : decode cX3_sortByDark 72 = .ok (.iload 4, 2) := by decide +kernel
theorem dX3_sortByDark_74 : decode cX3_sortByDark 74 = .ok (.iastore, 1) := by decide +kernel
theorem dX3_sortByDark_75 : decode cX3_sortByDark 75 = .ok (.iinc 3 1, 3) := by decide +kernel
theorem dX3_sortByDark_78 : decode cX3_sortByDark 78 = .ok (.goto (-76), 3) := by decide +kernel
theorem dX3_sortByDark_81 : decode cX3_sortByDark 81 = .ok (.return_, 1) := by decide +kernel
def mX3_sortByDark : MM := (yX3_sortByDark, cX3_sortByDark, 6, none, { frames := 0, cells := 0, slots := 0, locals := 0 })
def X3_sortByDark_L15 (u4_ : Int32) (k66 : Int32 → SS → Option SS) : Nat → Int32 → SS → Option SS :=
  lp (fun _ _ => none) fun rec v5_ σ_ =>
    if v5_ ≤ 0 then (
      k66 v5_ σ_
      ) else (
      grd (inb (v5_ - (1 : Int32)) 72) <|
      grd (inb (gI σ_ 52 (Int32.toNatClampNeg (v5_ - (1 : Int32)))) 72) <|
      grd (inb u4_ 72) <|
      if (gI σ_ 51 (Int32.toNatClampNeg u4_)) ≤ (gI σ_ 51 (Int32.toNatClampNeg (gI σ_ 52 (Int32.toNatClampNeg (v5_ - (1 : Int32)))))) then (
        k66 v5_ σ_
        ) else (
        grd (inb v5_ 72) <|
        vthen (sI σ_ 52 (Int32.toNatClampNeg v5_) (gI σ_ 52 (Int32.toNatClampNeg (v5_ - (1 : Int32))))) fun σ6 =>
        rec (v5_ + (-1 : Int32)) σ6
        )
      )

def X3_sortByDark_L2 (u1_ : Int32) (u2_ : Int32)  : Nat → Int32 → SS → Option SS :=
  lp (fun _ _ => none) fun rec v3_ σ_ =>
    if u2_ ≤ v3_ then (
      some σ_
      ) else (
      vthen (u1_ + v3_) fun v1 =>
      X3_sortByDark_L15 v1
      (fun v7 σ8 =>
        grd (inb v7 72) <|
        vthen (sI σ8 52 (Int32.toNatClampNeg v7) v1) fun σ10 =>
        rec (v3_ + (1 : Int32)) σ10
        )
      fuel v3_ σ_
      )

def fX3_sortByDark (σ : SS) (a1 : Int32) (a2 : Int32) : Option SS :=
  X3_sortByDark_L2 a1 a2
  fuel (0 : Int32) σ

set_option maxRecDepth 20000 in
theorem sX3_sortByDark_L15 {g : GG} {r : SS} {x1_ : Int32} {x2_ : Int32} {x3_ : Int32} {u4_ : Int32} {k66 : Int32 → SS → Option SS} 
    (hk66 : ∀ (y5 : Int32) (σ_ : SS), k66 y5 σ_ = some r → WT σ_ → RR g mX3_sortByDark (FinR g mX3_sortByDark none NF r) zF 66 [(0, .ref (ad g 31)), (1, .int x1_), (2, .int x2_), (3, .int x3_), (4, .int u4_), (5, .int y5)] [] σ_)
    (n : Nat) : ∀ (v5_ : Int32) (σ_ : SS), X3_sortByDark_L15 u4_ k66 n v5_ σ_ = some r → WT σ_ → RR g mX3_sortByDark (FinR g mX3_sortByDark none NF r) zF 15 [(0, .ref (ad g 31)), (1, .int x1_), (2, .int x2_), (3, .int x3_), (4, .int u4_), (5, .int v5_)] [] σ_ := by
  unfold X3_sortByDark_L15
  refine lp_ind (P := fun (rec : Int32 → SS → Option SS) => ∀ (v5_ : Int32) (σ_ : SS), rec v5_ σ_ = some r → WT σ_ → RR g mX3_sortByDark (FinR g mX3_sortByDark none NF r) zF 15 [(0, .ref (ad g 31)), (1, .int x1_), (2, .int x2_), (3, .int x3_), (4, .int u4_), (5, .int v5_)] [] σ_) ?_ ?_ n
  · intro v5_ σ_ hr; cases hr
  intro rec ih v5_ σ_ hr hw_
  refine r_iload (pc := 15) (j := 5) dX3_sortByDark_15 rfl ?_
  refine r_if_le (pc := 17) (tgt := 66) dX3_sortByDark_17 rfl (fun hc => ?_) (fun hc => ?_)
  · replace hr := ite_t hc hr
    exact r_pick (ls1 := [(0, .ref (ad g 31)), (1, .int x1_), (2, .int x2_), (3, .int x3_), (4, .int u4_), (5, .int v5_)]) [0, 1, 2, 3, 4, 5] rfl (hk66 v5_ σ_ hr hw_)
  replace hr := ite_f hc hr
  refine r_aload_n (pc := 20) (j := 0) dX3_sortByDark_20 rfl rfl ?_
  refine gf3_4 (pc := 21) tw_2_30 hw_ dX3_sortByDark_21 ?_
  refine r_aload_n (pc := 24) (j := 0) dX3_sortByDark_24 rfl rfl ?_
  refine gf3_5 (pc := 25) tw_2_32 hw_ dX3_sortByDark_25 ?_
  refine r_iload (pc := 28) (j := 5) dX3_sortByDark_28 rfl ?_
  refine r_iconst (pc := 30) (v := (1 : Int32)) dX3_sortByDark_30 rfl ?_
  refine r_isub (pc := 31) dX3_sortByDark_31 ?_
  obtain ⟨h2, hr⟩ := grd_inv hr
  refine x_iald (pc := 32) (k := (Int32.toNatClampNeg (v5_ - (1 : Int32)))) rfl h2 rfl dX3_sortByDark_32 ?_
  obtain ⟨h3, hr⟩ := grd_inv hr
  refine x_iald (pc := 33) (k := (Int32.toNatClampNeg (gI σ_ 52 (Int32.toNatClampNeg (v5_ - (1 : Int32)))))) rfl h3 rfl dX3_sortByDark_33 ?_
  refine r_aload_n (pc := 34) (j := 0) dX3_sortByDark_34 rfl rfl ?_
  refine gf3_4 (pc := 35) tw_2_30 hw_ dX3_sortByDark_35 ?_
  refine r_iload (pc := 38) (j := 4) dX3_sortByDark_38 rfl ?_
  obtain ⟨h4, hr⟩ := grd_inv hr
  refine x_iald (pc := 40) (k := (Int32.toNatClampNeg u4_)) rfl h4 rfl dX3_sortByDark_40 ?_
  refine r_icmp_ge (pc := 41) (tgt := 66) dX3_sortByDark_41 rfl (fun hc => ?_) (fun hc => ?_)
  · replace hr := ite_t hc hr
    exact r_pick (ls1 := [(0, .ref (ad g 31)), (1, .int x1_), (2, .int x2_), (3, .int x3_), (4, .int u4_), (5, .int v5_)]) [0, 1, 2, 3, 4, 5] rfl (hk66 v5_ σ_ hr hw_)
  replace hr := ite_f hc hr
  refine r_aload_n (pc := 44) (j := 0) dX3_sortByDark_44 rfl rfl ?_
  refine gf3_5 (pc := 45) tw_2_32 hw_ dX3_sortByDark_45 ?_
  refine r_iload (pc := 48) (j := 5) dX3_sortByDark_48 rfl ?_
  refine r_aload_n (pc := 50) (j := 0) dX3_sortByDark_50 rfl rfl ?_
  refine gf3_5 (pc := 51) tw_2_32 hw_ dX3_sortByDark_51 ?_
  refine r_iload (pc := 54) (j := 5) dX3_sortByDark_54 rfl ?_
  refine r_iconst (pc := 56) (v := (1 : Int32)) dX3_sortByDark_56 rfl ?_
  refine r_isub (pc := 57) dX3_sortByDark_57 ?_
  refine x_iald (pc := 58) (k := (Int32.toNatClampNeg (v5_ - (1 : Int32)))) rfl h2 rfl dX3_sortByDark_58 ?_
  obtain ⟨h5, hr⟩ := grd_inv hr
  refine x_iast (pc := 59) (j := (Int32.toNatClampNeg v5_)) rfl h5 rfl dX3_sortByDark_59 fun σ6 eσ6 => ?_
  replace hr := vthen_inv hr σ6 eσ6
  have hσ6 := wtI eσ6 hw_
  refine r_iinc (pc := 60) (j := 5) (v := (v5_ + (-1 : Int32))) (ls1 := [(5, .int (v5_ + (-1 : Int32))), (0, .ref (ad g 31)), (1, .int x1_), (2, .int x2_), (3, .int x3_), (4, .int u4_)]) dX3_sortByDark_60 rfl rfl (nle rfl) rfl ?_
  refine r_goto (pc := 63) (tgt := 15) dX3_sortByDark_63 rfl ?_
  exact r_pick (ls1 := [(0, .ref (ad g 31)), (1, .int x1_), (2, .int x2_), (3, .int x3_), (4, .int u4_), (5, .int (v5_ + (-1 : Int32)))]) [1, 2, 3, 4, 5, 0] rfl (ih (v5_ + (-1 : Int32)) σ6 hr hσ6)

set_option maxRecDepth 20000 in
theorem sX3_sortByDark_L2 {g : GG} {r : SS} {u1_ : Int32} {u2_ : Int32}  
    (n : Nat) : ∀ (v3_ : Int32) (σ_ : SS), X3_sortByDark_L2 u1_ u2_ n v3_ σ_ = some r → WT σ_ → RR g mX3_sortByDark (FinR g mX3_sortByDark none NF r) zF 2 [(0, .ref (ad g 31)), (1, .int u1_), (2, .int u2_), (3, .int v3_)] [] σ_ := by
  unfold X3_sortByDark_L2
  refine lp_ind (P := fun (rec : Int32 → SS → Option SS) => ∀ (v3_ : Int32) (σ_ : SS), rec v3_ σ_ = some r → WT σ_ → RR g mX3_sortByDark (FinR g mX3_sortByDark none NF r) zF 2 [(0, .ref (ad g 31)), (1, .int u1_), (2, .int u2_), (3, .int v3_)] [] σ_) ?_ ?_ n
  · intro v3_ σ_ hr; cases hr
  intro rec ih v3_ σ_ hr hw_
  refine r_iload_n (pc := 2) (j := 3) dX3_sortByDark_2 rfl rfl ?_
  refine r_iload_n (pc := 3) (j := 2) dX3_sortByDark_3 rfl rfl ?_
  refine r_icmp_ge (pc := 4) (tgt := 81) dX3_sortByDark_4 rfl (fun hc => ?_) (fun hc => ?_)
  · replace hr := ite_t hc hr
    exact l_ov hr (r_vret (pc := 81) rfl rfl ⟨Nat.le_refl _, Nat.le_refl _⟩ dX3_sortByDark_81)
  replace hr := ite_f hc hr
  refine r_iload_n (pc := 7) (j := 1) dX3_sortByDark_7 rfl rfl ?_
  refine r_iload_n (pc := 8) (j := 3) dX3_sortByDark_8 rfl rfl ?_
  refine r_iadd (pc := 9) dX3_sortByDark_9 ?_
  refine r_topi fun v1 ev1 => ?_
  replace hr := vthen_inv hr v1 ev1
  refine r_istore (pc := 10) (ls1 := [(4, .int v1), (0, .ref (ad g 31)), (1, .int u1_), (2, .int u2_), (3, .int v3_)]) dX3_sortByDark_10 (nle rfl) rfl ?_
  refine r_iload_n (pc := 12) (j := 4) dX3_sortByDark_12 rfl rfl ?_
  refine r_istore (pc := 13) (ls1 := [(5, .int v3_), (4, .int v1), (0, .ref (ad g 31)), (1, .int u1_), (2, .int u2_), (3, .int v3_)]) dX3_sortByDark_13 (nle rfl) rfl ?_
  refine r_pick (ls1 := [(0, .ref (ad g 31)), (1, .int u1_), (2, .int u2_), (3, .int v3_), (4, .int v1), (5, .int v3_)]) [2, 3, 4, 5, 1, 0] rfl ?_
  refine sX3_sortByDark_L15    (fun v7 σ8 hr hσ8 => ?_) fuel v3_ σ_ hr hw_
  refine r_aload_n (pc := 66) (j := 0) dX3_sortByDark_66 rfl rfl ?_
  refine gf3_5 (pc := 67) tw_2_32 hσ8 dX3_sortByDark_67 ?_
  refine r_iload (pc := 70) (j := 5) dX3_sortByDark_70 rfl ?_
  refine r_iload (pc := 72) (j := 4) dX3_sortByDark_72 rfl ?_
  obtain ⟨h9, hr⟩ := grd_inv hr
  refine x_iast (pc := 74) (j := (Int32.toNatClampNeg v7)) rfl h9 rfl dX3_sortByDark_74 fun σ10 eσ10 => ?_
  replace hr := vthen_inv hr σ10 eσ10
  have hσ10 := wtI eσ10 hσ8
  refine r_iinc (pc := 75) (j := 3) (v := (v3_ + (1 : Int32))) (ls1 := [(3, .int (v3_ + (1 : Int32))), (0, .ref (ad g 31)), (1, .int u1_), (2, .int u2_), (4, .int v1), (5, .int v7)]) dX3_sortByDark_75 rfl rfl (nle rfl) rfl ?_
  refine r_goto (pc := 78) (tgt := 2) dX3_sortByDark_78 rfl ?_
  exact r_pick (ls1 := [(0, .ref (ad g 31)), (1, .int u1_), (2, .int u2_), (3, .int (v3_ + (1 : Int32)))]) [1, 2, 3, 0] rfl (ih (v3_ + (1 : Int32)) σ10 hr hσ10)

set_option maxRecDepth 20000 in
theorem sX3_sortByDark {g : GG} {σ : SS} {a1 : Int32} {a2 : Int32} {r : SS} (hr : fX3_sortByDark σ a1 a2 = some r)  : Ct g mX3_sortByDark [.ref (ad g 31), .int a1, .int a2] NF σ none NF r := by
  refine Ct.of (by decide +kernel) (nle rfl) fun hw0 => ?_
  have hw := hw0 rfl
  unfold fX3_sortByDark at hr
  change RR g mX3_sortByDark (FinR g mX3_sortByDark none NF r) zF 0 [(0, .ref (ad g 31)), (1, .int a1), (2, .int a2)] [] σ
  refine r_iconst (pc := 0) (v := (0 : Int32)) dX3_sortByDark_0 rfl ?_
  refine r_istore_n (pc := 1) (ls1 := [(3, .int (0 : Int32)), (0, .ref (ad g 31)), (1, .int a1), (2, .int a2)]) dX3_sortByDark_1 rfl (nle rfl) rfl ?_
  refine r_pick (ls1 := [(0, .ref (ad g 31)), (1, .int a1), (2, .int a2), (3, .int (0 : Int32))]) [1, 2, 3, 0] rfl ?_
  refine sX3_sortByDark_L2     fuel (0 : Int32) σ hr hw

theorem kX3_sortByDark {g : GG} {σ : SS} {a1 : Int32} {a2 : Int32} {σ2 : SS} {M : MM} {F : State → Array Value → List Frame → State → Prop} {pc index : Nat} {ls : List (Nat × Value)} {rest : List Value} (hf : fX3_sortByDark σ a1 a2 = some σ2)  (hl : Cond.methodLink M.1.cls index yX3_sortByDark ∈ lw_gt) (hR : mX3_sortByDark.2.2.2.2.frames + 1 ≤ M.2.2.2.2.frames ∧ 8 + (mX3_sortByDark.2.2.1 + 11) + mX3_sortByDark.2.2.2.2.locals ≤ M.2.2.2.2.locals) (hrest : (rest.map fun v => v.category).sum ≤ 8) (hd : decode M.2.1 pc = .ok (.invokevirtual index, 3)) (k : WT σ2 → RR g M F zF (pc + 3) ls rest σ2) : RR g M F zF pc ls (.int a2 :: .int a1 :: .ref (ad g 31) :: rest) σ :=
  r_callV (z := zF) (N := mX3_sortByDark) (nn := 2) (o1 := none) (sX3_sortByDark hf ) (rfl : shp 31 = (3, 0)) (by decide) (shp_le (rfl : shp 31 = (3, 0)) (nle rfl)) (ci := 3) rfl rfl tw_4_147 tw_1_5 hl tw_4_146 tp_29 ⟨by decide, by decide, rfl⟩ hR rfl hrest hd ⟨Nat.zero_le _, Nat.zero_le _⟩ rfl (fun h => k (h rfl))

theorem dX3_judgeQuestion_0 : decode cX3_judgeQuestion 0 = .ok (.aload_n 1, 1) := by decide +kernel
theorem dX3_judgeQuestion_1 : decode cX3_judgeQuestion 1 = .ok (.getfield 151, 3) := by decide +kernel
theorem dX3_judgeQuestion_4 : decode cX3_judgeQuestion 4 = .ok (.iload_n 2, 1) := by decide +kernel
theorem dX3_judgeQuestion_5 : decode cX3_judgeQuestion 5 = .ok (.iaload, 1) := by decide +kernel
theorem dX3_judgeQuestion_6 : decode cX3_judgeQuestion 6 = .ok (.istore_n 3, 1) := by decide +kernel
theorem dX3_judgeQuestion_7 : decode cX3_judgeQuestion 7 = .ok (.aload_n 1, 1) := by decide +kernel
theorem dX3_judgeQuestion_8 : decode cX3_judgeQuestion 8 = .ok (.getfield 154, 3) := by decide +kernel
theorem dX3_judgeQuestion_11 : decode cX3_judgeQuestion 11 = .ok (.iload_n 2, 1) := by decide +kernel
theorem dX3_judgeQuestion_12 : decode cX3_judgeQuestion 12 = .ok (.iaload, 1) := by decide +kernel
theorem dX3_judgeQuestion_13 : decode cX3_judgeQuestion 13 = .ok (.istore 4, 2) := by decide +kernel
theorem dX3_judgeQuestion_15 : decode cX3_judgeQuestion 15 = .ok (.aload_n 0, 1) := by decide +kernel
theorem dX3_judgeQuestion_16 : decode cX3_judgeQuestion 16 = .ok (.iload_n 3, 1) := by decide +kernel
theorem dX3_judgeQuestion_17 : decode cX3_judgeQuestion 17 = .ok (.iload 4, 2) := by decide +kernel
theorem dX3_judgeQuestion_19 : decode cX3_judgeQuestion 19 = .ok (.invokevirtual 157, 3) := by decide +kernel
theorem dX3_judgeQuestion_22 : decode cX3_judgeQuestion 22 = .ok (.iconst 0, 1) := by decide +kernel
theorem dX3_judgeQuestion_23 : decode cX3_judgeQuestion 23 = .ok (.istore 5, 2) := by decide +kernel
theorem dX3_judgeQuestion_25 : decode cX3_judgeQuestion 25 = .ok (.iconst (-1), 1) := by decide +kernel
theorem dX3_judgeQuestion_26 : decode cX3_judgeQuestion 26 = .ok (.istore 6, 2) := by decide +kernel
theorem dX3_judgeQuestion_28 : decode cX3_judgeQuestion 28 = .ok (.iconst 0, 1) := by decide +kernel
theorem dX3_judgeQuestion_29 : decode cX3_judgeQuestion 29 = .ok (.istore 7, 2) := by decide +kernel
theorem dX3_judgeQuestion_31 : decode cX3_judgeQuestion 31 = .ok (.iload 7, 2) := by decide +kernel
theorem dX3_judgeQuestion_33 : decode cX3_judgeQuestion 33 = .ok (.iload 4, 2) := by decide +kernel
theorem dX3_judgeQuestion_35 : decode cX3_judgeQuestion 35 = .ok (.if_icmp .ge 84, 3) := by decide +kernel
theorem dX3_judgeQuestion_38 : decode cX3_judgeQuestion 38 = .ok (.iload 7, 2) := by decide +kernel
theorem dX3_judgeQuestion_40 : decode cX3_judgeQuestion 40 = .ok (.iconst 1, 1) := by decide +kernel
theorem dX3_judgeQuestion_41 : decode cX3_judgeQuestion 41 = .ok (.iadd, 1) := by decide +kernel
theorem dX3_judgeQuestion_42 : decode cX3_judgeQuestion 42 = .ok (.iload 4, 2) := by decide +kernel
theorem dX3_judgeQuestion_44 : decode cX3_judgeQuestion 44 = .ok (.if_icmp .ge 20, 3) := by decide +kernel
theorem dX3_judgeQuestion_47 : decode cX3_judgeQuestion 47 = .ok (.aload_n 0, 1) := by decide +kernel
theorem dX3_judgeQuestion_48 : decode cX3_judgeQuestion 48 = .ok (.getfield 32, 3) := by decide +kernel
theorem dX3_judgeQuestion_51 : decode cX3_judgeQuestion 51 = .ok (.aload_n 0, 1) := by decide +kernel
theorem dX3_judgeQuestion_52 : decode cX3_judgeQuestion 52 = .ok (.getfield 35, 3) := by decide +kernel
theorem dX3_judgeQuestion_55 : decode cX3_judgeQuestion 55 = .ok (.iload 7, 2) := by decide +kernel
theorem dX3_judgeQuestion_57 : decode cX3_judgeQuestion 57 = .ok (.iconst 1, 1) := by decide +kernel
theorem dX3_judgeQuestion_58 : decode cX3_judgeQuestion 58 = .ok (.iadd, 1) := by decide +kernel
theorem dX3_judgeQuestion_59 : decode cX3_judgeQuestion 59 = .ok (.iaload, 1) := by decide +kernel
theorem dX3_judgeQuestion_60 : decode cX3_judgeQuestion 60 = .ok (.iaload, 1) := by decide +kernel
theorem dX3_judgeQuestion_61 : decode cX3_judgeQuestion 61 = .ok (.goto 7, 3) := by decide +kernel
theorem dX3_judgeQuestion_64 : decode cX3_judgeQuestion 64 = .ok (.aload_n 0, 1) := by decide +kernel
theorem dX3_judgeQuestion_65 : decode cX3_judgeQuestion 65 = .ok (.getfield 106, 3) := by decide +kernel
theorem dX3_judgeQuestion_68 : decode cX3_judgeQuestion 68 = .ok (.istore 8, 2) := by decide +kernel
theorem dX3_judgeQuestion_70 : decode cX3_judgeQuestion 70 = .ok (.aload_n 0, 1) := by decide +kernel
theorem dX3_judgeQuestion_71 : decode cX3_judgeQuestion 71 = .ok (.getfield 32, 3) := by decide +kernel
theorem dX3_judgeQuestion_74 : decode cX3_judgeQuestion 74 = .ok (.aload_n 0, 1) := by decide +kernel
theorem dX3_judgeQuestion_75 : decode cX3_judgeQuestion 75 = .ok (.getfield 35, 3) := by decide +kernel
theorem dX3_judgeQuestion_78 : decode cX3_judgeQuestion 78 = .ok (.iload 7, 2) := by decide +kernel
theorem dX3_judgeQuestion_80 : decode cX3_judgeQuestion 80 = .ok (.iaload, 1) := by decide +kernel
theorem dX3_judgeQuestion_81 : decode cX3_judgeQuestion 81 = .ok (.iaload, 1) := by decide +kernel
theorem dX3_judgeQuestion_82 : decode cX3_judgeQuestion 82 = .ok (.iload 8, 2) := by decide +kernel
theorem dX3_judgeQuestion_84 : decode cX3_judgeQuestion 84 = .ok (.isub, 1) := by decide +kernel
theorem dX3_judgeQuestion_85 : decode cX3_judgeQuestion 85 = .ok (.iload 6, 2) := by decide +kernel
theorem dX3_judgeQuestion_87 : decode cX3_judgeQuestion 87 = .ok (.if_icmp .le 26, 3) := by decide +kernel
theorem dX3_judgeQuestion_90 : decode cX3_judgeQuestion 90 = .ok (.aload_n 0, 1) := by decide +kernel
theorem dX3_judgeQuestion_91 : decode cX3_judgeQuestion 91 = .ok (.getfield 32, 3) := by decide +kernel
theorem dX3_judgeQuestion_94 : decode cX3_judgeQuestion 94 = .ok (.aload_n 0, 1) := by decide +kernel
theorem dX3_judgeQuestion_95 : decode cX3_judgeQuestion 95 = .ok (.getfield 35, 3) := by decide +kernel
theorem dX3_judgeQuestion_98 : decode cX3_judgeQuestion 98 = .ok (.iload 7, 2) := by decide +kernel
theorem dX3_judgeQuestion_100 : decode cX3_judgeQuestion 100 = .ok (.iaload, 1) := by decide +kernel
theorem dX3_judgeQuestion_101 : decode cX3_judgeQuestion 101 = .ok (.iaload, 1) := by decide +kernel
theorem dX3_judgeQuestion_102 : decode cX3_judgeQuestion 102 = .ok (.iload 8, 2) := by decide +kernel
theorem dX3_judgeQuestion_104 : decode cX3_judgeQuestion 104 = .ok (.isub, 1) := by decide +kernel
theorem dX3_judgeQuestion_105 : decode cX3_judgeQuestion 105 = .ok (.istore 6, 2) := by decide +kernel
theorem dX3_judgeQuestion_107 : decode cX3_judgeQuestion 107 = .ok (.iload 7, 2) := by decide +kernel
theorem dX3_judgeQuestion_109 : decode cX3_judgeQuestion 109 = .ok (.iconst 1, 1) := by decide +kernel
theorem dX3_judgeQuestion_110 : decode cX3_judgeQuestion 110 = .ok (.iadd, 1) := by decide +kernel
theorem dX3_judgeQuestion_111 : decode cX3_judgeQuestion 111 = .ok (.istore 5, 2) := by decide +kernel
theorem dX3_judgeQuestion_113 : decode cX3_judgeQuestion 113 = .ok (.iinc 7 1, 3) := by decide +kernel
theorem dX3_judgeQuestion_116 : decode cX3_judgeQuestion 116 = .ok (.goto (-85), 3) := by decide +kernel
theorem dX3_judgeQuestion_119 : decode cX3_judgeQuestion 119 = .ok (.aload_n 0, 1) := by decide +kernel
theorem dX3_judgeQuestion_120 : decode cX3_judgeQuestion 120 = .ok (.getfield 47, 3) := by decide +kernel
theorem dX3_judgeQuestion_123 : decode cX3_judgeQuestion 123 = .ok (.iload_n 2, 1) := by decide +kernel
theorem dX3_judgeQuestion_124 : decode cX3_judgeQuestion 124 = .ok (.iload 6, 2) := by decide +kernel
theorem dX3_judgeQuestion_126 : decode cX3_judgeQuestion 126 = .ok (.iastore, 1) := by decide +kernel
theorem dX3_judgeQuestion_127 : decode cX3_judgeQuestion 127 = .ok (.aload_n 0, 1) := by decide +kernel
theorem dX3_judgeQuestion_128 : decode cX3_judgeQuestion 128 = .ok (.getfield 41, 3) := by decide +kernel
theorem dX3_judgeQuestion_131 : decode cX3_judgeQuestion 131 = .ok (.iload_n 2, 1) := by decide +kernel
theorem dX3_judgeQuestion_132 : decode cX3_judgeQuestion 132 = .ok (.iconst 0, 1) := by decide +kernel
theorem dX3_judgeQuestion_133 : decode cX3_judgeQuestion 133 = .ok (.iastore, 1) := by decide +kernel
theorem dX3_judgeQuestion_134 : decode cX3_judgeQuestion 134 = .ok (.iload 6, 2) := by decide +kernel
theorem dX3_judgeQuestion_136 : decode cX3_judgeQuestion 136 = .ok (.aload_n 0, 1) := by decide +kernel
theorem dX3_judgeQuestion_137 : decode cX3_judgeQuestion 137 = .ok (.getfield 9, 3) := by decide +kernel
theorem dX3_judgeQuestion_140 : decode cX3_judgeQuestion 140 = .ok (.iconst 3, 1) := by decide +kernel
theorem dX3_judgeQuestion_141 : decode cX3_judgeQuestion 141 = .ok (.iaload, 1) := by decide +kernel
theorem dX3_judgeQuestion_142 : decode cX3_judgeQuestion 142 = .ok (.if_icmp .ge 30, 3) := by decide +kernel
theorem dX3_judgeQuestion_145 : decode cX3_judgeQuestion 145 = .ok (.iconst 0, 1) := by decide +kernel
theorem dX3_judgeQuestion_146 : decode cX3_judgeQuestion 146 = .ok (.istore 5, 2) := by decide +kernel
theorem dX3_judgeQuestion_148 : decode cX3_judgeQuestion 148 = .ok (.aload_n 0, 1) := by decide +kernel
theorem dX3_judgeQuestion_149 : decode cX3_judgeQuestion 149 = .ok (.getfield 41, 3) := by decide +kernel
theorem dX3_judgeQuestion_152 : decode cX3_judgeQuestion 152 = .ok (.iload_n 2, 1) := by decide +kernel
theorem dX3_judgeQuestion_153 : decode cX3_judgeQuestion 153 = .ok (.iconst 2, 1) := by decide +kernel
theorem dX3_judgeQuestion_154 : decode cX3_judgeQuestion 154 = .ok (.iload 6, 2) := by decide +kernel
theorem dX3_judgeQuestion_156 : decode cX3_judgeQuestion 156 = .ok (.imul, 1) := by decide +kernel
theorem dX3_judgeQuestion_157 : decode cX3_judgeQuestion 157 = .ok (.aload_n 0, 1) := by decide +kernel
theorem dX3_judgeQuestion_158 : decode cX3_judgeQuestion 158 = .ok (.getfield 9, 3) := by decide +kernel
theorem dX3_judgeQuestion_161 : decode cX3_judgeQuestion 161 = .ok (.iconst 3, 1) := by decide +kernel
theorem dX3_judgeQuestion_162 : decode cX3_judgeQuestion 162 = .ok (.iaload, 1) := by decide +kernel
theorem dX3_judgeQuestion_163 : decode cX3_judgeQuestion 163 = .ok (.if_icmp .lt 7, 3) := by decide +kernel
theorem dX3_judgeQuestion_166 : decode cX3_judgeQuestion 166 = .ok (.iconst 1, 1) := by decide +kernel
theorem dX3_judgeQuestion_167 : decode cX3_judgeQuestion 167 = .ok (.goto 4, 3) := by decide +kernel
theorem dX3_judgeQuestion_170 : decode cX3_judgeQuestion 170 = .ok (.iconst 0, 1) := by decide +kernel
theorem dX3_judgeQuestion_171 : decode cX3_judgeQuestion 171 = .ok (.iastore, 1) := by decide +kernel
theorem dX3_judgeQuestion_172 : decode cX3_judgeQuestion 172 = .ok (.iload 5, 2) := by decide +kernel
theorem dX3_judgeQuestion_174 : decode cX3_judgeQuestion 174 = .ok (.istore 7, 2) := by decide +kernel
theorem dX3_judgeQuestion_176 : decode cX3_judgeQuestion 176 = .ok (.aload_n 1, 1) := by decide +kernel
theorem dX3_judgeQuestion_177 : decode cX3_judgeQuestion 177 = .ok (.getfield 160, 3) := by decide +kernel
theorem dX3_judgeQuestion_180 : decode cX3_judgeQuestion 180 = .ok (.iload_n 2, 1) := by decide +kernel
theorem dX3_judgeQuestion_181 : decode cX3_judgeQuestion 181 = .ok (.baload, 1) := by decide +kernel
theorem dX3_judgeQuestion_182 : decode cX3_judgeQuestion 182 = .ok (.ifCond .ne 54, 3) := by decide +kernel
theorem dX3_judgeQuestion_185 : decode cX3_judgeQuestion 185 = .ok (.iload 5, 2) := by decide +kernel
theorem dX3_judgeQuestion_187 : decode cX3_judgeQuestion 187 = .ok (.iconst 1, 1) := by decide +kernel
theorem dX3_judgeQuestion_188 : decode cX3_judgeQuestion 188 = .ok (.if_icmp .le 48, 3) := by decide +kernel
theorem dX3_judgeQuestion_191 : decode cX3_judgeQuestion 191 = .ok (.aload_n 0, 1) := by decide +kernel
theorem dX3_judgeQuestion_192 : decode cX3_judgeQuestion 192 = .ok (.getfield 32, 3) := by decide +kernel
theorem dX3_judgeQuestion_195 : decode cX3_judgeQuestion 195 = .ok (.aload_n 0, 1) := by decide +kernel
theorem dX3_judgeQuestion_196 : decode cX3_judgeQuestion 196 = .ok (.getfield 35, 3) := by decide +kernel
theorem dX3_judgeQuestion_199 : decode cX3_judgeQuestion 199 = .ok (.iconst 0, 1) := by decide +kernel
theorem dX3_judgeQuestion_200 : decode cX3_judgeQuestion 200 = .ok (.iaload, 1) := by decide +kernel
theorem dX3_judgeQuestion_201 : decode cX3_judgeQuestion 201 = .ok (.iaload, 1) := by decide +kernel
theorem dX3_judgeQuestion_202 : decode cX3_judgeQuestion 202 = .ok (.aload_n 0, 1) := by decide +kernel
theorem dX3_judgeQuestion_203 : decode cX3_judgeQuestion 203 = .ok (.getfield 32, 3) := by decide +kernel
theorem dX3_judgeQuestion_206 : decode cX3_judgeQuestion 206 = .ok (.aload_n 0, 1) := by decide +kernel
theorem dX3_judgeQuestion_207 : decode cX3_judgeQuestion 207 = .ok (.getfield 35, 3) := by decide +kernel
theorem dX3_judgeQuestion_210 : decode cX3_judgeQuestion 210 = .ok (.iconst 1, 1) := by decide +kernel
theorem dX3_judgeQuestion_211 : decode cX3_judgeQuestion 211 = .ok (.iaload, 1) := by decide +kernel
theorem dX3_judgeQuestion_212 : decode cX3_judgeQuestion 212 = .ok (.iaload, 1) := by decide +kernel
theorem dX3_judgeQuestion_213 : decode cX3_judgeQuestion 213 = .ok (.isub, 1) := by decide +kernel
theorem dX3_judgeQuestion_214 : decode cX3_judgeQuestion 214 = .ok (.aload_n 0, 1) := by decide +kernel
theorem dX3_judgeQuestion_215 : decode cX3_judgeQuestion 215 = .ok (.getfield 9, 3) := by decide +kernel
theorem dX3_judgeQuestion_218 : decode cX3_judgeQuestion 218 = .ok (.iconst 4, 1) := by decide +kernel
theorem dX3_judgeQuestion_219 : decode cX3_judgeQuestion 219 = .ok (.iaload, 1) := by decide +kernel
theorem dX3_judgeQuestion_220 : decode cX3_judgeQuestion 220 = .ok (.if_icmp .lt 9, 3) := by decide +kernel
theorem dX3_judgeQuestion_223 : decode cX3_judgeQuestion 223 = .ok (.iconst 1, 1) := by decide +kernel
theorem dX3_judgeQuestion_224 : decode cX3_judgeQuestion 224 = .ok (.istore 7, 2) := by decide +kernel
theorem dX3_judgeQuestion_226 : decode cX3_judgeQuestion 226 = .ok (.goto 10, 3) := by decide +kernel
theorem dX3_judgeQuestion_229 : decode cX3_judgeQuestion 229 = .ok (.aload_n 0, 1) := by decide +kernel
theorem dX3_judgeQuestion_230 : decode cX3_judgeQuestion 230 = .ok (.getfield 41, 3) := by decide +kernel
theorem dX3_judgeQuestion_233 : decode cX3_judgeQuestion 233 = .ok (.iload_n 2, 1) := by decide +kernel
theorem dX3_judgeQuestion_234 : decode cX3_judgeQuestion 234 = .ok (.iconst 2, 1) := by decide +kernel
theorem dX3_judgeQuestion_235 : decode cX3_judgeQuestion 235 = .ok (.iastore, 1) := by decide +kernel
theorem dX3_judgeQuestion_236 : decode cX3_judgeQuestion 236 = .ok (.aload_n 0, 1) := by decide +kernel
theorem dX3_judgeQuestion_237 : decode cX3_judgeQuestion 237 = .ok (.getfield 38, 3) := by decide +kernel
theorem dX3_judgeQuestion_240 : decode cX3_judgeQuestion 240 = .ok (.iload_n 2, 1) := by decide +kernel
theorem dX3_judgeQuestion_241 : decode cX3_judgeQuestion 241 = .ok (.iconst 0, 1) := by decide +kernel
theorem dX3_judgeQuestion_242 : decode cX3_judgeQuestion 242 = .ok (.iastore, 1) := by decide +kernel
theorem dX3_judgeQuestion_243 : decode cX3_judgeQuestion 243 = .ok (.aload_n 0, 1) := by decide +kernel
theorem dX3_judgeQuestion_244 : decode cX3_judgeQuestion 244 = .ok (.getfield 44, 3) := by decide +kernel
theorem dX3_judgeQuestion_247 : decode cX3_judgeQuestion 247 = .ok (.iload_n 2, 1) := by decide +kernel
theorem dX3_judgeQuestion_248 : decode cX3_judgeQuestion 248 = .ok (.iconst 0, 1) := by decide +kernel
theorem dX3_judgeQuestion_249 : decode cX3_judgeQuestion 249 = .ok (.iastore, 1) := by decide +kernel
theorem dX3_judgeQuestion_250 : decode cX3_judgeQuestion 250 = .ok (.iconst 0, 1) := by decide +kernel
theorem dX3_judgeQuestion_251 : decode cX3_judgeQuestion 251 = .ok (.istore 8, 2) := by decide +kernel
theorem dX3_judgeQuestion_253 : decode cX3_judgeQuestion 253 = .ok (.iload 8, 2) := by decide +kernel
theorem dX3_judgeQuestion_255 : decode cX3_judgeQuestion 255 = .ok (.iload 4, 2) := by decide +kernel
theorem dX3_judgeQuestion_257 : decode cX3_judgeQuestion 257 = .ok (.if_icmp .ge 87, 3) := by decide +kernel
theorem dX3_judgeQuestion_260 : decode cX3_judgeQuestion 260 = .ok (.iconst 1, 1) := by decide +kernel
theorem dX3_judgeQuestion_261 : decode cX3_judgeQuestion 261 = .ok (.aload_n 0, 1) := by decide +kernel
theorem dX3_judgeQuestion_262 : decode cX3_judgeQuestion 262 = .ok (.getfield 35, 3) := by decide +kernel
theorem dX3_judgeQuestion_265 : decode cX3_judgeQuestion 265 = .ok (.iload 8, 2) := by decide +kernel
theorem dX3_judgeQuestion_267 : decode cX3_judgeQuestion 267 = .ok (.iaload, 1) := by decide +kernel
theorem dX3_judgeQuestion_268 : decode cX3_judgeQuestion 268 = .ok (.iload_n 3, 1) := by decide +kernel
theorem dX3_judgeQuestion_269 : decode cX3_judgeQuestion 269 = .ok (.isub, 1) := by decide +kernel
theorem dX3_judgeQuestion_270 : decode cX3_judgeQuestion 270 = .ok (.ishl, 1) := by decide +kernel
theorem dX3_judgeQuestion_271 : decode cX3_judgeQuestion 271 = .ok (.istore 9, 2) := by decide +kernel
theorem dX3_judgeQuestion_273 : decode cX3_judgeQuestion 273 = .ok (.iload 8, 2) := by decide +kernel
theorem dX3_judgeQuestion_275 : decode cX3_judgeQuestion 275 = .ok (.iload 7, 2) := by decide +kernel
theorem dX3_judgeQuestion_277 : decode cX3_judgeQuestion 277 = .ok (.if_icmp .ge 17, 3) := by decide +kernel
theorem dX3_judgeQuestion_280 : decode cX3_judgeQuestion 280 = .ok (.aload_n 0, 1) := by decide +kernel
theorem dX3_judgeQuestion_281 : decode cX3_judgeQuestion 281 = .ok (.getfield 38, 3) := by decide +kernel
theorem dX3_judgeQuestion_284 : decode cX3_judgeQuestion 284 = .ok (.iload_n 2, 1) := by decide +kernel
theorem dX3_judgeQuestion_285 : decode cX3_judgeQuestion 285 = .ok (.dup2, 1) := by decide +kernel
theorem dX3_judgeQuestion_286 : decode cX3_judgeQuestion 286 = .ok (.iaload, 1) := by decide +kernel
theorem dX3_judgeQuestion_287 : decode cX3_judgeQuestion 287 = .ok (.iload 9, 2) := by decide +kernel
theorem dX3_judgeQuestion_289 : decode cX3_judgeQuestion 289 = .ok (.ior, 1) := by decide +kernel
theorem dX3_judgeQuestion_290 : decode cX3_judgeQuestion 290 = .ok (.iastore, 1) := by decide +kernel
theorem dX3_judgeQuestion_291 : decode cX3_judgeQuestion 291 = .ok (.goto 47, 3) := by decide +kernel
theorem dX3_judgeQuestion_294 : decode cX3_judgeQuestion 294 = .ok (.iload 8, 2) := by decide +kernel
theorem dX3_judgeQuestion_296 : decode cX3_judgeQuestion 296 = .ok (.iload 5, 2) := by decide +kernel
theorem dX3_judgeQuestion_298 : decode cX3_judgeQuestion 298 = .ok (.if_icmp .lt 29, 3) := by decide +kernel
theorem dX3_judgeQuestion_301 : decode cX3_judgeQuestion 301 = .ok (.aload_n 0, 1) := by decide +kernel
theorem dX3_judgeQuestion_302 : decode cX3_judgeQuestion 302 = .ok (.getfield 32, 3) := by decide +kernel
theorem dX3_judgeQuestion_305 : decode cX3_judgeQuestion 305 = .ok (.aload_n 0, 1) := by decide +kernel
theorem dX3_judgeQuestion_306 : decode cX3_judgeQuestion 306 = .ok (.getfield 35, 3) := by decide +kernel
theorem dX3_judgeQuestion_309 : decode cX3_judgeQuestion 309 = .ok (.iload 8, 2) := by decide +kernel
theorem dX3_judgeQuestion_311 : decode cX3_judgeQuestion 311 = .ok (.iaload, 1) := by decide +kernel
theorem dX3_judgeQuestion_312 : decode cX3_judgeQuestion 312 = .ok (.iaload, 1) := by decide +kernel
theorem dX3_judgeQuestion_313 : decode cX3_judgeQuestion 313 = .ok (.aload_n 0, 1) := by decide +kernel
theorem dX3_judgeQuestion_314 : decode cX3_judgeQuestion 314 = .ok (.getfield 106, 3) := by decide +kernel
theorem dX3_judgeQuestion_317 : decode cX3_judgeQuestion 317 = .ok (.isub, 1) := by decide +kernel
theorem dX3_judgeQuestion_318 : decode cX3_judgeQuestion 318 = .ok (.aload_n 0, 1) := by decide +kernel
theorem dX3_judgeQuestion_319 : decode cX3_judgeQuestion 319 = .ok (.getfield 9, 3) := by decide +kernel
theorem dX3_judgeQuestion_322 : decode cX3_judgeQuestion 322 = .ok (.iconst 5, 1) := by decide +kernel
theorem dX3_judgeQuestion_323 : decode cX3_judgeQuestion 323 = .ok (.iaload, 1) := by decide +kernel
theorem dX3_judgeQuestion_324 : decode cX3_judgeQuestion 324 = .ok (.if_icmp .lt 14, 3) := by decide +kernel
theorem dX3_judgeQuestion_327 : decode cX3_judgeQuestion 327 = .ok (.aload_n 0, 1) := by decide +kernel
theorem dX3_judgeQuestion_328 : decode cX3_judgeQuestion 328 = .ok (.getfield 44, 3) := by decide +kernel
theorem dX3_judgeQuestion_331 : decode cX3_judgeQuestion 331 = .ok (.iload_n 2, 1) := by decide +kernel
theorem dX3_judgeQuestion_332 : decode cX3_judgeQuestion 332 = .ok (.dup2, 1) := by decide +kernel
theorem dX3_judgeQuestion_333 : decode cX3_judgeQuestion 333 = .ok (.iaload, 1) := by decide +kernel
theorem dX3_judgeQuestion_334 : decode cX3_judgeQuestion 334 = .ok (.iload 9, 2) := by decide +kernel
theorem dX3_judgeQuestion_336 : decode cX3_judgeQuestion 336 = .ok (.ior, 1) := by decide +kernel
theorem dX3_judgeQuestion_337 : decode cX3_judgeQuestion 337 = .ok (.iastore, 1) := by decide +kernel
theorem dX3_judgeQuestion_338 : decode cX3_judgeQuestion 338 = .ok (.iinc 8 1, 3) := by decide +kernel
theorem dX3_judgeQuestion_341 : decode cX3_judgeQuestion 341 = .ok (.goto (-88), 3) := by decide +kernel
theorem dX3_judgeQuestion_344 : decode cX3_judgeQuestion 344 = .ok (.return_, 1) := by decide +kernel
def mX3_judgeQuestion : MM := (yX3_judgeQuestion, cX3_judgeQuestion, 10, none, { frames := 1, cells := 0, slots := 0, locals := 25 })
def X3_judgeQuestion_L31 (σ_ : SS) (u4_ : Int32) (k119 : Int32 → Int32 → Option SS) : Nat → Int32 → Int32 → Int32 → Option SS :=
  lp (fun _ _ _ => none) fun rec v5_ v6_ v7_ =>
    if u4_ ≤ v7_ then (
      k119 v5_ v6_
      ) else (
      vthen (fun (s5 : Int32) =>
        grd (inb v7_ 72) <|
        grd (inb (gI σ_ 52 (Int32.toNatClampNeg v7_)) 72) <|
        if ((gI σ_ 51 (Int32.toNatClampNeg (gI σ_ 52 (Int32.toNatClampNeg v7_)))) - s5) ≤ v6_ then (
          rec v5_ v6_ (v7_ + (1 : Int32))
          ) else (
          vthen ((gI σ_ 51 (Int32.toNatClampNeg (gI σ_ 52 (Int32.toNatClampNeg v7_)))) - s5) fun v8 =>
          vthen (v7_ + (1 : Int32)) fun v9 =>
          rec v9 v8 (v7_ + (1 : Int32))
          )
        ) fun j68 =>
      if u4_ ≤ (v7_ + (1 : Int32)) then (
        j68 (gI σ_ 31 6)
        ) else (
        grd (inb (v7_ + (1 : Int32)) 72) <|
        grd (inb (gI σ_ 52 (Int32.toNatClampNeg (v7_ + (1 : Int32)))) 72) <|
        j68 (gI σ_ 51 (Int32.toNatClampNeg (gI σ_ 52 (Int32.toNatClampNeg (v7_ + (1 : Int32))))))
        )
      )

def X3_judgeQuestion_L253 (u2_ : Int32) (u3_ : Int32) (u4_ : Int32) (u5_ : Int32) (u7_ : Int32)  : Nat → Int32 → SS → Option SS :=
  lp (fun _ _ => none) fun rec v8_ σ_ =>
    if u4_ ≤ v8_ then (
      some σ_
      ) else (
      grd (inb v8_ 72) <|
      vthen ((1 : Int32) <<< (((gI σ_ 52 (Int32.toNatClampNeg v8_)) - u3_) &&& 31)) fun v23 =>
      if u7_ ≤ v8_ then (
        vthen (fun (_u : Unit) =>
          grd (inb u2_ 12) <|
          vthen (sI σ_ 55 (Int32.toNatClampNeg u2_) ((gI σ_ 55 (Int32.toNatClampNeg u2_)) ||| v23)) fun σ25 =>
          rec (v8_ + (1 : Int32)) σ25
          ) fun j327 =>
        if v8_ < u5_ then (
          j327 ()
          ) else (
          grd (inb (gI σ_ 52 (Int32.toNatClampNeg v8_)) 72) <|
          if ((gI σ_ 51 (Int32.toNatClampNeg (gI σ_ 52 (Int32.toNatClampNeg v8_)))) - (gI σ_ 31 6)) < (gI σ_ 32 5) then (
            rec (v8_ + (1 : Int32)) σ_
            ) else (
            j327 ()
            )
          )
        ) else (
        grd (inb u2_ 12) <|
        vthen (sI σ_ 53 (Int32.toNatClampNeg u2_) ((gI σ_ 53 (Int32.toNatClampNeg u2_)) ||| v23)) fun σ28 =>
        rec (v8_ + (1 : Int32)) σ28
        )
      )

def fX3_judgeQuestion (σ : SS) (a1 : Nat) (a2 : Int32) : Option SS :=
  grd (inb a2 12) <|
  vthen (gI σ (a1 + 2) (Int32.toNatClampNeg a2)) fun v2 =>
  vthen (gI σ (a1 + 3) (Int32.toNatClampNeg a2)) fun v3 =>
  bnd1 (fX3_sortByDark σ v2 v3) fun σ4 =>
  X3_judgeQuestion_L31 σ4 v3
  (fun v12 v13 =>
    vthen (sI σ4 56 (Int32.toNatClampNeg a2) v13) fun σ14 =>
    vthen (sI σ14 54 (Int32.toNatClampNeg a2) (0 : Int32)) fun σ15 =>
    vthen (fun (v16 : Int32) (σ17 : SS) =>
      vthen (fun (v18 : Int32) (σ19 : SS) =>
        vthen (sI σ19 53 (Int32.toNatClampNeg a2) (0 : Int32)) fun σ20 =>
        vthen (sI σ20 55 (Int32.toNatClampNeg a2) (0 : Int32)) fun σ21 =>
        X3_judgeQuestion_L253 a2 v2 v3 v16 v18
        fuel (0 : Int32) σ21
        ) fun j236 =>
      if (gI σ17 (a1 + 1) (Int32.toNatClampNeg a2)) = 0 then (
        if v16 ≤ (1 : Int32) then (
          j236 v16 σ17
          ) else (
          grd (inb (gI σ17 52 0) 72) <|
          grd (inb (gI σ17 52 1) 72) <|
          if ((gI σ17 51 (Int32.toNatClampNeg (gI σ17 52 0))) - (gI σ17 51 (Int32.toNatClampNeg (gI σ17 52 1)))) < (gI σ17 32 4) then (
            vthen (sI σ17 54 (Int32.toNatClampNeg a2) (2 : Int32)) fun σ31 =>
            j236 v16 σ31
            ) else (
            j236 (1 : Int32) σ17
            )
          )
        ) else (
        j236 v16 σ17
        )
      ) fun j172 =>
    if (gI σ15 32 3) ≤ v13 then (
      j172 v12 σ15
      ) else (
      vthen (fun (s32 : Int32) =>
        vthen (sI σ15 54 (Int32.toNatClampNeg a2) s32) fun σ33 =>
        j172 (0 : Int32) σ33
        ) fun j171 =>
      if ((2 : Int32) * v13) < (gI σ15 32 3) then (
        j171 (0 : Int32)
        ) else (
        j171 (1 : Int32)
        )
      )
    )
  fuel (0 : Int32) (-1 : Int32) (0 : Int32)

set_option maxRecDepth 20000 in
theorem sX3_judgeQuestion_L31 {g : GG} {r : SS} {σ_ : SS} {x1_ : Nat} {x2_ : Int32} {x3_ : Int32} {u4_ : Int32} {k119 : Int32 → Int32 → Option SS} 
    (hw_ : WT σ_)
    (hk119 : ∀ (y5 : Int32) (y6 : Int32), k119 y5 y6 = some r → RR g mX3_judgeQuestion (FinR g mX3_judgeQuestion none NF r) zF 119 [(0, .ref (ad g 31)), (1, .ref x1_), (2, .int x2_), (3, .int x3_), (4, .int u4_), (5, .int y5), (6, .int y6)] [] σ_)
    (n : Nat) : ∀ (v5_ : Int32) (v6_ : Int32) (v7_ : Int32), X3_judgeQuestion_L31 σ_ u4_ k119 n v5_ v6_ v7_ = some r → RR g mX3_judgeQuestion (FinR g mX3_judgeQuestion none NF r) zF 31 [(0, .ref (ad g 31)), (1, .ref x1_), (2, .int x2_), (3, .int x3_), (4, .int u4_), (5, .int v5_), (6, .int v6_), (7, .int v7_)] [] σ_ := by
  unfold X3_judgeQuestion_L31
  refine lp_ind (P := fun (rec : Int32 → Int32 → Int32 → Option SS) => ∀ (v5_ : Int32) (v6_ : Int32) (v7_ : Int32), rec v5_ v6_ v7_ = some r → RR g mX3_judgeQuestion (FinR g mX3_judgeQuestion none NF r) zF 31 [(0, .ref (ad g 31)), (1, .ref x1_), (2, .int x2_), (3, .int x3_), (4, .int u4_), (5, .int v5_), (6, .int v6_), (7, .int v7_)] [] σ_) ?_ ?_ n
  · intro v5_ v6_ v7_ hr; cases hr
  intro rec ih v5_ v6_ v7_ hr
  refine r_iload (pc := 31) (j := 7) dX3_judgeQuestion_31 rfl ?_
  refine r_iload (pc := 33) (j := 4) dX3_judgeQuestion_33 rfl ?_
  refine r_icmp_ge (pc := 35) (tgt := 119) dX3_judgeQuestion_35 rfl (fun hc => ?_) (fun hc => ?_)
  · replace hr := ite_t hc hr
    exact r_pick (ls1 := [(0, .ref (ad g 31)), (1, .ref x1_), (2, .int x2_), (3, .int x3_), (4, .int u4_), (5, .int v5_), (6, .int v6_)]) [0, 1, 2, 3, 4, 5, 6] rfl (hk119 v5_ v6_ hr)
  replace hr := ite_f hc hr
  refine r_iload (pc := 38) (j := 7) dX3_judgeQuestion_38 rfl ?_
  refine r_iconst (pc := 40) (v := (1 : Int32)) dX3_judgeQuestion_40 rfl ?_
  refine r_iadd (pc := 41) dX3_judgeQuestion_41 ?_
  refine r_iload (pc := 42) (j := 4) dX3_judgeQuestion_42 rfl ?_
  obtain ⟨j68, ej68, hr⟩ := vth_ex hr
  have hj68 : ∀ (s5 : Int32), j68 s5 = some r → RR g mX3_judgeQuestion (FinR g mX3_judgeQuestion none NF r) zF 68 [(0, .ref (ad g 31)), (1, .ref x1_), (2, .int x2_), (3, .int x3_), (4, .int u4_), (5, .int v5_), (6, .int v6_), (7, .int v7_)] [.int s5] σ_ := by
    intro s5 hr
    replace hr := (congrFun ej68 s5).symm.trans hr
    refine r_istore (pc := 68) (ls1 := [(8, .int s5), (0, .ref (ad g 31)), (1, .ref x1_), (2, .int x2_), (3, .int x3_), (4, .int u4_), (5, .int v5_), (6, .int v6_), (7, .int v7_)]) dX3_judgeQuestion_68 (nle rfl) rfl ?_
    refine r_aload_n (pc := 70) (j := 1) dX3_judgeQuestion_70 rfl rfl ?_
    refine gf3_4 (pc := 71) tw_2_30 hw_ dX3_judgeQuestion_71 ?_
    refine r_aload_n (pc := 74) (j := 1) dX3_judgeQuestion_74 rfl rfl ?_
    refine gf3_5 (pc := 75) tw_2_32 hw_ dX3_judgeQuestion_75 ?_
    refine r_iload (pc := 78) (j := 8) dX3_judgeQuestion_78 rfl ?_
    obtain ⟨h6, hr⟩ := grd_inv hr
    refine x_iald (pc := 80) (k := (Int32.toNatClampNeg v7_)) rfl h6 rfl dX3_judgeQuestion_80 ?_
    obtain ⟨h7, hr⟩ := grd_inv hr
    refine x_iald (pc := 81) (k := (Int32.toNatClampNeg (gI σ_ 52 (Int32.toNatClampNeg v7_)))) rfl h7 rfl dX3_judgeQuestion_81 ?_
    refine r_iload (pc := 82) (j := 0) dX3_judgeQuestion_82 rfl ?_
    refine r_isub (pc := 84) dX3_judgeQuestion_84 ?_
    refine r_iload (pc := 85) (j := 7) dX3_judgeQuestion_85 rfl ?_
    refine r_icmp_le (pc := 87) (tgt := 113) dX3_judgeQuestion_87 rfl (fun hc => ?_) (fun hc => ?_)
    · replace hr := ite_t hc hr
      refine r_iinc (pc := 113) (j := 8) (v := (v7_ + (1 : Int32))) (ls1 := [(7, .int (v7_ + (1 : Int32))), (8, .int s5), (0, .ref (ad g 31)), (1, .ref x1_), (2, .int x2_), (3, .int x3_), (4, .int u4_), (5, .int v5_), (6, .int v6_)]) dX3_judgeQuestion_113 rfl rfl (nle rfl) rfl ?_
      refine r_goto (pc := 116) (tgt := 31) dX3_judgeQuestion_116 rfl ?_
      exact r_pick (ls1 := [(0, .ref (ad g 31)), (1, .ref x1_), (2, .int x2_), (3, .int x3_), (4, .int u4_), (5, .int v5_), (6, .int v6_), (7, .int (v7_ + (1 : Int32)))]) [2, 3, 4, 5, 6, 7, 8, 0] rfl (ih v5_ v6_ (v7_ + (1 : Int32)) hr)
    replace hr := ite_f hc hr
    refine r_aload_n (pc := 90) (j := 1) dX3_judgeQuestion_90 rfl rfl ?_
    refine gf3_4 (pc := 91) tw_2_30 hw_ dX3_judgeQuestion_91 ?_
    refine r_aload_n (pc := 94) (j := 1) dX3_judgeQuestion_94 rfl rfl ?_
    refine gf3_5 (pc := 95) tw_2_32 hw_ dX3_judgeQuestion_95 ?_
    refine r_iload (pc := 98) (j := 8) dX3_judgeQuestion_98 rfl ?_
    refine x_iald (pc := 100) (k := (Int32.toNatClampNeg v7_)) rfl h6 rfl dX3_judgeQuestion_100 ?_
    refine x_iald (pc := 101) (k := (Int32.toNatClampNeg (gI σ_ 52 (Int32.toNatClampNeg v7_)))) rfl h7 rfl dX3_judgeQuestion_101 ?_
    refine r_iload (pc := 102) (j := 0) dX3_judgeQuestion_102 rfl ?_
    refine r_isub (pc := 104) dX3_judgeQuestion_104 ?_
    refine r_topi fun v8 ev8 => ?_
    replace hr := vthen_inv hr v8 ev8
    refine r_istore (pc := 105) (ls1 := [(6, .int v8), (8, .int s5), (0, .ref (ad g 31)), (1, .ref x1_), (2, .int x2_), (3, .int x3_), (4, .int u4_), (5, .int v5_), (7, .int v7_)]) dX3_judgeQuestion_105 (nle rfl) rfl ?_
    refine r_iload (pc := 107) (j := 8) dX3_judgeQuestion_107 rfl ?_
    refine r_iconst (pc := 109) (v := (1 : Int32)) dX3_judgeQuestion_109 rfl ?_
    refine r_iadd (pc := 110) dX3_judgeQuestion_110 ?_
    refine r_topi fun v9 ev9 => ?_
    replace hr := vthen_inv hr v9 ev9
    refine r_istore (pc := 111) (ls1 := [(5, .int v9), (6, .int v8), (8, .int s5), (0, .ref (ad g 31)), (1, .ref x1_), (2, .int x2_), (3, .int x3_), (4, .int u4_), (7, .int v7_)]) dX3_judgeQuestion_111 (nle rfl) rfl ?_
    refine r_iinc (pc := 113) (j := 8) (v := (v7_ + (1 : Int32))) (ls1 := [(7, .int (v7_ + (1 : Int32))), (5, .int v9), (6, .int v8), (8, .int s5), (0, .ref (ad g 31)), (1, .ref x1_), (2, .int x2_), (3, .int x3_), (4, .int u4_)]) dX3_judgeQuestion_113 rfl rfl (nle rfl) rfl ?_
    refine r_goto (pc := 116) (tgt := 31) dX3_judgeQuestion_116 rfl ?_
    exact r_pick (ls1 := [(0, .ref (ad g 31)), (1, .ref x1_), (2, .int x2_), (3, .int x3_), (4, .int u4_), (5, .int v9), (6, .int v8), (7, .int (v7_ + (1 : Int32)))]) [4, 5, 6, 7, 8, 1, 2, 0] rfl (ih v9 v8 (v7_ + (1 : Int32)) hr)
  refine r_icmp_ge (pc := 44) (tgt := 64) dX3_judgeQuestion_44 rfl (fun hc => ?_) (fun hc => ?_)
  · replace hr := ite_t hc hr
    refine r_aload_n (pc := 64) (j := 0) dX3_judgeQuestion_64 rfl rfl ?_
    refine gf3_6 (pc := 65) tw_2_33 rfl dX3_judgeQuestion_65 ?_
    exact r_pick (ls1 := [(0, .ref (ad g 31)), (1, .ref x1_), (2, .int x2_), (3, .int x3_), (4, .int u4_), (5, .int v5_), (6, .int v6_), (7, .int v7_)]) [0, 1, 2, 3, 4, 5, 6, 7] rfl (hj68 (gI σ_ 31 6) hr)
  replace hr := ite_f hc hr
  refine r_aload_n (pc := 47) (j := 0) dX3_judgeQuestion_47 rfl rfl ?_
  refine gf3_4 (pc := 48) tw_2_30 hw_ dX3_judgeQuestion_48 ?_
  refine r_aload_n (pc := 51) (j := 0) dX3_judgeQuestion_51 rfl rfl ?_
  refine gf3_5 (pc := 52) tw_2_32 hw_ dX3_judgeQuestion_52 ?_
  refine r_iload (pc := 55) (j := 7) dX3_judgeQuestion_55 rfl ?_
  refine r_iconst (pc := 57) (v := (1 : Int32)) dX3_judgeQuestion_57 rfl ?_
  refine r_iadd (pc := 58) dX3_judgeQuestion_58 ?_
  obtain ⟨h10, hr⟩ := grd_inv hr
  refine x_iald (pc := 59) (k := (Int32.toNatClampNeg (v7_ + (1 : Int32)))) rfl h10 rfl dX3_judgeQuestion_59 ?_
  obtain ⟨h11, hr⟩ := grd_inv hr
  refine x_iald (pc := 60) (k := (Int32.toNatClampNeg (gI σ_ 52 (Int32.toNatClampNeg (v7_ + (1 : Int32)))))) rfl h11 rfl dX3_judgeQuestion_60 ?_
  refine r_goto (pc := 61) (tgt := 68) dX3_judgeQuestion_61 rfl ?_
  exact r_pick (ls1 := [(0, .ref (ad g 31)), (1, .ref x1_), (2, .int x2_), (3, .int x3_), (4, .int u4_), (5, .int v5_), (6, .int v6_), (7, .int v7_)]) [0, 1, 2, 3, 4, 5, 6, 7] rfl (hj68 (gI σ_ 51 (Int32.toNatClampNeg (gI σ_ 52 (Int32.toNatClampNeg (v7_ + (1 : Int32)))))) hr)

set_option maxRecDepth 20000 in
theorem sX3_judgeQuestion_L253 {g : GG} {r : SS} {u2_ : Int32} {u3_ : Int32} {u4_ : Int32} {u5_ : Int32} {u7_ : Int32}  
    (n : Nat) : ∀ (v8_ : Int32) (σ_ : SS), X3_judgeQuestion_L253 u2_ u3_ u4_ u5_ u7_ n v8_ σ_ = some r → WT σ_ → RR g mX3_judgeQuestion (FinR g mX3_judgeQuestion none NF r) zF 253 [(0, .ref (ad g 31)), (2, .int u2_), (3, .int u3_), (4, .int u4_), (5, .int u5_), (7, .int u7_), (8, .int v8_)] [] σ_ := by
  unfold X3_judgeQuestion_L253
  refine lp_ind (P := fun (rec : Int32 → SS → Option SS) => ∀ (v8_ : Int32) (σ_ : SS), rec v8_ σ_ = some r → WT σ_ → RR g mX3_judgeQuestion (FinR g mX3_judgeQuestion none NF r) zF 253 [(0, .ref (ad g 31)), (2, .int u2_), (3, .int u3_), (4, .int u4_), (5, .int u5_), (7, .int u7_), (8, .int v8_)] [] σ_) ?_ ?_ n
  · intro v8_ σ_ hr; cases hr
  intro rec ih v8_ σ_ hr hw_
  refine r_iload (pc := 253) (j := 6) dX3_judgeQuestion_253 rfl ?_
  refine r_iload (pc := 255) (j := 3) dX3_judgeQuestion_255 rfl ?_
  refine r_icmp_ge (pc := 257) (tgt := 344) dX3_judgeQuestion_257 rfl (fun hc => ?_) (fun hc => ?_)
  · replace hr := ite_t hc hr
    exact l_ov hr (r_vret (pc := 344) rfl rfl ⟨Nat.le_refl _, Nat.le_refl _⟩ dX3_judgeQuestion_344)
  replace hr := ite_f hc hr
  refine r_iconst (pc := 260) (v := (1 : Int32)) dX3_judgeQuestion_260 rfl ?_
  refine r_aload_n (pc := 261) (j := 0) dX3_judgeQuestion_261 rfl rfl ?_
  refine gf3_5 (pc := 262) tw_2_32 hw_ dX3_judgeQuestion_262 ?_
  refine r_iload (pc := 265) (j := 6) dX3_judgeQuestion_265 rfl ?_
  obtain ⟨h22, hr⟩ := grd_inv hr
  refine x_iald (pc := 267) (k := (Int32.toNatClampNeg v8_)) rfl h22 rfl dX3_judgeQuestion_267 ?_
  refine r_iload_n (pc := 268) (j := 2) dX3_judgeQuestion_268 rfl rfl ?_
  refine r_isub (pc := 269) dX3_judgeQuestion_269 ?_
  refine r_ishl (pc := 270) dX3_judgeQuestion_270 ?_
  refine r_topi fun v23 ev23 => ?_
  replace hr := vthen_inv hr v23 ev23
  refine r_istore (pc := 271) (ls1 := [(9, .int v23), (0, .ref (ad g 31)), (2, .int u2_), (3, .int u3_), (4, .int u4_), (5, .int u5_), (7, .int u7_), (8, .int v8_)]) dX3_judgeQuestion_271 (nle rfl) rfl ?_
  refine r_iload (pc := 273) (j := 7) dX3_judgeQuestion_273 rfl ?_
  refine r_iload (pc := 275) (j := 6) dX3_judgeQuestion_275 rfl ?_
  refine r_icmp_ge (pc := 277) (tgt := 294) dX3_judgeQuestion_277 rfl (fun hc => ?_) (fun hc => ?_)
  · replace hr := ite_t hc hr
    refine r_iload (pc := 294) (j := 7) dX3_judgeQuestion_294 rfl ?_
    refine r_iload (pc := 296) (j := 5) dX3_judgeQuestion_296 rfl ?_
    obtain ⟨j327, ej327, hr⟩ := vth_ex hr
    have hj327 : j327 () = some r → RR g mX3_judgeQuestion (FinR g mX3_judgeQuestion none NF r) zF 327 [(0, .ref (ad g 31)), (2, .int u2_), (3, .int u3_), (4, .int u4_), (5, .int u5_), (7, .int u7_), (8, .int v8_), (9, .int v23)] [] σ_ := by
      intro  hr
      replace hr := (congrFun ej327 ()).symm.trans hr
      refine r_aload_n (pc := 327) (j := 0) dX3_judgeQuestion_327 rfl rfl ?_
      refine gf3_9 (pc := 328) tw_2_41 hw_ dX3_judgeQuestion_328 ?_
      refine r_iload_n (pc := 331) (j := 1) dX3_judgeQuestion_331 rfl rfl ?_
      refine r_dup2 (pc := 332) dX3_judgeQuestion_332 rfl rfl ?_
      obtain ⟨h24, hr⟩ := grd_inv hr
      refine x_iald (pc := 333) (k := (Int32.toNatClampNeg u2_)) rfl h24 rfl dX3_judgeQuestion_333 ?_
      refine r_iload (pc := 334) (j := 7) dX3_judgeQuestion_334 rfl ?_
      refine r_ior (pc := 336) dX3_judgeQuestion_336 ?_
      refine x_iast (pc := 337) (j := (Int32.toNatClampNeg u2_)) rfl h24 rfl dX3_judgeQuestion_337 fun σ25 eσ25 => ?_
      replace hr := vthen_inv hr σ25 eσ25
      have hσ25 := wtI eσ25 hw_
      refine r_iinc (pc := 338) (j := 6) (v := (v8_ + (1 : Int32))) (ls1 := [(8, .int (v8_ + (1 : Int32))), (0, .ref (ad g 31)), (2, .int u2_), (3, .int u3_), (4, .int u4_), (5, .int u5_), (7, .int u7_), (9, .int v23)]) dX3_judgeQuestion_338 rfl rfl (nle rfl) rfl ?_
      refine r_goto (pc := 341) (tgt := 253) dX3_judgeQuestion_341 rfl ?_
      exact r_pick (ls1 := [(0, .ref (ad g 31)), (2, .int u2_), (3, .int u3_), (4, .int u4_), (5, .int u5_), (7, .int u7_), (8, .int (v8_ + (1 : Int32)))]) [1, 2, 3, 4, 5, 6, 0] rfl (ih (v8_ + (1 : Int32)) σ25 hr hσ25)
    refine r_icmp_lt (pc := 298) (tgt := 327) dX3_judgeQuestion_298 rfl (fun hc => ?_) (fun hc => ?_)
    · replace hr := ite_t hc hr
      exact r_pick (ls1 := [(0, .ref (ad g 31)), (2, .int u2_), (3, .int u3_), (4, .int u4_), (5, .int u5_), (7, .int u7_), (8, .int v8_), (9, .int v23)]) [1, 2, 3, 4, 5, 6, 7, 0] rfl (hj327  hr)
    replace hr := ite_f hc hr
    refine r_aload_n (pc := 301) (j := 1) dX3_judgeQuestion_301 rfl rfl ?_
    refine gf3_4 (pc := 302) tw_2_30 hw_ dX3_judgeQuestion_302 ?_
    refine r_aload_n (pc := 305) (j := 1) dX3_judgeQuestion_305 rfl rfl ?_
    refine gf3_5 (pc := 306) tw_2_32 hw_ dX3_judgeQuestion_306 ?_
    refine r_iload (pc := 309) (j := 7) dX3_judgeQuestion_309 rfl ?_
    refine x_iald (pc := 311) (k := (Int32.toNatClampNeg v8_)) rfl h22 rfl dX3_judgeQuestion_311 ?_
    obtain ⟨h26, hr⟩ := grd_inv hr
    refine x_iald (pc := 312) (k := (Int32.toNatClampNeg (gI σ_ 52 (Int32.toNatClampNeg v8_)))) rfl h26 rfl dX3_judgeQuestion_312 ?_
    refine r_aload_n (pc := 313) (j := 1) dX3_judgeQuestion_313 rfl rfl ?_
    refine gf3_6 (pc := 314) tw_2_33 rfl dX3_judgeQuestion_314 ?_
    refine r_isub (pc := 317) dX3_judgeQuestion_317 ?_
    refine r_aload_n (pc := 318) (j := 1) dX3_judgeQuestion_318 rfl rfl ?_
    refine gf3_0 (pc := 319) tw_2_22 hw_ dX3_judgeQuestion_319 ?_
    refine r_iconst (pc := 322) (v := (5 : Int32)) dX3_judgeQuestion_322 rfl ?_
    refine x_iald (pc := 323) (k := 5) rfl (by decide) rfl dX3_judgeQuestion_323 ?_
    refine r_icmp_lt (pc := 324) (tgt := 338) dX3_judgeQuestion_324 rfl (fun hc => ?_) (fun hc => ?_)
    · replace hr := ite_t hc hr
      refine r_iinc (pc := 338) (j := 7) (v := (v8_ + (1 : Int32))) (ls1 := [(8, .int (v8_ + (1 : Int32))), (9, .int v23), (0, .ref (ad g 31)), (2, .int u2_), (3, .int u3_), (4, .int u4_), (5, .int u5_), (7, .int u7_)]) dX3_judgeQuestion_338 rfl rfl (nle rfl) rfl ?_
      refine r_goto (pc := 341) (tgt := 253) dX3_judgeQuestion_341 rfl ?_
      exact r_pick (ls1 := [(0, .ref (ad g 31)), (2, .int u2_), (3, .int u3_), (4, .int u4_), (5, .int u5_), (7, .int u7_), (8, .int (v8_ + (1 : Int32)))]) [2, 3, 4, 5, 6, 7, 0] rfl (ih (v8_ + (1 : Int32)) σ_ hr hw_)
    replace hr := ite_f hc hr
    exact r_pick (ls1 := [(0, .ref (ad g 31)), (2, .int u2_), (3, .int u3_), (4, .int u4_), (5, .int u5_), (7, .int u7_), (8, .int v8_), (9, .int v23)]) [1, 2, 3, 4, 5, 6, 7, 0] rfl (hj327  hr)
  replace hr := ite_f hc hr
  refine r_aload_n (pc := 280) (j := 1) dX3_judgeQuestion_280 rfl rfl ?_
  refine gf3_7 (pc := 281) tw_2_35 hw_ dX3_judgeQuestion_281 ?_
  refine r_iload_n (pc := 284) (j := 2) dX3_judgeQuestion_284 rfl rfl ?_
  refine r_dup2 (pc := 285) dX3_judgeQuestion_285 rfl rfl ?_
  obtain ⟨h27, hr⟩ := grd_inv hr
  refine x_iald (pc := 286) (k := (Int32.toNatClampNeg u2_)) rfl h27 rfl dX3_judgeQuestion_286 ?_
  refine r_iload (pc := 287) (j := 0) dX3_judgeQuestion_287 rfl ?_
  refine r_ior (pc := 289) dX3_judgeQuestion_289 ?_
  refine x_iast (pc := 290) (j := (Int32.toNatClampNeg u2_)) rfl h27 rfl dX3_judgeQuestion_290 fun σ28 eσ28 => ?_
  replace hr := vthen_inv hr σ28 eσ28
  have hσ28 := wtI eσ28 hw_
  refine r_goto (pc := 291) (tgt := 338) dX3_judgeQuestion_291 rfl ?_
  refine r_iinc (pc := 338) (j := 7) (v := (v8_ + (1 : Int32))) (ls1 := [(8, .int (v8_ + (1 : Int32))), (9, .int v23), (0, .ref (ad g 31)), (2, .int u2_), (3, .int u3_), (4, .int u4_), (5, .int u5_), (7, .int u7_)]) dX3_judgeQuestion_338 rfl rfl (nle rfl) rfl ?_
  refine r_goto (pc := 341) (tgt := 253) dX3_judgeQuestion_341 rfl ?_
  exact r_pick (ls1 := [(0, .ref (ad g 31)), (2, .int u2_), (3, .int u3_), (4, .int u4_), (5, .int u5_), (7, .int u7_), (8, .int (v8_ + (1 : Int32)))]) [2, 3, 4, 5, 6, 7, 0] rfl (ih (v8_ + (1 : Int32)) σ28 hr hσ28)

set_option maxRecDepth 20000 in
theorem sX3_judgeQuestion {g : GG} {σ : SS} {a1 : Nat} {a2 : Int32} {r : SS} (hr : fX3_judgeQuestion σ a1 a2 = some r) (hs1 : shp a1 = (1, 0)) : Ct g mX3_judgeQuestion [.ref (ad g 31), .ref (ad g a1), .int a2] NF σ none NF r := by
  refine Ct.of (by decide +kernel) (nle rfl) fun hw0 => ?_
  have hw := hw0 rfl
  unfold fX3_judgeQuestion at hr
  change RR g mX3_judgeQuestion (FinR g mX3_judgeQuestion none NF r) zF 0 [(0, .ref (ad g 31)), (1, .ref (ad g a1)), (2, .int a2)] [] σ
  refine r_aload_n (pc := 0) (j := 1) dX3_judgeQuestion_0 rfl rfl ?_
  refine gf1_8 (pc := 1) tw_1_90 hw hs1 dX3_judgeQuestion_1 ?_
  refine r_iload_n (pc := 4) (j := 2) dX3_judgeQuestion_4 rfl rfl ?_
  obtain ⟨h1, hr⟩ := grd_inv hr
  refine x_iald (pc := 5) (k := (Int32.toNatClampNeg a2)) (sh1_8 hs1) h1 rfl dX3_judgeQuestion_5 ?_
  refine r_topi fun v2 ev2 => ?_
  replace hr := vthen_inv hr v2 ev2
  refine r_istore_n (pc := 6) (ls1 := [(3, .int v2), (0, .ref (ad g 31)), (1, .ref (ad g a1)), (2, .int a2)]) dX3_judgeQuestion_6 rfl (nle rfl) rfl ?_
  refine r_aload_n (pc := 7) (j := 2) dX3_judgeQuestion_7 rfl rfl ?_
  refine gf1_9 (pc := 8) tw_1_93 hw hs1 dX3_judgeQuestion_8 ?_
  refine r_iload_n (pc := 11) (j := 3) dX3_judgeQuestion_11 rfl rfl ?_
  refine x_iald (pc := 12) (k := (Int32.toNatClampNeg a2)) (sh1_9 hs1) h1 rfl dX3_judgeQuestion_12 ?_
  refine r_topi fun v3 ev3 => ?_
  replace hr := vthen_inv hr v3 ev3
  refine r_istore (pc := 13) (ls1 := [(4, .int v3), (3, .int v2), (0, .ref (ad g 31)), (1, .ref (ad g a1)), (2, .int a2)]) dX3_judgeQuestion_13 (nle rfl) rfl ?_
  refine r_aload_n (pc := 15) (j := 2) dX3_judgeQuestion_15 rfl rfl ?_
  refine r_iload_n (pc := 16) (j := 1) dX3_judgeQuestion_16 rfl rfl ?_
  refine r_iload (pc := 17) (j := 0) dX3_judgeQuestion_17 rfl ?_
  obtain ⟨σ4, eσ4, hr⟩ := bnd1_inv hr
  refine kX3_sortByDark (pc := 19) eσ4 tw_4_144 ⟨nle rfl, nle rfl⟩ (nle rfl) dX3_judgeQuestion_19 fun hσ4 => ?_
  refine r_iconst (pc := 22) (v := (0 : Int32)) dX3_judgeQuestion_22 rfl ?_
  refine r_istore (pc := 23) (ls1 := [(5, .int (0 : Int32)), (4, .int v3), (3, .int v2), (0, .ref (ad g 31)), (1, .ref (ad g a1)), (2, .int a2)]) dX3_judgeQuestion_23 (nle rfl) rfl ?_
  refine r_iconst (pc := 25) (v := (-1 : Int32)) dX3_judgeQuestion_25 rfl ?_
  refine r_istore (pc := 26) (ls1 := [(6, .int (-1 : Int32)), (5, .int (0 : Int32)), (4, .int v3), (3, .int v2), (0, .ref (ad g 31)), (1, .ref (ad g a1)), (2, .int a2)]) dX3_judgeQuestion_26 (nle rfl) rfl ?_
  refine r_iconst (pc := 28) (v := (0 : Int32)) dX3_judgeQuestion_28 rfl ?_
  refine r_istore (pc := 29) (ls1 := [(7, .int (0 : Int32)), (6, .int (-1 : Int32)), (5, .int (0 : Int32)), (4, .int v3), (3, .int v2), (0, .ref (ad g 31)), (1, .ref (ad g a1)), (2, .int a2)]) dX3_judgeQuestion_29 (nle rfl) rfl ?_
  refine r_pick (ls1 := [(0, .ref (ad g 31)), (1, .ref (ad g a1)), (2, .int a2), (3, .int v2), (4, .int v3), (5, .int (0 : Int32)), (6, .int (-1 : Int32)), (7, .int (0 : Int32))]) [5, 6, 7, 4, 3, 2, 1, 0] rfl ?_
  refine sX3_judgeQuestion_L31  hσ4  (fun v12 v13 hr => ?_) fuel (0 : Int32) (-1 : Int32) (0 : Int32) hr
  refine r_aload_n (pc := 119) (j := 0) dX3_judgeQuestion_119 rfl rfl ?_
  refine gf3_10 (pc := 120) tw_2_43 hσ4 dX3_judgeQuestion_120 ?_
  refine r_iload_n (pc := 123) (j := 2) dX3_judgeQuestion_123 rfl rfl ?_
  refine r_iload (pc := 124) (j := 6) dX3_judgeQuestion_124 rfl ?_
  refine x_iast (pc := 126) (j := (Int32.toNatClampNeg a2)) rfl h1 rfl dX3_judgeQuestion_126 fun σ14 eσ14 => ?_
  replace hr := vthen_inv hr σ14 eσ14
  have hσ14 := wtI eσ14 hσ4
  refine r_aload_n (pc := 127) (j := 0) dX3_judgeQuestion_127 rfl rfl ?_
  refine gf3_8 (pc := 128) tw_2_38 hσ14 dX3_judgeQuestion_128 ?_
  refine r_iload_n (pc := 131) (j := 2) dX3_judgeQuestion_131 rfl rfl ?_
  refine r_iconst (pc := 132) (v := (0 : Int32)) dX3_judgeQuestion_132 rfl ?_
  refine x_iast (pc := 133) (j := (Int32.toNatClampNeg a2)) rfl h1 rfl dX3_judgeQuestion_133 fun σ15 eσ15 => ?_
  replace hr := vthen_inv hr σ15 eσ15
  have hσ15 := wtI eσ15 hσ14
  refine r_iload (pc := 134) (j := 6) dX3_judgeQuestion_134 rfl ?_
  refine r_aload_n (pc := 136) (j := 0) dX3_judgeQuestion_136 rfl rfl ?_
  refine gf3_0 (pc := 137) tw_2_22 hσ15 dX3_judgeQuestion_137 ?_
  refine r_iconst (pc := 140) (v := (3 : Int32)) dX3_judgeQuestion_140 rfl ?_
  refine x_iald (pc := 141) (k := 3) rfl (by decide) rfl dX3_judgeQuestion_141 ?_
  obtain ⟨j172, ej172, hr⟩ := vth_ex hr
  have hj172 : ∀ (v16 : Int32) (σ17 : SS), j172 v16 σ17 = some r → WT σ17 → RR g mX3_judgeQuestion (FinR g mX3_judgeQuestion none NF r) zF 172 [(0, .ref (ad g 31)), (1, .ref (ad g a1)), (2, .int a2), (3, .int v2), (4, .int v3), (5, .int v16)] [] σ17 := by
    intro v16 σ17 hr hσ17
    replace hr := (congrFun (congrFun ej172 v16) σ17).symm.trans hr
    refine r_iload (pc := 172) (j := 5) dX3_judgeQuestion_172 rfl ?_
    refine r_istore (pc := 174) (ls1 := [(7, .int v16), (0, .ref (ad g 31)), (1, .ref (ad g a1)), (2, .int a2), (3, .int v2), (4, .int v3), (5, .int v16)]) dX3_judgeQuestion_174 (nle rfl) rfl ?_
    refine r_aload_n (pc := 176) (j := 2) dX3_judgeQuestion_176 rfl rfl ?_
    refine gf1_7 (pc := 177) tw_1_87 hσ17 hs1 dX3_judgeQuestion_177 ?_
    refine r_iload_n (pc := 180) (j := 3) dX3_judgeQuestion_180 rfl rfl ?_
    refine x_zald (pc := 181) (k := (Int32.toNatClampNeg a2)) (sh1_7 hs1) h1 rfl dX3_judgeQuestion_181 ?_
    obtain ⟨j236, ej236, hr⟩ := vth_ex hr
    have hj236 : ∀ (v18 : Int32) (σ19 : SS), j236 v18 σ19 = some r → WT σ19 → RR g mX3_judgeQuestion (FinR g mX3_judgeQuestion none NF r) zF 236 [(0, .ref (ad g 31)), (2, .int a2), (3, .int v2), (4, .int v3), (5, .int v16), (7, .int v18)] [] σ19 := by
      intro v18 σ19 hr hσ19
      replace hr := (congrFun (congrFun ej236 v18) σ19).symm.trans hr
      refine r_aload_n (pc := 236) (j := 0) dX3_judgeQuestion_236 rfl rfl ?_
      refine gf3_7 (pc := 237) tw_2_35 hσ19 dX3_judgeQuestion_237 ?_
      refine r_iload_n (pc := 240) (j := 1) dX3_judgeQuestion_240 rfl rfl ?_
      refine r_iconst (pc := 241) (v := (0 : Int32)) dX3_judgeQuestion_241 rfl ?_
      refine x_iast (pc := 242) (j := (Int32.toNatClampNeg a2)) rfl h1 rfl dX3_judgeQuestion_242 fun σ20 eσ20 => ?_
      replace hr := vthen_inv hr σ20 eσ20
      have hσ20 := wtI eσ20 hσ19
      refine r_aload_n (pc := 243) (j := 0) dX3_judgeQuestion_243 rfl rfl ?_
      refine gf3_9 (pc := 244) tw_2_41 hσ20 dX3_judgeQuestion_244 ?_
      refine r_iload_n (pc := 247) (j := 1) dX3_judgeQuestion_247 rfl rfl ?_
      refine r_iconst (pc := 248) (v := (0 : Int32)) dX3_judgeQuestion_248 rfl ?_
      refine x_iast (pc := 249) (j := (Int32.toNatClampNeg a2)) rfl h1 rfl dX3_judgeQuestion_249 fun σ21 eσ21 => ?_
      replace hr := vthen_inv hr σ21 eσ21
      have hσ21 := wtI eσ21 hσ20
      refine r_iconst (pc := 250) (v := (0 : Int32)) dX3_judgeQuestion_250 rfl ?_
      refine r_istore (pc := 251) (ls1 := [(8, .int (0 : Int32)), (0, .ref (ad g 31)), (2, .int a2), (3, .int v2), (4, .int v3), (5, .int v16), (7, .int v18)]) dX3_judgeQuestion_251 (nle rfl) rfl ?_
      refine r_pick (ls1 := [(0, .ref (ad g 31)), (2, .int a2), (3, .int v2), (4, .int v3), (5, .int v16), (7, .int v18), (8, .int (0 : Int32))]) [1, 2, 3, 4, 5, 6, 0] rfl ?_
      refine sX3_judgeQuestion_L253     fuel (0 : Int32) σ21 hr hσ21
    refine r_if_ne (pc := 182) (tgt := 236) dX3_judgeQuestion_182 rfl (fun hc => ?_) (fun hc => ?_)
    · replace hr := ite_f hc hr
      exact r_pick (ls1 := [(0, .ref (ad g 31)), (2, .int a2), (3, .int v2), (4, .int v3), (5, .int v16), (7, .int v16)]) [1, 3, 4, 5, 6, 0] rfl (hj236 v16 σ17 hr hσ17)
    replace hr := ite_t hc hr
    refine r_iload (pc := 185) (j := 6) dX3_judgeQuestion_185 rfl ?_
    refine r_iconst (pc := 187) (v := (1 : Int32)) dX3_judgeQuestion_187 rfl ?_
    refine r_icmp_le (pc := 188) (tgt := 236) dX3_judgeQuestion_188 rfl (fun hc => ?_) (fun hc => ?_)
    · replace hr := ite_t hc hr
      exact r_pick (ls1 := [(0, .ref (ad g 31)), (2, .int a2), (3, .int v2), (4, .int v3), (5, .int v16), (7, .int v16)]) [1, 3, 4, 5, 6, 0] rfl (hj236 v16 σ17 hr hσ17)
    replace hr := ite_f hc hr
    refine r_aload_n (pc := 191) (j := 1) dX3_judgeQuestion_191 rfl rfl ?_
    refine gf3_4 (pc := 192) tw_2_30 hσ17 dX3_judgeQuestion_192 ?_
    refine r_aload_n (pc := 195) (j := 1) dX3_judgeQuestion_195 rfl rfl ?_
    refine gf3_5 (pc := 196) tw_2_32 hσ17 dX3_judgeQuestion_196 ?_
    refine r_iconst (pc := 199) (v := (0 : Int32)) dX3_judgeQuestion_199 rfl ?_
    refine x_iald (pc := 200) (k := 0) rfl (by decide) rfl dX3_judgeQuestion_200 ?_
    obtain ⟨h29, hr⟩ := grd_inv hr
    refine x_iald (pc := 201) (k := (Int32.toNatClampNeg (gI σ17 52 0))) rfl h29 rfl dX3_judgeQuestion_201 ?_
    refine r_aload_n (pc := 202) (j := 1) dX3_judgeQuestion_202 rfl rfl ?_
    refine gf3_4 (pc := 203) tw_2_30 hσ17 dX3_judgeQuestion_203 ?_
    refine r_aload_n (pc := 206) (j := 1) dX3_judgeQuestion_206 rfl rfl ?_
    refine gf3_5 (pc := 207) tw_2_32 hσ17 dX3_judgeQuestion_207 ?_
    refine r_iconst (pc := 210) (v := (1 : Int32)) dX3_judgeQuestion_210 rfl ?_
    refine x_iald (pc := 211) (k := 1) rfl (by decide) rfl dX3_judgeQuestion_211 ?_
    obtain ⟨h30, hr⟩ := grd_inv hr
    refine x_iald (pc := 212) (k := (Int32.toNatClampNeg (gI σ17 52 1))) rfl h30 rfl dX3_judgeQuestion_212 ?_
    refine r_isub (pc := 213) dX3_judgeQuestion_213 ?_
    refine r_aload_n (pc := 214) (j := 1) dX3_judgeQuestion_214 rfl rfl ?_
    refine gf3_0 (pc := 215) tw_2_22 hσ17 dX3_judgeQuestion_215 ?_
    refine r_iconst (pc := 218) (v := (4 : Int32)) dX3_judgeQuestion_218 rfl ?_
    refine x_iald (pc := 219) (k := 4) rfl (by decide) rfl dX3_judgeQuestion_219 ?_
    refine r_icmp_lt (pc := 220) (tgt := 229) dX3_judgeQuestion_220 rfl (fun hc => ?_) (fun hc => ?_)
    · replace hr := ite_t hc hr
      refine r_aload_n (pc := 229) (j := 1) dX3_judgeQuestion_229 rfl rfl ?_
      refine gf3_8 (pc := 230) tw_2_38 hσ17 dX3_judgeQuestion_230 ?_
      refine r_iload_n (pc := 233) (j := 3) dX3_judgeQuestion_233 rfl rfl ?_
      refine r_iconst (pc := 234) (v := (2 : Int32)) dX3_judgeQuestion_234 rfl ?_
      refine x_iast (pc := 235) (j := (Int32.toNatClampNeg a2)) rfl h1 rfl dX3_judgeQuestion_235 fun σ31 eσ31 => ?_
      replace hr := vthen_inv hr σ31 eσ31
      have hσ31 := wtI eσ31 hσ17
      exact r_pick (ls1 := [(0, .ref (ad g 31)), (2, .int a2), (3, .int v2), (4, .int v3), (5, .int v16), (7, .int v16)]) [1, 3, 4, 5, 6, 0] rfl (hj236 v16 σ31 hr hσ31)
    replace hr := ite_f hc hr
    refine r_iconst (pc := 223) (v := (1 : Int32)) dX3_judgeQuestion_223 rfl ?_
    refine r_istore (pc := 224) (ls1 := [(7, .int (1 : Int32)), (0, .ref (ad g 31)), (1, .ref (ad g a1)), (2, .int a2), (3, .int v2), (4, .int v3), (5, .int v16)]) dX3_judgeQuestion_224 (nle rfl) rfl ?_
    refine r_goto (pc := 226) (tgt := 236) dX3_judgeQuestion_226 rfl ?_
    exact r_pick (ls1 := [(0, .ref (ad g 31)), (2, .int a2), (3, .int v2), (4, .int v3), (5, .int v16), (7, .int (1 : Int32))]) [1, 3, 4, 5, 6, 0] rfl (hj236 (1 : Int32) σ17 hr hσ17)
  refine r_icmp_ge (pc := 142) (tgt := 172) dX3_judgeQuestion_142 rfl (fun hc => ?_) (fun hc => ?_)
  · replace hr := ite_t hc hr
    exact r_pick (ls1 := [(0, .ref (ad g 31)), (1, .ref (ad g a1)), (2, .int a2), (3, .int v2), (4, .int v3), (5, .int v12)]) [0, 1, 2, 3, 4, 5] rfl (hj172 v12 σ15 hr hσ15)
  replace hr := ite_f hc hr
  refine r_iconst (pc := 145) (v := (0 : Int32)) dX3_judgeQuestion_145 rfl ?_
  refine r_istore (pc := 146) (ls1 := [(5, .int (0 : Int32)), (0, .ref (ad g 31)), (1, .ref (ad g a1)), (2, .int a2), (3, .int v2), (4, .int v3), (6, .int v13)]) dX3_judgeQuestion_146 (nle rfl) rfl ?_
  refine r_aload_n (pc := 148) (j := 1) dX3_judgeQuestion_148 rfl rfl ?_
  refine gf3_8 (pc := 149) tw_2_38 hσ15 dX3_judgeQuestion_149 ?_
  refine r_iload_n (pc := 152) (j := 3) dX3_judgeQuestion_152 rfl rfl ?_
  refine r_iconst (pc := 153) (v := (2 : Int32)) dX3_judgeQuestion_153 rfl ?_
  refine r_iload (pc := 154) (j := 6) dX3_judgeQuestion_154 rfl ?_
  refine r_imul (pc := 156) dX3_judgeQuestion_156 ?_
  refine r_aload_n (pc := 157) (j := 1) dX3_judgeQuestion_157 rfl rfl ?_
  refine gf3_0 (pc := 158) tw_2_22 hσ15 dX3_judgeQuestion_158 ?_
  refine r_iconst (pc := 161) (v := (3 : Int32)) dX3_judgeQuestion_161 rfl ?_
  refine x_iald (pc := 162) (k := 3) rfl (by decide) rfl dX3_judgeQuestion_162 ?_
  obtain ⟨j171, ej171, hr⟩ := vth_ex hr
  have hj171 : ∀ (s32 : Int32), j171 s32 = some r → RR g mX3_judgeQuestion (FinR g mX3_judgeQuestion none NF r) zF 171 [(0, .ref (ad g 31)), (1, .ref (ad g a1)), (2, .int a2), (3, .int v2), (4, .int v3), (5, .int (0 : Int32))] [.int s32, .int a2, .ref (ad g 54)] σ15 := by
    intro s32 hr
    replace hr := (congrFun ej171 s32).symm.trans hr
    refine x_iast (pc := 171) (j := (Int32.toNatClampNeg a2)) rfl h1 rfl dX3_judgeQuestion_171 fun σ33 eσ33 => ?_
    replace hr := vthen_inv hr σ33 eσ33
    have hσ33 := wtI eσ33 hσ15
    exact r_pick (ls1 := [(0, .ref (ad g 31)), (1, .ref (ad g a1)), (2, .int a2), (3, .int v2), (4, .int v3), (5, .int (0 : Int32))]) [0, 1, 2, 3, 4, 5] rfl (hj172 (0 : Int32) σ33 hr hσ33)
  refine r_icmp_lt (pc := 163) (tgt := 170) dX3_judgeQuestion_163 rfl (fun hc => ?_) (fun hc => ?_)
  · replace hr := ite_t hc hr
    refine r_iconst (pc := 170) (v := (0 : Int32)) dX3_judgeQuestion_170 rfl ?_
    exact r_pick (ls1 := [(0, .ref (ad g 31)), (1, .ref (ad g a1)), (2, .int a2), (3, .int v2), (4, .int v3), (5, .int (0 : Int32))]) [1, 2, 3, 4, 5, 0] rfl (hj171 (0 : Int32) hr)
  replace hr := ite_f hc hr
  refine r_iconst (pc := 166) (v := (1 : Int32)) dX3_judgeQuestion_166 rfl ?_
  refine r_goto (pc := 167) (tgt := 171) dX3_judgeQuestion_167 rfl ?_
  exact r_pick (ls1 := [(0, .ref (ad g 31)), (1, .ref (ad g a1)), (2, .int a2), (3, .int v2), (4, .int v3), (5, .int (0 : Int32))]) [1, 2, 3, 4, 5, 0] rfl (hj171 (1 : Int32) hr)

theorem kX3_judgeQuestion {g : GG} {σ : SS} {a1 : Nat} {a2 : Int32} {σ2 : SS} {M : MM} {F : State → Array Value → List Frame → State → Prop} {pc index : Nat} {ls : List (Nat × Value)} {rest : List Value} (hf : fX3_judgeQuestion σ a1 a2 = some σ2) (hs1 : shp a1 = (1, 0)) (hl : Cond.methodLink M.1.cls index yX3_judgeQuestion ∈ lw_gt) (hR : mX3_judgeQuestion.2.2.2.2.frames + 1 ≤ M.2.2.2.2.frames ∧ 8 + (mX3_judgeQuestion.2.2.1 + 11) + mX3_judgeQuestion.2.2.2.2.locals ≤ M.2.2.2.2.locals) (hrest : (rest.map fun v => v.category).sum ≤ 8) (hd : decode M.2.1 pc = .ok (.invokevirtual index, 3)) (k : WT σ2 → RR g M F zF (pc + 3) ls rest σ2) : RR g M F zF pc ls (.int a2 :: .ref (ad g a1) :: .ref (ad g 31) :: rest) σ :=
  r_callV (z := zF) (N := mX3_judgeQuestion) (nn := 2) (o1 := none) (sX3_judgeQuestion hf hs1) (rfl : shp 31 = (3, 0)) (by decide) (shp_le (rfl : shp 31 = (3, 0)) (nle rfl)) (ci := 3) rfl rfl tw_4_143 tw_1_5 hl tw_4_142 tp_28 ⟨by decide, by decide, rfl⟩ hR rfl hrest hd ⟨Nat.zero_le _, Nat.zero_le _⟩ rfl (fun h => k (h rfl))

theorem dX3_gainOf_0 : decode cX3_gainOf 0 = .ok (.aload_n 1, 1) := by decide +kernel
theorem dX3_gainOf_1 : decode cX3_gainOf 1 = .ok (.getfield 164, 3) := by decide +kernel
theorem dX3_gainOf_4 : decode cX3_gainOf 4 = .ok (.iload_n 2, 1) := by decide +kernel
theorem dX3_gainOf_5 : decode cX3_gainOf 5 = .ok (.iaload, 1) := by decide +kernel
theorem dX3_gainOf_6 : decode cX3_gainOf 6 = .ok (.ifCond .eq 12, 3) := by decide +kernel
theorem dX3_gainOf_9 : decode cX3_gainOf 9 = .ok (.aload_n 0, 1) := by decide +kernel
theorem dX3_gainOf_10 : decode cX3_gainOf 10 = .ok (.getfield 41, 3) := by decide +kernel
theorem dX3_gainOf_13 : decode cX3_gainOf 13 = .ok (.iload_n 2, 1) := by decide +kernel
theorem dX3_gainOf_14 : decode cX3_gainOf 14 = .ok (.iaload, 1) := by decide +kernel
theorem dX3_gainOf_15 : decode cX3_gainOf 15 = .ok (.ifCond .eq 5, 3) := by decide +kernel
theorem dX3_gainOf_18 : decode cX3_gainOf 18 = .ok (.iconst 0, 1) := by decide +kernel
theorem dX3_gainOf_19 : decode cX3_gainOf 19 = .ok (.ireturn, 1) := by decide +kernel
theorem dX3_gainOf_20 : decode cX3_gainOf 20 = .ok (.aload_n 0, 1) := by decide +kernel
theorem dX3_gainOf_21 : decode cX3_gainOf 21 = .ok (.getfield 38, 3) := by decide +kernel
theorem dX3_gainOf_24 : decode cX3_gainOf 24 = .ok (.iload_n 2, 1) := by decide +kernel
theorem dX3_gainOf_25 : decode cX3_gainOf 25 = .ok (.iaload, 1) := by decide +kernel
theorem dX3_gainOf_26 : decode cX3_gainOf 26 = .ok (.aload_n 1, 1) := by decide +kernel
theorem dX3_gainOf_27 : decode cX3_gainOf 27 = .ok (.getfield 164, 3) := by decide +kernel
theorem dX3_gainOf_30 : decode cX3_gainOf 30 = .ok (.iload_n 2, 1) := by decide +kernel
theorem dX3_gainOf_31 : decode cX3_gainOf 31 = .ok (.iaload, 1) := by decide +kernel
theorem dX3_gainOf_32 : decode cX3_gainOf 32 = .ok (.if_icmp .ne 10, 3) := by decide +kernel
theorem dX3_gainOf_35 : decode cX3_gainOf 35 = .ok (.aload_n 1, 1) := by decide +kernel
theorem dX3_gainOf_36 : decode cX3_gainOf 36 = .ok (.getfield 167, 3) := by decide +kernel
theorem dX3_gainOf_39 : decode cX3_gainOf 39 = .ok (.iload_n 2, 1) := by decide +kernel
theorem dX3_gainOf_40 : decode cX3_gainOf 40 = .ok (.iaload, 1) := by decide +kernel
theorem dX3_gainOf_41 : decode cX3_gainOf 41 = .ok (.ireturn, 1) := by decide +kernel
theorem dX3_gainOf_42 : decode cX3_gainOf 42 = .ok (.aload_n 0, 1) := by decide +kernel
theorem dX3_gainOf_43 : decode cX3_gainOf 43 = .ok (.getfield 38, 3) := by decide +kernel
theorem dX3_gainOf_46 : decode cX3_gainOf 46 = .ok (.iload_n 2, 1) := by decide +kernel
theorem dX3_gainOf_47 : decode cX3_gainOf 47 = .ok (.iaload, 1) := by decide +kernel
theorem dX3_gainOf_48 : decode cX3_gainOf 48 = .ok (.ifCond .ne 7, 3) := by decide +kernel
theorem dX3_gainOf_51 : decode cX3_gainOf 51 = .ok (.iconst 0, 1) := by decide +kernel
theorem dX3_gainOf_52 : decode cX3_gainOf 52 = .ok (.goto 11, 3) := by decide +kernel
theorem dX3_gainOf_55 : decode cX3_gainOf 55 = .ok (.aload_n 0, 1) := by decide +kernel
theorem dX3_gainOf_56 : decode cX3_gainOf 56 = .ok (.getfield 9, 3) := by decide +kernel
theorem dX3_gainOf_59 : decode cX3_gainOf 59 = .ok (.bipush 6, 2) := by decide +kernel
theorem dX3_gainOf_61 : decode cX3_gainOf 61 = .ok (.iaload, 1) := by decide +kernel
theorem dX3_gainOf_62 : decode cX3_gainOf 62 = .ok (.ineg, 1) := by decide +kernel
theorem dX3_gainOf_63 : decode cX3_gainOf 63 = .ok (.ireturn, 1) := by decide +kernel
def mX3_gainOf : MM := (yX3_gainOf, cX3_gainOf, 3, Option.some Jvm.ClassFile.FieldType.int, { frames := 0, cells := 0, slots := 0, locals := 0 })
def fX3_gainOf (σ0 : SS) (a1 : Nat) (a2 : Int32) : Option Int32 :=
  grd (inb a2 12) <|
  if (gI σ0 (a1 + 4) (Int32.toNatClampNeg a2)) = 0 then (
    some (0 : Int32)
    ) else (
    if (gI σ0 54 (Int32.toNatClampNeg a2)) = 0 then (
      if (gI σ0 53 (Int32.toNatClampNeg a2)) = (gI σ0 (a1 + 4) (Int32.toNatClampNeg a2)) then (
        some (gI σ0 (a1 + 5) (Int32.toNatClampNeg a2))
        ) else (
        if (gI σ0 53 (Int32.toNatClampNeg a2)) = 0 then (
          some (0 : Int32)
          ) else (
          some (-(gI σ0 32 6))
          )
        )
      ) else (
      some (0 : Int32)
      )
    )

set_option maxRecDepth 20000 in
theorem sX3_gainOf {g : GG} {σ0 : SS} {a1 : Nat} {a2 : Int32} {r : Int32} (hr : fX3_gainOf σ0 a1 a2 = some r) (hs1 : shp a1 = (1, 0)) : Ct g mX3_gainOf [.ref (ad g 31), .ref (ad g a1), .int a2] NF σ0 (some (.int r)) NF σ0 := by
  refine Ct.of (by decide +kernel) (nle rfl) fun hw0 => ?_
  have hw := hw0 rfl
  unfold fX3_gainOf at hr
  change RR g mX3_gainOf (FinR g mX3_gainOf (some (.int r)) NF σ0) zF 0 [(0, .ref (ad g 31)), (1, .ref (ad g a1)), (2, .int a2)] [] σ0
  refine r_aload_n (pc := 0) (j := 1) dX3_gainOf_0 rfl rfl ?_
  refine gf1_10 (pc := 1) tw_1_99 hw hs1 dX3_gainOf_1 ?_
  refine r_iload_n (pc := 4) (j := 2) dX3_gainOf_4 rfl rfl ?_
  obtain ⟨h1, hr⟩ := grd_inv hr
  refine x_iald (pc := 5) (k := (Int32.toNatClampNeg a2)) (sh1_10 hs1) h1 rfl dX3_gainOf_5 ?_
  refine r_if_eq (pc := 6) (tgt := 18) dX3_gainOf_6 rfl (fun hc => ?_) (fun hc => ?_)
  · replace hr := ite_t hc hr
    refine r_iconst (pc := 18) (v := (0 : Int32)) dX3_gainOf_18 rfl ?_
    exact l_opi hr (r_iret (pc := 19) (v := (0 : Int32)) rfl rfl ⟨Nat.le_refl _, Nat.le_refl _⟩ dX3_gainOf_19)
  replace hr := ite_f hc hr
  refine r_aload_n (pc := 9) (j := 0) dX3_gainOf_9 rfl rfl ?_
  refine gf3_8 (pc := 10) tw_2_38 hw dX3_gainOf_10 ?_
  refine r_iload_n (pc := 13) (j := 2) dX3_gainOf_13 rfl rfl ?_
  refine x_iald (pc := 14) (k := (Int32.toNatClampNeg a2)) rfl h1 rfl dX3_gainOf_14 ?_
  refine r_if_eq (pc := 15) (tgt := 20) dX3_gainOf_15 rfl (fun hc => ?_) (fun hc => ?_)
  · replace hr := ite_t hc hr
    refine r_aload_n (pc := 20) (j := 0) dX3_gainOf_20 rfl rfl ?_
    refine gf3_7 (pc := 21) tw_2_35 hw dX3_gainOf_21 ?_
    refine r_iload_n (pc := 24) (j := 2) dX3_gainOf_24 rfl rfl ?_
    refine x_iald (pc := 25) (k := (Int32.toNatClampNeg a2)) rfl h1 rfl dX3_gainOf_25 ?_
    refine r_aload_n (pc := 26) (j := 1) dX3_gainOf_26 rfl rfl ?_
    refine gf1_10 (pc := 27) tw_1_99 hw hs1 dX3_gainOf_27 ?_
    refine r_iload_n (pc := 30) (j := 2) dX3_gainOf_30 rfl rfl ?_
    refine x_iald (pc := 31) (k := (Int32.toNatClampNeg a2)) (sh1_10 hs1) h1 rfl dX3_gainOf_31 ?_
    refine r_icmp_ne (pc := 32) (tgt := 42) dX3_gainOf_32 rfl (fun hc => ?_) (fun hc => ?_)
    · replace hr := ite_f hc hr
      refine r_aload_n (pc := 42) (j := 0) dX3_gainOf_42 rfl rfl ?_
      refine gf3_7 (pc := 43) tw_2_35 hw dX3_gainOf_43 ?_
      refine r_iload_n (pc := 46) (j := 2) dX3_gainOf_46 rfl rfl ?_
      refine x_iald (pc := 47) (k := (Int32.toNatClampNeg a2)) rfl h1 rfl dX3_gainOf_47 ?_
      refine r_if_ne (pc := 48) (tgt := 55) dX3_gainOf_48 rfl (fun hc => ?_) (fun hc => ?_)
      · replace hr := ite_f hc hr
        refine r_aload_n (pc := 55) (j := 0) dX3_gainOf_55 rfl rfl ?_
        refine gf3_0 (pc := 56) tw_2_22 hw dX3_gainOf_56 ?_
        refine r_bipush (pc := 59) (v := (6 : Int32)) dX3_gainOf_59 rfl ?_
        refine x_iald (pc := 61) (k := 6) rfl (by decide) rfl dX3_gainOf_61 ?_
        refine r_ineg (pc := 62) dX3_gainOf_62 ?_
        exact l_opi hr (r_iret (pc := 63) (v := (-(gI σ0 32 6))) rfl rfl ⟨Nat.le_refl _, Nat.le_refl _⟩ dX3_gainOf_63)
      replace hr := ite_t hc hr
      refine r_iconst (pc := 51) (v := (0 : Int32)) dX3_gainOf_51 rfl ?_
      refine r_goto (pc := 52) (tgt := 63) dX3_gainOf_52 rfl ?_
      exact l_opi hr (r_iret (pc := 63) (v := (0 : Int32)) rfl rfl ⟨Nat.le_refl _, Nat.le_refl _⟩ dX3_gainOf_63)
    replace hr := ite_t hc hr
    refine r_aload_n (pc := 35) (j := 1) dX3_gainOf_35 rfl rfl ?_
    refine gf1_11 (pc := 36) tw_1_103 hw hs1 dX3_gainOf_36 ?_
    refine r_iload_n (pc := 39) (j := 2) dX3_gainOf_39 rfl rfl ?_
    refine x_iald (pc := 40) (k := (Int32.toNatClampNeg a2)) (sh1_11 hs1) h1 rfl dX3_gainOf_40 ?_
    exact l_opi hr (r_iret (pc := 41) (v := (gI σ0 (a1 + 5) (Int32.toNatClampNeg a2))) rfl rfl ⟨Nat.le_refl _, Nat.le_refl _⟩ dX3_gainOf_41)
  replace hr := ite_f hc hr
  refine r_iconst (pc := 18) (v := (0 : Int32)) dX3_gainOf_18 rfl ?_
  exact l_opi hr (r_iret (pc := 19) (v := (0 : Int32)) rfl rfl ⟨Nat.le_refl _, Nat.le_refl _⟩ dX3_gainOf_19)

theorem kX3_gainOf {g : GG} {σ0 : SS} {a1 : Nat} {a2 : Int32} {v : Int32} {M : MM} {F : State → Array Value → List Frame → State → Prop} {pc index : Nat} {ls : List (Nat × Value)} {rest : List Value} (hf : fX3_gainOf σ0 a1 a2 = some v) (hs1 : shp a1 = (1, 0)) (hl : Cond.methodLink M.1.cls index yX3_gainOf ∈ lw_gt) (hR : mX3_gainOf.2.2.2.2.frames + 1 ≤ M.2.2.2.2.frames ∧ 8 + (mX3_gainOf.2.2.1 + 11) + mX3_gainOf.2.2.2.2.locals ≤ M.2.2.2.2.locals) (hrest : (rest.map fun v => v.category).sum ≤ 8) (hd : decode M.2.1 pc = .ok (.invokevirtual index, 3)) (k : RR g M F zF (pc + 3) ls (.int v :: rest) σ0) : RR g M F zF pc ls (.int a2 :: .ref (ad g a1) :: .ref (ad g 31) :: rest) σ0 :=
  r_callV (z := zF) (N := mX3_gainOf) (nn := 2) (o1 := some (.int v)) (sX3_gainOf hf hs1) (rfl : shp 31 = (3, 0)) (by decide) (shp_le (rfl : shp 31 = (3, 0)) (nle rfl)) (ci := 3) rfl rfl tw_4_151 tw_1_5 hl tw_4_150 tp_30 ⟨by decide, by decide, rfl⟩ hR rfl hrest hd ⟨Nat.zero_le _, Nat.zero_le _⟩ rfl (fun h => k)

theorem dX3_read_0 : decode cX3_read 0 = .ok (.aload_n 0, 1) := by decide +kernel
theorem dX3_read_1 : decode cX3_read 1 = .ok (.aload_n 1, 1) := by decide +kernel
theorem dX3_read_2 : decode cX3_read 2 = .ok (.aload_n 2, 1) := by decide +kernel
theorem dX3_read_3 : decode cX3_read 3 = .ok (.invokevirtual 136, 3) := by decide +kernel
theorem dX3_read_6 : decode cX3_read 6 = .ok (.ifCond .ne 5, 3) := by decide +kernel
theorem dX3_read_9 : decode cX3_read 9 = .ok (.iconst 0, 1) := by decide +kernel
theorem dX3_read_10 : decode cX3_read 10 = .ok (.ireturn, 1) := by decide +kernel
theorem dX3_read_11 : decode cX3_read 11 = .ok (.iconst 0, 1) := by decide +kernel
theorem dX3_read_12 : decode cX3_read 12 = .ok (.istore_n 3, 1) := by decide +kernel
theorem dX3_read_13 : decode cX3_read 13 = .ok (.iload_n 3, 1) := by decide +kernel
theorem dX3_read_14 : decode cX3_read 14 = .ok (.aload_n 2, 1) := by decide +kernel
theorem dX3_read_15 : decode cX3_read 15 = .ok (.getfield 140, 3) := by decide +kernel
theorem dX3_read_18 : decode cX3_read 18 = .ok (.if_icmp .ge 27, 3) := by decide +kernel
theorem dX3_read_21 : decode cX3_read 21 = .ok (.aload_n 0, 1) := by decide +kernel
theorem dX3_read_22 : decode cX3_read 22 = .ok (.aload_n 2, 1) := by decide +kernel
theorem dX3_read_23 : decode cX3_read 23 = .ok (.iload_n 3, 1) := by decide +kernel
theorem dX3_read_24 : decode cX3_read 24 = .ok (.invokevirtual 143, 3) := by decide +kernel
theorem dX3_read_27 : decode cX3_read 27 = .ok (.aload_n 0, 1) := by decide +kernel
theorem dX3_read_28 : decode cX3_read 28 = .ok (.getfield 50, 3) := by decide +kernel
theorem dX3_read_31 : decode cX3_read 31 = .ok (.iload_n 3, 1) := by decide +kernel
theorem dX3_read_32 : decode cX3_read 32 = .ok (.aload_n 0, 1) := by decide +kernel
theorem dX3_read_33 : decode cX3_read 33 = .ok (.aload_n 2, 1) := by decide +kernel
theorem dX3_read_34 : decode cX3_read 34 = .ok (.iload_n 3, 1) := by decide +kernel
theorem dX3_read_35 : decode cX3_read 35 = .ok (.invokevirtual 147, 3) := by decide +kernel
theorem dX3_read_38 : decode cX3_read 38 = .ok (.iastore, 1) := by decide +kernel
theorem dX3_read_39 : decode cX3_read 39 = .ok (.iinc 3 1, 3) := by decide +kernel
theorem dX3_read_42 : decode cX3_read 42 = .ok (.goto (-29), 3) := by decide +kernel
theorem dX3_read_45 : decode cX3_read 45 = .ok (.iconst 1, 1) := by decide +kernel
theorem dX3_read_46 : decode cX3_read 46 = .ok (.ireturn, 1) := by decide +kernel
def mX3_read : MM := (yX3_read, cX3_read, 4, Option.some Jvm.ClassFile.FieldType.boolean, { frames := 5, cells := 0, slots := 0, locals := 125 })
def X3_read_L13 (o2_ : Nat)  : Nat → Int32 → SS → Option (Bool × SS) :=
  lp (fun _ _ => none) fun rec v3_ σ_ =>
    if (gI σ_ o2_ 5) ≤ v3_ then (
      some (true, σ_)
      ) else (
      bnd1 (fX3_judgeQuestion σ_ o2_ v3_) fun σ5 =>
      bnd1 (fX3_gainOf σ5 o2_ v3_) fun v6 =>
      grd (inb v3_ 12) <|
      vthen (sI σ5 57 (Int32.toNatClampNeg v3_) v6) fun σ10 =>
      rec (v3_ + (1 : Int32)) σ10
      )

def fX3_read (σ : SS) (a1 : Nat) (a2 : Nat) : Option (Bool × SS) :=
  bnd (fX3_measure σ a1 a2) fun b2 σ4 =>
  if b2 = true then (
    X3_read_L13 a2
    fuel (0 : Int32) σ4
    ) else (
    some (false, σ4)
    )

set_option maxRecDepth 20000 in
theorem sX3_read_L13 {g : GG} {r : Bool × SS} {o2_ : Nat}  (hs2_ : shp o2_ = (1, 0))
    (n : Nat) : ∀ (v3_ : Int32) (σ_ : SS), X3_read_L13 o2_ n v3_ σ_ = some r → WT σ_ → RR g mX3_read (FinR g mX3_read (some (.int (b2i r.1))) NF r.2) zF 13 [(0, .ref (ad g 31)), (2, .ref (ad g o2_)), (3, .int v3_)] [] σ_ := by
  unfold X3_read_L13
  refine lp_ind (P := fun (rec : Int32 → SS → Option (Bool × SS)) => ∀ (v3_ : Int32) (σ_ : SS), rec v3_ σ_ = some r → WT σ_ → RR g mX3_read (FinR g mX3_read (some (.int (b2i r.1))) NF r.2) zF 13 [(0, .ref (ad g 31)), (2, .ref (ad g o2_)), (3, .int v3_)] [] σ_) ?_ ?_ n
  · intro v3_ σ_ hr; cases hr
  intro rec ih v3_ σ_ hr hw_
  refine r_iload_n (pc := 13) (j := 2) dX3_read_13 rfl rfl ?_
  refine r_aload_n (pc := 14) (j := 1) dX3_read_14 rfl rfl ?_
  refine gf1_5 (pc := 15) tw_1_81 hs2_ dX3_read_15 ?_
  refine r_icmp_ge (pc := 18) (tgt := 45) dX3_read_18 rfl (fun hc => ?_) (fun hc => ?_)
  · replace hr := ite_t hc hr
    refine r_iconst (pc := 45) (v := (1 : Int32)) dX3_read_45 rfl ?_
    exact l_osz hr (r_zret (pc := 46) (v := b2i true) (ty := .boolean) rfl (b2i_nar _) rfl ⟨Nat.le_refl _, Nat.le_refl _⟩ dX3_read_46)
  replace hr := ite_f hc hr
  refine r_aload_n (pc := 21) (j := 0) dX3_read_21 rfl rfl ?_
  refine r_aload_n (pc := 22) (j := 1) dX3_read_22 rfl rfl ?_
  refine r_iload_n (pc := 23) (j := 2) dX3_read_23 rfl rfl ?_
  obtain ⟨σ5, eσ5, hr⟩ := bnd1_inv hr
  refine kX3_judgeQuestion (pc := 24) eσ5 hs2_ tw_4_140 ⟨nle rfl, nle rfl⟩ (nle rfl) dX3_read_24 fun hσ5 => ?_
  refine r_aload_n (pc := 27) (j := 0) dX3_read_27 rfl rfl ?_
  refine gf3_11 (pc := 28) tw_2_45 hσ5 dX3_read_28 ?_
  refine r_iload_n (pc := 31) (j := 2) dX3_read_31 rfl rfl ?_
  refine r_aload_n (pc := 32) (j := 0) dX3_read_32 rfl rfl ?_
  refine r_aload_n (pc := 33) (j := 1) dX3_read_33 rfl rfl ?_
  refine r_iload_n (pc := 34) (j := 2) dX3_read_34 rfl rfl ?_
  obtain ⟨v6, hv6, hr⟩ := bnd1_inv hr
  refine kX3_gainOf (pc := 35) hv6 hs2_ tw_4_148 ⟨nle rfl, nle rfl⟩ (nle rfl) dX3_read_35 ?_
  obtain ⟨h9, hr⟩ := grd_inv hr
  refine x_iast (pc := 38) (j := (Int32.toNatClampNeg v3_)) rfl h9 rfl dX3_read_38 fun σ10 eσ10 => ?_
  replace hr := vthen_inv hr σ10 eσ10
  have hσ10 := wtI eσ10 hσ5
  refine r_iinc (pc := 39) (j := 2) (v := (v3_ + (1 : Int32))) (ls1 := [(3, .int (v3_ + (1 : Int32))), (0, .ref (ad g 31)), (2, .ref (ad g o2_))]) dX3_read_39 rfl rfl (nle rfl) rfl ?_
  refine r_goto (pc := 42) (tgt := 13) dX3_read_42 rfl ?_
  exact r_pick (ls1 := [(0, .ref (ad g 31)), (2, .ref (ad g o2_)), (3, .int (v3_ + (1 : Int32)))]) [1, 2, 0] rfl (ih (v3_ + (1 : Int32)) σ10 hr hσ10)

set_option maxRecDepth 20000 in
theorem sX3_read {g : GG} {σ : SS} {a1 : Nat} {a2 : Nat} {r : Bool × SS} (hr : fX3_read σ a1 a2 = some r) (hs1 : shp a1 = (6, 0)) (hs2 : shp a2 = (1, 0)) : Ct g mX3_read [.ref (ad g 31), .ref (ad g a1), .ref (ad g a2)] NF σ (some (.int (b2i r.1))) NF r.2 := by
  refine Ct.of (by decide +kernel) (nle rfl) fun hw0 => ?_
  have hw := hw0 rfl
  unfold fX3_read at hr
  change RR g mX3_read (FinR g mX3_read (some (.int (b2i r.1))) NF r.2) zF 0 [(0, .ref (ad g 31)), (1, .ref (ad g a1)), (2, .ref (ad g a2))] [] σ
  refine r_aload_n (pc := 0) (j := 0) dX3_read_0 rfl rfl ?_
  refine r_aload_n (pc := 1) (j := 1) dX3_read_1 rfl rfl ?_
  refine r_aload_n (pc := 2) (j := 2) dX3_read_2 rfl rfl ?_
  obtain ⟨b2, σ4, eσ4, hr⟩ := bnd_inv hr
  refine kX3_measure (pc := 3) eσ4 hs1 hs2 tw_4_139 ⟨nle rfl, nle rfl⟩ (nle rfl) dX3_read_3 fun hσ4 => ?_
  refine r_ifB_ne (pc := 6) (tgt := 11) dX3_read_6 rfl (fun hc => ?_) (fun hc => ?_)
  · replace hr := ite_t hc hr
    refine r_iconst (pc := 11) (v := (0 : Int32)) dX3_read_11 rfl ?_
    refine r_istore_n (pc := 12) (ls1 := [(3, .int (0 : Int32)), (0, .ref (ad g 31)), (1, .ref (ad g a1)), (2, .ref (ad g a2))]) dX3_read_12 rfl (nle rfl) rfl ?_
    refine r_pick (ls1 := [(0, .ref (ad g 31)), (2, .ref (ad g a2)), (3, .int (0 : Int32))]) [1, 3, 0] rfl ?_
    refine sX3_read_L13 hs2    fuel (0 : Int32) σ4 hr hσ4
  replace hr := ite_f hc hr
  refine r_iconst (pc := 9) (v := (0 : Int32)) dX3_read_9 rfl ?_
  exact l_osz hr (r_zret (pc := 10) (v := b2i false) (ty := .boolean) rfl (b2i_nar _) rfl ⟨Nat.le_refl _, Nat.le_refl _⟩ dX3_read_10)

theorem kX3_read {g : GG} {σ : SS} {a1 : Nat} {a2 : Nat} {v : Bool} {σ2 : SS} {M : MM} {F : State → Array Value → List Frame → State → Prop} {pc index : Nat} {ls : List (Nat × Value)} {rest : List Value} (hf : fX3_read σ a1 a2 = some (v, σ2)) (hs1 : shp a1 = (6, 0)) (hs2 : shp a2 = (1, 0)) (hl : Cond.methodLink M.1.cls index yX3_read ∈ lw_gt) (hR : mX3_read.2.2.2.2.frames + 1 ≤ M.2.2.2.2.frames ∧ 8 + (mX3_read.2.2.1 + 11) + mX3_read.2.2.2.2.locals ≤ M.2.2.2.2.locals) (hrest : (rest.map fun v => v.category).sum ≤ 8) (hd : decode M.2.1 pc = .ok (.invokevirtual index, 3)) (k : WT σ2 → RR g M F zF (pc + 3) ls (.int (b2i v) :: rest) σ2) : RR g M F zF pc ls (.ref (ad g a2) :: .ref (ad g a1) :: .ref (ad g 31) :: rest) σ :=
  r_callV (z := zF) (N := mX3_read) (nn := 2) (o1 := some (.int (b2i v))) (sX3_read hf hs1 hs2) (rfl : shp 31 = (3, 0)) (by decide) (shp_le (rfl : shp 31 = (3, 0)) (nle rfl)) (ci := 3) rfl rfl tw_4_138 tw_1_5 hl tw_4_136 tw_4_137 ⟨by decide, by decide, rfl⟩ hR rfl hrest hd ⟨Nat.zero_le _, Nat.zero_le _⟩ rfl (fun h => k (h rfl))

theorem dX7_judged_0 : decode cX7_judged 0 = .ok (.aload_n 0, 1) := by decide +kernel
theorem dX7_judged_1 : decode cX7_judged 1 = .ok (.getfield 32, 3) := by decide +kernel
theorem dX7_judged_4 : decode cX7_judged 4 = .ok (.iload_n 1, 1) := by decide +kernel
theorem dX7_judged_5 : decode cX7_judged 5 = .ok (.invokevirtual 121, 3) := by decide +kernel
theorem dX7_judged_8 : decode cX7_judged 8 = .ok (.ifCond .eq 12, 3) := by decide +kernel
theorem dX7_judged_11 : decode cX7_judged 11 = .ok (.iload_n 2, 1) := by decide +kernel
theorem dX7_judged_12 : decode cX7_judged 12 = .ok (.ifCond .lt 8, 3) := by decide +kernel
theorem dX7_judged_15 : decode cX7_judged 15 = .ok (.iload_n 2, 1) := by decide +kernel
theorem dX7_judged_16 : decode cX7_judged 16 = .ok (.iconst 4, 1) := by decide +kernel
theorem dX7_judged_17 : decode cX7_judged 17 = .ok (.if_icmp .le 7, 3) := by decide +kernel
theorem dX7_judged_20 : decode cX7_judged 20 = .ok (.ldc_w 302, 3) := by decide +kernel
theorem dX7_judged_23 : decode cX7_judged 23 = .ok (.ireturn, 1) := by decide +kernel
theorem dX7_judged_24 : decode cX7_judged 24 = .ok (.aload_n 0, 1) := by decide +kernel
theorem dX7_judged_25 : decode cX7_judged 25 = .ok (.getfield 62, 3) := by decide +kernel
theorem dX7_judged_28 : decode cX7_judged 28 = .ok (.aload_n 0, 1) := by decide +kernel
theorem dX7_judged_29 : decode cX7_judged 29 = .ok (.getfield 18, 3) := by decide +kernel
theorem dX7_judged_32 : decode cX7_judged 32 = .ok (.aload_n 0, 1) := by decide +kernel
theorem dX7_judged_33 : decode cX7_judged 33 = .ok (.getfield 32, 3) := by decide +kernel
theorem dX7_judged_36 : decode cX7_judged 36 = .ok (.invokevirtual 303, 3) := by decide +kernel
theorem dX7_judged_39 : decode cX7_judged 39 = .ok (.ifCond .ne 7, 3) := by decide +kernel
theorem dX7_judged_42 : decode cX7_judged 42 = .ok (.sipush (-1000), 3) := by decide +kernel
theorem dX7_judged_45 : decode cX7_judged 45 = .ok (.ireturn, 1) := by decide +kernel
theorem dX7_judged_46 : decode cX7_judged 46 = .ok (.iload_n 2, 1) := by decide +kernel
theorem dX7_judged_47 : decode cX7_judged 47 = .ok (.tableswitch 69 0 3 #[29, 39, 49, 59], 29) := by decide +kernel
theorem dX7_judged_76 : decode cX7_judged 76 = .ok (.aload_n 0, 1) := by decide +kernel
theorem dX7_judged_77 : decode cX7_judged 77 = .ok (.getfield 62, 3) := by decide +kernel
theorem dX7_judged_80 : decode cX7_judged 80 = .ok (.getfield 305, 3) := by decide +kernel
theorem dX7_judged_83 : decode cX7_judged 83 = .ok (.iload_n 1, 1) := by decide +kernel
theorem dX7_judged_84 : decode cX7_judged 84 = .ok (.iaload, 1) := by decide +kernel
theorem dX7_judged_85 : decode cX7_judged 85 = .ok (.ireturn, 1) := by decide +kernel
theorem dX7_judged_86 : decode cX7_judged 86 = .ok (.aload_n 0, 1) := by decide +kernel
theorem dX7_judged_87 : decode cX7_judged 87 = .ok (.getfield 62, 3) := by decide +kernel
theorem dX7_judged_90 : decode cX7_judged 90 = .ok (.getfield 308, 3) := by decide +kernel
theorem dX7_judged_93 : decode cX7_judged 93 = .ok (.iload_n 1, 1) := by decide +kernel
theorem dX7_judged_94 : decode cX7_judged 94 = .ok (.iaload, 1) := by decide +kernel
theorem dX7_judged_95 : decode cX7_judged 95 = .ok (.ireturn, 1) := by decide +kernel
theorem dX7_judged_96 : decode cX7_judged 96 = .ok (.aload_n 0, 1) := by decide +kernel
theorem dX7_judged_97 : decode cX7_judged 97 = .ok (.getfield 62, 3) := by decide +kernel
theorem dX7_judged_100 : decode cX7_judged 100 = .ok (.getfield 311, 3) := by decide +kernel
theorem dX7_judged_103 : decode cX7_judged 103 = .ok (.iload_n 1, 1) := by decide +kernel
theorem dX7_judged_104 : decode cX7_judged 104 = .ok (.iaload, 1) := by decide +kernel
theorem dX7_judged_105 : decode cX7_judged 105 = .ok (.ireturn, 1) := by decide +kernel
theorem dX7_judged_106 : decode cX7_judged 106 = .ok (.aload_n 0, 1) := by decide +kernel
theorem dX7_judged_107 : decode cX7_judged 107 = .ok (.getfield 62, 3) := by decide +kernel
theorem dX7_judged_110 : decode cX7_judged 110 = .ok (.getfield 314, 3) := by decide +kernel
theorem dX7_judged_113 : decode cX7_judged 113 = .ok (.iload_n 1, 1) := by decide +kernel
theorem dX7_judged_114 : decode cX7_judged 114 = .ok (.iaload, 1) := by decide +kernel
theorem dX7_judged_115 : decode cX7_judged 115 = .ok (.ireturn, 1) := by decide +kernel
theorem dX7_judged_116 : decode cX7_judged 116 = .ok (.aload_n 0, 1) := by decide +kernel
theorem dX7_judged_117 : decode cX7_judged 117 = .ok (.getfield 62, 3) := by decide +kernel
theorem dX7_judged_120 : decode cX7_judged 120 = .ok (.getfield 317, 3) := by decide +kernel
theorem dX7_judged_123 : decode cX7_judged 123 = .ok (.iload_n 1, 1) := by decide +kernel
theorem dX7_judged_124 : decode cX7_judged 124 = .ok (.iaload, 1) := by decide +kernel
theorem dX7_judged_125 : decode cX7_judged 125 = .ok (.ireturn, 1) := by decide +kernel
def mX7_judged : MM := (yX7_judged, cX7_judged, 3, Option.some Jvm.ClassFile.FieldType.int, { frames := 6, cells := 0, slots := 0, locals := 148 })
def fX7_judged (σ : SS) (a1 : Int32) (a2 : Int32) : Option (Int32 × SS) :=
  if (fX1_hasQuestion σ (gR σ 1 5) a1) = true then (
    if a2 < 0 then (
      some ((-2147483648 : Int32), σ)
      ) else (
      if a2 ≤ (4 : Int32) then (
        bnd (fX3_read σ (gR σ 1 2) (gR σ 1 5)) fun b2 σ4 =>
        if b2 = true then (
          if a2 = (0 : Int32) then (
            grd (inb a1 12) <|
            some ((gI σ4 53 (Int32.toNatClampNeg a1)), σ4)
            ) else
          if a2 = (1 : Int32) then (
            grd (inb a1 12) <|
            some ((gI σ4 54 (Int32.toNatClampNeg a1)), σ4)
            ) else
          if a2 = (2 : Int32) then (
            grd (inb a1 12) <|
            some ((gI σ4 55 (Int32.toNatClampNeg a1)), σ4)
            ) else
          if a2 = (3 : Int32) then (
            grd (inb a1 12) <|
            some ((gI σ4 56 (Int32.toNatClampNeg a1)), σ4)
            ) else
          grd (inb a1 12) <|
          some ((gI σ4 57 (Int32.toNatClampNeg a1)), σ4)
          ) else (
          some ((-1000 : Int32), σ4)
          )
        ) else (
        some ((-2147483648 : Int32), σ)
        )
      )
    ) else (
    some ((-2147483648 : Int32), σ)
    )

set_option maxRecDepth 20000 in
theorem sX7_judged {g : GG} {σ : SS} {a1 : Int32} {a2 : Int32} {r : Int32 × SS} (hr : fX7_judged σ a1 a2 = some r)  : Ct g mX7_judged [.ref (ad g 1), .int a1, .int a2] NF σ (some (.int r.1)) NF r.2 := by
  refine Ct.of (by decide +kernel) (nle rfl) fun hw0 => ?_
  have hw := hw0 rfl
  unfold fX7_judged at hr
  change RR g mX7_judged (FinR g mX7_judged (some (.int r.1)) NF r.2) zF 0 [(0, .ref (ad g 1)), (1, .int a1), (2, .int a2)] [] σ
  refine r_aload_n (pc := 0) (j := 0) dX7_judged_0 rfl rfl ?_
  refine gf7_5 (pc := 1) tw_2_114 hw dX7_judged_1 ?_
  refine r_iload_n (pc := 4) (j := 1) dX7_judged_4 rfl rfl ?_
  refine kX1_hasQuestion (pc := 5) (hf := rfl) (wt_fo hw).1 tw_3_87 ⟨nle rfl, nle rfl⟩ (nle rfl) dX7_judged_5 ?_
  refine r_ifB_eq (pc := 8) (tgt := 20) dX7_judged_8 rfl (fun hc => ?_) (fun hc => ?_)
  · replace hr := ite_f hc hr
    refine r_ldcw (pc := 20) (v := (-2147483648 : Int32)) dX7_judged_20 tw_4_134 ?_
    exact l_osi hr (r_iret (pc := 23) (v := (-2147483648 : Int32)) rfl rfl ⟨Nat.le_refl _, Nat.le_refl _⟩ dX7_judged_23)
  replace hr := ite_t hc hr
  refine r_iload_n (pc := 11) (j := 2) dX7_judged_11 rfl rfl ?_
  refine r_if_lt (pc := 12) (tgt := 20) dX7_judged_12 rfl (fun hc => ?_) (fun hc => ?_)
  · replace hr := ite_t hc hr
    refine r_ldcw (pc := 20) (v := (-2147483648 : Int32)) dX7_judged_20 tw_4_134 ?_
    exact l_osi hr (r_iret (pc := 23) (v := (-2147483648 : Int32)) rfl rfl ⟨Nat.le_refl _, Nat.le_refl _⟩ dX7_judged_23)
  replace hr := ite_f hc hr
  refine r_iload_n (pc := 15) (j := 2) dX7_judged_15 rfl rfl ?_
  refine r_iconst (pc := 16) (v := (4 : Int32)) dX7_judged_16 rfl ?_
  refine r_icmp_le (pc := 17) (tgt := 24) dX7_judged_17 rfl (fun hc => ?_) (fun hc => ?_)
  · replace hr := ite_t hc hr
    refine r_aload_n (pc := 24) (j := 0) dX7_judged_24 rfl rfl ?_
    refine gf7_12 (pc := 25) tw_2_121 hw dX7_judged_25 ?_
    refine r_aload_n (pc := 28) (j := 0) dX7_judged_28 rfl rfl ?_
    refine gf7_2 (pc := 29) tw_2_111 hw dX7_judged_29 ?_
    refine r_aload_n (pc := 32) (j := 0) dX7_judged_32 rfl rfl ?_
    refine gf7_5 (pc := 33) tw_2_114 hw dX7_judged_33 ?_
    obtain ⟨b2, σ4, eσ4, hr⟩ := bnd_inv hr
    refine kX3_read (pc := 36) eσ4 (wt_sc hw).1 (wt_fo hw).1 tw_4_135 ⟨nle rfl, nle rfl⟩ (nle rfl) dX7_judged_36 fun hσ4 => ?_
    refine r_ifB_ne (pc := 39) (tgt := 46) dX7_judged_39 rfl (fun hc => ?_) (fun hc => ?_)
    · replace hr := ite_t hc hr
      refine r_iload_n (pc := 46) (j := 2) dX7_judged_46 rfl rfl ?_
      by_cases hc0 : a2 = (0 : Int32)
      · replace hr := ite_t hc0 hr
        refine r_tabIn (pc := 47) (off := 29) (tgt := 76) dX7_judged_47 (by rw [hc0]; decide) (by rw [hc0]; decide) (by rw [hc0]; rfl) rfl ?_
        refine r_aload_n (pc := 76) (j := 0) dX7_judged_76 rfl rfl ?_
        refine gf7_12 (pc := 77) tw_2_121 hσ4 dX7_judged_77 ?_
        refine gf3_7 (pc := 80) tw_2_37 hσ4 dX7_judged_80 ?_
        refine r_iload_n (pc := 83) (j := 1) dX7_judged_83 rfl rfl ?_
        obtain ⟨h5, hr⟩ := grd_inv hr
        refine x_iald (pc := 84) (k := (Int32.toNatClampNeg a1)) rfl h5 rfl dX7_judged_84 ?_
        exact l_osi hr (r_iret (pc := 85) (v := (gI σ4 53 (Int32.toNatClampNeg a1))) rfl rfl ⟨Nat.le_refl _, Nat.le_refl _⟩ dX7_judged_85)
      replace hr := ite_f hc0 hr
      by_cases hc1 : a2 = (1 : Int32)
      · replace hr := ite_t hc1 hr
        refine r_tabIn (pc := 47) (off := 39) (tgt := 86) dX7_judged_47 (by rw [hc1]; decide) (by rw [hc1]; decide) (by rw [hc1]; rfl) rfl ?_
        refine r_aload_n (pc := 86) (j := 0) dX7_judged_86 rfl rfl ?_
        refine gf7_12 (pc := 87) tw_2_121 hσ4 dX7_judged_87 ?_
        refine gf3_8 (pc := 90) tw_2_40 hσ4 dX7_judged_90 ?_
        refine r_iload_n (pc := 93) (j := 1) dX7_judged_93 rfl rfl ?_
        obtain ⟨h6, hr⟩ := grd_inv hr
        refine x_iald (pc := 94) (k := (Int32.toNatClampNeg a1)) rfl h6 rfl dX7_judged_94 ?_
        exact l_osi hr (r_iret (pc := 95) (v := (gI σ4 54 (Int32.toNatClampNeg a1))) rfl rfl ⟨Nat.le_refl _, Nat.le_refl _⟩ dX7_judged_95)
      replace hr := ite_f hc1 hr
      by_cases hc2 : a2 = (2 : Int32)
      · replace hr := ite_t hc2 hr
        refine r_tabIn (pc := 47) (off := 49) (tgt := 96) dX7_judged_47 (by rw [hc2]; decide) (by rw [hc2]; decide) (by rw [hc2]; rfl) rfl ?_
        refine r_aload_n (pc := 96) (j := 0) dX7_judged_96 rfl rfl ?_
        refine gf7_12 (pc := 97) tw_2_121 hσ4 dX7_judged_97 ?_
        refine gf3_9 (pc := 100) tw_2_42 hσ4 dX7_judged_100 ?_
        refine r_iload_n (pc := 103) (j := 1) dX7_judged_103 rfl rfl ?_
        obtain ⟨h7, hr⟩ := grd_inv hr
        refine x_iald (pc := 104) (k := (Int32.toNatClampNeg a1)) rfl h7 rfl dX7_judged_104 ?_
        exact l_osi hr (r_iret (pc := 105) (v := (gI σ4 55 (Int32.toNatClampNeg a1))) rfl rfl ⟨Nat.le_refl _, Nat.le_refl _⟩ dX7_judged_105)
      replace hr := ite_f hc2 hr
      by_cases hc3 : a2 = (3 : Int32)
      · replace hr := ite_t hc3 hr
        refine r_tabIn (pc := 47) (off := 59) (tgt := 106) dX7_judged_47 (by rw [hc3]; decide) (by rw [hc3]; decide) (by rw [hc3]; rfl) rfl ?_
        refine r_aload_n (pc := 106) (j := 0) dX7_judged_106 rfl rfl ?_
        refine gf7_12 (pc := 107) tw_2_121 hσ4 dX7_judged_107 ?_
        refine gf3_10 (pc := 110) tw_2_44 hσ4 dX7_judged_110 ?_
        refine r_iload_n (pc := 113) (j := 1) dX7_judged_113 rfl rfl ?_
        obtain ⟨h8, hr⟩ := grd_inv hr
        refine x_iald (pc := 114) (k := (Int32.toNatClampNeg a1)) rfl h8 rfl dX7_judged_114 ?_
        exact l_osi hr (r_iret (pc := 115) (v := (gI σ4 56 (Int32.toNatClampNeg a1))) rfl rfl ⟨Nat.le_refl _, Nat.le_refl _⟩ dX7_judged_115)
      replace hr := ite_f hc3 hr
      refine r_tabOut (pc := 47) (tgt := 116) dX7_judged_47 (tab_out (by decide) (by decide) fun k h1 h2 => ?_) rfl ?_
      · rcases (show k = 0 ∨ k = 1 ∨ k = 2 ∨ k = 3 by omega) with rfl | rfl | rfl | rfl
        · exact hc0
        · exact hc1
        · exact hc2
        · exact hc3
      refine r_aload_n (pc := 116) (j := 0) dX7_judged_116 rfl rfl ?_
      refine gf7_12 (pc := 117) tw_2_121 hσ4 dX7_judged_117 ?_
      refine gf3_11 (pc := 120) tw_2_46 hσ4 dX7_judged_120 ?_
      refine r_iload_n (pc := 123) (j := 1) dX7_judged_123 rfl rfl ?_
      obtain ⟨h9, hr⟩ := grd_inv hr
      refine x_iald (pc := 124) (k := (Int32.toNatClampNeg a1)) rfl h9 rfl dX7_judged_124 ?_
      exact l_osi hr (r_iret (pc := 125) (v := (gI σ4 57 (Int32.toNatClampNeg a1))) rfl rfl ⟨Nat.le_refl _, Nat.le_refl _⟩ dX7_judged_125)
    replace hr := ite_f hc hr
    refine r_sipush (pc := 42) (v := (-1000 : Int32)) dX7_judged_42 rfl ?_
    exact l_osi hr (r_iret (pc := 45) (v := (-1000 : Int32)) rfl rfl ⟨Nat.le_refl _, Nat.le_refl _⟩ dX7_judged_45)
  replace hr := ite_f hc hr
  refine r_ldcw (pc := 20) (v := (-2147483648 : Int32)) dX7_judged_20 tw_4_134 ?_
  exact l_osi hr (r_iret (pc := 23) (v := (-2147483648 : Int32)) rfl rfl ⟨Nat.le_refl _, Nat.le_refl _⟩ dX7_judged_23)

theorem kX7_judged {g : GG} {σ : SS} {a1 : Int32} {a2 : Int32} {v : Int32} {σ2 : SS} {M : MM} {F : State → Array Value → List Frame → State → Prop} {pc index : Nat} {ls : List (Nat × Value)} {rest : List Value} (hf : fX7_judged σ a1 a2 = some (v, σ2))  (hl : Cond.methodLink M.1.cls index yX7_judged ∈ lw_gt) (hR : mX7_judged.2.2.2.2.frames + 1 ≤ M.2.2.2.2.frames ∧ 8 + (mX7_judged.2.2.1 + 11) + mX7_judged.2.2.2.2.locals ≤ M.2.2.2.2.locals) (hrest : (rest.map fun v => v.category).sum ≤ 8) (hd : decode M.2.1 pc = .ok (.invokevirtual index, 3)) (k : WT σ2 → RR g M F zF (pc + 3) ls (.int v :: rest) σ2) : RR g M F zF pc ls (.int a2 :: .int a1 :: .ref (ad g 1) :: rest) σ :=
  r_callV (z := zF) (N := mX7_judged) (nn := 2) (o1 := some (.int v)) (sX7_judged hf ) (rfl : shp 1 = (7, 0)) (by decide) (shp_le (rfl : shp 1 = (7, 0)) (nle rfl)) (ci := 7) rfl rfl tw_4_133 tw_1_1 hl tw_4_131 tw_4_132 ⟨by decide, by decide, rfl⟩ hR rfl hrest hd ⟨Nat.zero_le _, Nat.zero_le _⟩ rfl (fun h => k (h rfl))

theorem dX8_laysOrder_0 : decode cX8_laysOrder 0 = .ok (.aload_n 0, 1) := by decide +kernel
theorem dX8_laysOrder_1 : decode cX8_laysOrder 1 = .ok (.iload_n 1, 1) := by decide +kernel
theorem dX8_laysOrder_2 : decode cX8_laysOrder 2 = .ok (.invokevirtual 272, 3) := by decide +kernel
theorem dX8_laysOrder_5 : decode cX8_laysOrder 5 = .ok (.istore_n 2, 1) := by decide +kernel
theorem dX8_laysOrder_6 : decode cX8_laysOrder 6 = .ok (.iconst 0, 1) := by decide +kernel
theorem dX8_laysOrder_7 : decode cX8_laysOrder 7 = .ok (.istore_n 3, 1) := by decide +kernel
theorem dX8_laysOrder_8 : decode cX8_laysOrder 8 = .ok (.iload_n 3, 1) := by decide +kernel
theorem dX8_laysOrder_9 : decode cX8_laysOrder 9 = .ok (.iload_n 2, 1) := by decide +kernel
theorem dX8_laysOrder_10 : decode cX8_laysOrder 10 = .ok (.if_icmp .ge 83, 3) := by decide +kernel
theorem dX8_laysOrder_13 : decode cX8_laysOrder 13 = .ok (.iload_n 3, 1) := by decide +kernel
theorem dX8_laysOrder_14 : decode cX8_laysOrder 14 = .ok (.istore 4, 2) := by decide +kernel
theorem dX8_laysOrder_16 : decode cX8_laysOrder 16 = .ok (.iload 4, 2) := by decide +kernel
theorem dX8_laysOrder_18 : decode cX8_laysOrder 18 = .ok (.ifCond .le 61, 3) := by decide +kernel
theorem dX8_laysOrder_21 : decode cX8_laysOrder 21 = .ok (.aload_n 0, 1) := by decide +kernel
theorem dX8_laysOrder_22 : decode cX8_laysOrder 22 = .ok (.getfield 108, 3) := by decide +kernel
theorem dX8_laysOrder_25 : decode cX8_laysOrder 25 = .ok (.bipush 6, 2) := by decide +kernel
theorem dX8_laysOrder_27 : decode cX8_laysOrder 27 = .ok (.iload_n 1, 1) := by decide +kernel
theorem dX8_laysOrder_28 : decode cX8_laysOrder 28 = .ok (.imul, 1) := by decide +kernel
theorem dX8_laysOrder_29 : decode cX8_laysOrder 29 = .ok (.aload_n 0, 1) := by decide +kernel
theorem dX8_laysOrder_30 : decode cX8_laysOrder 30 = .ok (.getfield 111, 3) := by decide +kernel
theorem dX8_laysOrder_33 : decode cX8_laysOrder 33 = .ok (.iload 4, 2) := by decide +kernel
theorem dX8_laysOrder_35 : decode cX8_laysOrder 35 = .ok (.iconst 1, 1) := by decide +kernel
theorem dX8_laysOrder_36 : decode cX8_laysOrder 36 = .ok (.isub, 1) := by decide +kernel
theorem dX8_laysOrder_37 : decode cX8_laysOrder 37 = .ok (.iaload, 1) := by decide +kernel
theorem dX8_laysOrder_38 : decode cX8_laysOrder 38 = .ok (.iadd, 1) := by decide +kernel
theorem dX8_laysOrder_39 : decode cX8_laysOrder 39 = .ok (.iaload, 1) := by decide +kernel
theorem dX8_laysOrder_40 : decode cX8_laysOrder 40 = .ok (.aload_n 0, 1) := by decide +kernel
theorem dX8_laysOrder_41 : decode cX8_laysOrder 41 = .ok (.getfield 108, 3) := by decide +kernel
theorem dX8_laysOrder_44 : decode cX8_laysOrder 44 = .ok (.bipush 6, 2) := by decide +kernel
theorem dX8_laysOrder_46 : decode cX8_laysOrder 46 = .ok (.iload_n 1, 1) := by decide +kernel
theorem dX8_laysOrder_47 : decode cX8_laysOrder 47 = .ok (.imul, 1) := by decide +kernel
theorem dX8_laysOrder_48 : decode cX8_laysOrder 48 = .ok (.iload_n 3, 1) := by decide +kernel
theorem dX8_laysOrder_49 : decode cX8_laysOrder 49 = .ok (.iadd, 1) := by decide +kernel
theorem dX8_laysOrder_50 : decode cX8_laysOrder 50 = .ok (.iaload, 1) := by decide +kernel
theorem dX8_laysOrder_51 : decode cX8_laysOrder 51 = .ok (.if_icmp .ge 28, 3) := by decide +kernel
theorem dX8_laysOrder_54 : decode cX8_laysOrder 54 = .ok (.aload_n 0, 1) := by decide +kernel
theorem dX8_laysOrder_55 : decode cX8_laysOrder 55 = .ok (.getfield 111, 3) := by decide +kernel
theorem dX8_laysOrder_58 : decode cX8_laysOrder 58 = .ok (.iload 4, 2) := by decide +kernel
theorem dX8_laysOrder_60 : decode cX8_laysOrder 60 = .ok (.aload_n 0, 1) := by decide +kernel
theorem dX8_laysOrder_61 : decode cX8_laysOrder 61 = .ok (.getfield 111, 3) := by decide +kernel
theorem dX8_laysOrder_64 : decode cX8_laysOrder 64 = .ok (.iload 4, 2) := by decide +kernel
theorem dX8_laysOrder_66 : decode cX8_laysOrder 66 = .ok (.iconst 1, 1) := by decide +kernel
theorem dX8_laysOrder_67 : decode cX8_laysOrder 67 = .ok (.isub, 1) := by decide +kernel
theorem dX8_laysOrder_68 : decode cX8_laysOrder 68 = .ok (.iaload, 1) := by decide +kernel
theorem dX8_laysOrder_69 : decode cX8_laysOrder 69 = .ok (.iastore, 1) := by decide +kernel
theorem dX8_laysOrder_70 : decode cX8_laysOrder 70 = .ok (.iload 4, 2) := by decide +kernel
theorem dX8_laysOrder_72 : decode cX8_laysOrder 72 = .ok (.iconst 1, 1) := by decide +kernel
theorem dX8_laysOrder_73 : decode cX8_laysOrder 73 = .ok (.isub, 1) := by decide +kernel
theorem dX8_laysOrder_74 : decode cX8_laysOrder 74 = .ok (.istore 4, 2) := by decide +kernel
theorem dX8_laysOrder_76 : decode cX8_laysOrder 76 = .ok (.goto (-60), 3) := by decide +kernel
theorem dX8_laysOrder_79 : decode cX8_laysOrder 79 = .ok (.aload_n 0, 1) := by decide +kernel
theorem dX8_laysOrder_80 : decode cX8_laysOrder 80 = .ok (.getfield 111, 3) := by decide +kernel
theorem dX8_laysOrder_83 : decode cX8_laysOrder 83 = .ok (.iload 4, 2) := by decide +kernel
theorem dX8_laysOrder_85 : decode cX8_laysOrder 85 = .ok (.iload_n 3, 1) := by decide +kernel
theorem dX8_laysOrder_86 : decode cX8_laysOrder 86 = .ok (.iastore, 1) := by decide +kernel
theorem dX8_laysOrder_87 : decode cX8_laysOrder 87 = .ok (.iinc 3 1, 3) := by decide +kernel
theorem dX8_laysOrder_90 : decode cX8_laysOrder 90 = .ok (.goto (-82), 3) := by decide +kernel
theorem dX8_laysOrder_93 : decode cX8_laysOrder 93 = .ok (.return_, 1) := by decide +kernel
def mX8_laysOrder : MM := (yX8_laysOrder, cX8_laysOrder, 5, none, { frames := 1, cells := 0, slots := 0, locals := 21 })
def X8_laysOrder_L16 (u1_ : Int32) (u3_ : Int32) (k79 : Int32 → SS → Option SS) : Nat → Int32 → SS → Option SS :=
  lp (fun _ _ => none) fun rec v4_ σ_ =>
    if v4_ ≤ 0 then (
      k79 v4_ σ_
      ) else (
      grd (inb (v4_ - (1 : Int32)) 7) <|
      grd (inb (((6 : Int32) * u1_) + (gI σ_ 107 (Int32.toNatClampNeg (v4_ - (1 : Int32))))) 72) <|
      grd (inb (((6 : Int32) * u1_) + u3_) 72) <|
      if (gI σ_ 106 (Int32.toNatClampNeg (((6 : Int32) * u1_) + u3_))) ≤ (gI σ_ 106 (Int32.toNatClampNeg (((6 : Int32) * u1_) + (gI σ_ 107 (Int32.toNatClampNeg (v4_ - (1 : Int32))))))) then (
        k79 v4_ σ_
        ) else (
        grd (inb v4_ 7) <|
        vthen (sI σ_ 107 (Int32.toNatClampNeg v4_) (gI σ_ 107 (Int32.toNatClampNeg (v4_ - (1 : Int32))))) fun σ8 =>
        vthen (v4_ - (1 : Int32)) fun v9 =>
        rec v9 σ8
        )
      )

def X8_laysOrder_L8 (u1_ : Int32) (u2_ : Int32)  : Nat → Int32 → SS → Option SS :=
  lp (fun _ _ => none) fun rec v3_ σ_ =>
    if u2_ ≤ v3_ then (
      some σ_
      ) else (
      X8_laysOrder_L16 u1_ v3_
      (fun v10 σ11 =>
        grd (inb v10 7) <|
        vthen (sI σ11 107 (Int32.toNatClampNeg v10) v3_) fun σ13 =>
        rec (v3_ + (1 : Int32)) σ13
        )
      fuel v3_ σ_
      )

def fX8_laysOrder (σ : SS) (a1 : Int32) : Option SS :=
  bnd1 (fX8_boxesOf σ a1) fun v1 =>
  X8_laysOrder_L8 a1 v1
  fuel (0 : Int32) σ

set_option maxRecDepth 20000 in
theorem sX8_laysOrder_L16 {g : GG} {r : SS} {u1_ : Int32} {x2_ : Int32} {u3_ : Int32} {k79 : Int32 → SS → Option SS} 
    (hk79 : ∀ (y4 : Int32) (σ_ : SS), k79 y4 σ_ = some r → WT σ_ → RR g mX8_laysOrder (FinR g mX8_laysOrder none NF r) zF 79 [(0, .ref (ad g 73)), (1, .int u1_), (2, .int x2_), (3, .int u3_), (4, .int y4)] [] σ_)
    (n : Nat) : ∀ (v4_ : Int32) (σ_ : SS), X8_laysOrder_L16 u1_ u3_ k79 n v4_ σ_ = some r → WT σ_ → RR g mX8_laysOrder (FinR g mX8_laysOrder none NF r) zF 16 [(0, .ref (ad g 73)), (1, .int u1_), (2, .int x2_), (3, .int u3_), (4, .int v4_)] [] σ_ := by
  unfold X8_laysOrder_L16
  refine lp_ind (P := fun (rec : Int32 → SS → Option SS) => ∀ (v4_ : Int32) (σ_ : SS), rec v4_ σ_ = some r → WT σ_ → RR g mX8_laysOrder (FinR g mX8_laysOrder none NF r) zF 16 [(0, .ref (ad g 73)), (1, .int u1_), (2, .int x2_), (3, .int u3_), (4, .int v4_)] [] σ_) ?_ ?_ n
  · intro v4_ σ_ hr; cases hr
  intro rec ih v4_ σ_ hr hw_
  refine r_iload (pc := 16) (j := 4) dX8_laysOrder_16 rfl ?_
  refine r_if_le (pc := 18) (tgt := 79) dX8_laysOrder_18 rfl (fun hc => ?_) (fun hc => ?_)
  · replace hr := ite_t hc hr
    exact r_pick (ls1 := [(0, .ref (ad g 73)), (1, .int u1_), (2, .int x2_), (3, .int u3_), (4, .int v4_)]) [0, 1, 2, 3, 4] rfl (hk79 v4_ σ_ hr hw_)
  replace hr := ite_f hc hr
  refine r_aload_n (pc := 21) (j := 0) dX8_laysOrder_21 rfl rfl ?_
  refine gf8_52 (pc := 22) tw_5_146 hw_ dX8_laysOrder_22 ?_
  refine r_bipush (pc := 25) (v := (6 : Int32)) dX8_laysOrder_25 rfl ?_
  refine r_iload_n (pc := 27) (j := 1) dX8_laysOrder_27 rfl rfl ?_
  refine r_imul (pc := 28) dX8_laysOrder_28 ?_
  refine r_aload_n (pc := 29) (j := 0) dX8_laysOrder_29 rfl rfl ?_
  refine gf8_53 (pc := 30) tw_5_147 hw_ dX8_laysOrder_30 ?_
  refine r_iload (pc := 33) (j := 4) dX8_laysOrder_33 rfl ?_
  refine r_iconst (pc := 35) (v := (1 : Int32)) dX8_laysOrder_35 rfl ?_
  refine r_isub (pc := 36) dX8_laysOrder_36 ?_
  obtain ⟨h4, hr⟩ := grd_inv hr
  refine x_iald (pc := 37) (k := (Int32.toNatClampNeg (v4_ - (1 : Int32)))) rfl h4 rfl dX8_laysOrder_37 ?_
  refine r_iadd (pc := 38) dX8_laysOrder_38 ?_
  obtain ⟨h5, hr⟩ := grd_inv hr
  refine x_iald (pc := 39) (k := (Int32.toNatClampNeg (((6 : Int32) * u1_) + (gI σ_ 107 (Int32.toNatClampNeg (v4_ - (1 : Int32))))))) rfl h5 rfl dX8_laysOrder_39 ?_
  refine r_aload_n (pc := 40) (j := 0) dX8_laysOrder_40 rfl rfl ?_
  refine gf8_52 (pc := 41) tw_5_146 hw_ dX8_laysOrder_41 ?_
  refine r_bipush (pc := 44) (v := (6 : Int32)) dX8_laysOrder_44 rfl ?_
  refine r_iload_n (pc := 46) (j := 1) dX8_laysOrder_46 rfl rfl ?_
  refine r_imul (pc := 47) dX8_laysOrder_47 ?_
  refine r_iload_n (pc := 48) (j := 3) dX8_laysOrder_48 rfl rfl ?_
  refine r_iadd (pc := 49) dX8_laysOrder_49 ?_
  obtain ⟨h6, hr⟩ := grd_inv hr
  refine x_iald (pc := 50) (k := (Int32.toNatClampNeg (((6 : Int32) * u1_) + u3_))) rfl h6 rfl dX8_laysOrder_50 ?_
  refine r_icmp_ge (pc := 51) (tgt := 79) dX8_laysOrder_51 rfl (fun hc => ?_) (fun hc => ?_)
  · replace hr := ite_t hc hr
    exact r_pick (ls1 := [(0, .ref (ad g 73)), (1, .int u1_), (2, .int x2_), (3, .int u3_), (4, .int v4_)]) [0, 1, 2, 3, 4] rfl (hk79 v4_ σ_ hr hw_)
  replace hr := ite_f hc hr
  refine r_aload_n (pc := 54) (j := 0) dX8_laysOrder_54 rfl rfl ?_
  refine gf8_53 (pc := 55) tw_5_147 hw_ dX8_laysOrder_55 ?_
  refine r_iload (pc := 58) (j := 4) dX8_laysOrder_58 rfl ?_
  refine r_aload_n (pc := 60) (j := 0) dX8_laysOrder_60 rfl rfl ?_
  refine gf8_53 (pc := 61) tw_5_147 hw_ dX8_laysOrder_61 ?_
  refine r_iload (pc := 64) (j := 4) dX8_laysOrder_64 rfl ?_
  refine r_iconst (pc := 66) (v := (1 : Int32)) dX8_laysOrder_66 rfl ?_
  refine r_isub (pc := 67) dX8_laysOrder_67 ?_
  refine x_iald (pc := 68) (k := (Int32.toNatClampNeg (v4_ - (1 : Int32)))) rfl h4 rfl dX8_laysOrder_68 ?_
  obtain ⟨h7, hr⟩ := grd_inv hr
  refine x_iast (pc := 69) (j := (Int32.toNatClampNeg v4_)) rfl h7 rfl dX8_laysOrder_69 fun σ8 eσ8 => ?_
  replace hr := vthen_inv hr σ8 eσ8
  have hσ8 := wtI eσ8 hw_
  refine r_iload (pc := 70) (j := 4) dX8_laysOrder_70 rfl ?_
  refine r_iconst (pc := 72) (v := (1 : Int32)) dX8_laysOrder_72 rfl ?_
  refine r_isub (pc := 73) dX8_laysOrder_73 ?_
  refine r_topi fun v9 ev9 => ?_
  replace hr := vthen_inv hr v9 ev9
  refine r_istore (pc := 74) (ls1 := [(4, .int v9), (0, .ref (ad g 73)), (1, .int u1_), (2, .int x2_), (3, .int u3_)]) dX8_laysOrder_74 (nle rfl) rfl ?_
  refine r_goto (pc := 76) (tgt := 16) dX8_laysOrder_76 rfl ?_
  exact r_pick (ls1 := [(0, .ref (ad g 73)), (1, .int u1_), (2, .int x2_), (3, .int u3_), (4, .int v9)]) [1, 2, 3, 4, 0] rfl (ih v9 σ8 hr hσ8)

set_option maxRecDepth 20000 in
theorem sX8_laysOrder_L8 {g : GG} {r : SS} {u1_ : Int32} {u2_ : Int32}  
    (n : Nat) : ∀ (v3_ : Int32) (σ_ : SS), X8_laysOrder_L8 u1_ u2_ n v3_ σ_ = some r → WT σ_ → RR g mX8_laysOrder (FinR g mX8_laysOrder none NF r) zF 8 [(0, .ref (ad g 73)), (1, .int u1_), (2, .int u2_), (3, .int v3_)] [] σ_ := by
  unfold X8_laysOrder_L8
  refine lp_ind (P := fun (rec : Int32 → SS → Option SS) => ∀ (v3_ : Int32) (σ_ : SS), rec v3_ σ_ = some r → WT σ_ → RR g mX8_laysOrder (FinR g mX8_laysOrder none NF r) zF 8 [(0, .ref (ad g 73)), (1, .int u1_), (2, .int u2_), (3, .int v3_)] [] σ_) ?_ ?_ n
  · intro v3_ σ_ hr; cases hr
  intro rec ih v3_ σ_ hr hw_
  refine r_iload_n (pc := 8) (j := 3) dX8_laysOrder_8 rfl rfl ?_
  refine r_iload_n (pc := 9) (j := 2) dX8_laysOrder_9 rfl rfl ?_
  refine r_icmp_ge (pc := 10) (tgt := 93) dX8_laysOrder_10 rfl (fun hc => ?_) (fun hc => ?_)
  · replace hr := ite_t hc hr
    exact l_ov hr (r_vret (pc := 93) rfl rfl ⟨Nat.le_refl _, Nat.le_refl _⟩ dX8_laysOrder_93)
  replace hr := ite_f hc hr
  refine r_iload_n (pc := 13) (j := 3) dX8_laysOrder_13 rfl rfl ?_
  refine r_istore (pc := 14) (ls1 := [(4, .int v3_), (0, .ref (ad g 73)), (1, .int u1_), (2, .int u2_), (3, .int v3_)]) dX8_laysOrder_14 (nle rfl) rfl ?_
  refine r_pick (ls1 := [(0, .ref (ad g 73)), (1, .int u1_), (2, .int u2_), (3, .int v3_), (4, .int v3_)]) [1, 2, 3, 4, 0] rfl ?_
  refine sX8_laysOrder_L16    (fun v10 σ11 hr hσ11 => ?_) fuel v3_ σ_ hr hw_
  refine r_aload_n (pc := 79) (j := 0) dX8_laysOrder_79 rfl rfl ?_
  refine gf8_53 (pc := 80) tw_5_147 hσ11 dX8_laysOrder_80 ?_
  refine r_iload (pc := 83) (j := 4) dX8_laysOrder_83 rfl ?_
  refine r_iload_n (pc := 85) (j := 3) dX8_laysOrder_85 rfl rfl ?_
  obtain ⟨h12, hr⟩ := grd_inv hr
  refine x_iast (pc := 86) (j := (Int32.toNatClampNeg v10)) rfl h12 rfl dX8_laysOrder_86 fun σ13 eσ13 => ?_
  replace hr := vthen_inv hr σ13 eσ13
  have hσ13 := wtI eσ13 hσ11
  refine r_iinc (pc := 87) (j := 3) (v := (v3_ + (1 : Int32))) (ls1 := [(3, .int (v3_ + (1 : Int32))), (0, .ref (ad g 73)), (1, .int u1_), (2, .int u2_), (4, .int v10)]) dX8_laysOrder_87 rfl rfl (nle rfl) rfl ?_
  refine r_goto (pc := 90) (tgt := 8) dX8_laysOrder_90 rfl ?_
  exact r_pick (ls1 := [(0, .ref (ad g 73)), (1, .int u1_), (2, .int u2_), (3, .int (v3_ + (1 : Int32)))]) [1, 2, 3, 0] rfl (ih (v3_ + (1 : Int32)) σ13 hr hσ13)

set_option maxRecDepth 20000 in
theorem sX8_laysOrder {g : GG} {σ : SS} {a1 : Int32} {r : SS} (hr : fX8_laysOrder σ a1 = some r)  : Ct g mX8_laysOrder [.ref (ad g 73), .int a1] NF σ none NF r := by
  refine Ct.of (by decide +kernel) (nle rfl) fun hw0 => ?_
  have hw := hw0 rfl
  unfold fX8_laysOrder at hr
  change RR g mX8_laysOrder (FinR g mX8_laysOrder none NF r) zF 0 [(0, .ref (ad g 73)), (1, .int a1)] [] σ
  refine r_aload_n (pc := 0) (j := 0) dX8_laysOrder_0 rfl rfl ?_
  refine r_iload_n (pc := 1) (j := 1) dX8_laysOrder_1 rfl rfl ?_
  obtain ⟨v1, hv1, hr⟩ := bnd1_inv hr
  refine kX8_boxesOf (pc := 2) hv1 tw_7_27 ⟨nle rfl, nle rfl⟩ (nle rfl) dX8_laysOrder_2 ?_
  refine r_istore_n (pc := 5) (ls1 := [(2, .int v1), (0, .ref (ad g 73)), (1, .int a1)]) dX8_laysOrder_5 rfl (nle rfl) rfl ?_
  refine r_iconst (pc := 6) (v := (0 : Int32)) dX8_laysOrder_6 rfl ?_
  refine r_istore_n (pc := 7) (ls1 := [(3, .int (0 : Int32)), (2, .int v1), (0, .ref (ad g 73)), (1, .int a1)]) dX8_laysOrder_7 rfl (nle rfl) rfl ?_
  refine r_pick (ls1 := [(0, .ref (ad g 73)), (1, .int a1), (2, .int v1), (3, .int (0 : Int32))]) [2, 3, 1, 0] rfl ?_
  refine sX8_laysOrder_L8     fuel (0 : Int32) σ hr hw

theorem kX8_laysOrder {g : GG} {σ : SS} {a1 : Int32} {σ2 : SS} {M : MM} {F : State → Array Value → List Frame → State → Prop} {pc index : Nat} {ls : List (Nat × Value)} {rest : List Value} (hf : fX8_laysOrder σ a1 = some σ2)  (hl : Cond.methodLink M.1.cls index yX8_laysOrder ∈ lw_gt) (hR : mX8_laysOrder.2.2.2.2.frames + 1 ≤ M.2.2.2.2.frames ∧ 8 + (mX8_laysOrder.2.2.1 + 11) + mX8_laysOrder.2.2.2.2.locals ≤ M.2.2.2.2.locals) (hrest : (rest.map fun v => v.category).sum ≤ 8) (hd : decode M.2.1 pc = .ok (.invokevirtual index, 3)) (k : WT σ2 → RR g M F zF (pc + 3) ls rest σ2) : RR g M F zF pc ls (.int a1 :: .ref (ad g 73) :: rest) σ :=
  r_callV (z := zF) (N := mX8_laysOrder) (nn := 1) (o1 := none) (sX8_laysOrder hf ) (rfl : shp 73 = (8, 0)) (by decide) (shp_le (rfl : shp 73 = (8, 0)) (nle rfl)) (ci := 8) rfl rfl tw_7_114 tw_1_10 hl tw_7_113 tp_76 ⟨by decide, by decide, rfl⟩ hR rfl hrest hd ⟨Nat.zero_le _, Nat.zero_le _⟩ rfl (fun h => k (h rfl))

theorem dX8_darkAt_0 : decode cX8_darkAt 0 = .ok (.iload_n 2, 1) := by decide +kernel
theorem dX8_darkAt_1 : decode cX8_darkAt 1 = .ok (.aload_n 0, 1) := by decide +kernel
theorem dX8_darkAt_2 : decode cX8_darkAt 2 = .ok (.iload_n 1, 1) := by decide +kernel
theorem dX8_darkAt_3 : decode cX8_darkAt 3 = .ok (.invokevirtual 272, 3) := by decide +kernel
theorem dX8_darkAt_6 : decode cX8_darkAt 6 = .ok (.if_icmp .ne 10, 3) := by decide +kernel
theorem dX8_darkAt_9 : decode cX8_darkAt 9 = .ok (.aload_n 0, 1) := by decide +kernel
theorem dX8_darkAt_10 : decode cX8_darkAt 10 = .ok (.getfield 363, 3) := by decide +kernel
theorem dX8_darkAt_13 : decode cX8_darkAt 13 = .ok (.goto 19, 3) := by decide +kernel
theorem dX8_darkAt_16 : decode cX8_darkAt 16 = .ok (.aload_n 0, 1) := by decide +kernel
theorem dX8_darkAt_17 : decode cX8_darkAt 17 = .ok (.getfield 108, 3) := by decide +kernel
theorem dX8_darkAt_20 : decode cX8_darkAt 20 = .ok (.bipush 6, 2) := by decide +kernel
theorem dX8_darkAt_22 : decode cX8_darkAt 22 = .ok (.iload_n 1, 1) := by decide +kernel
theorem dX8_darkAt_23 : decode cX8_darkAt 23 = .ok (.imul, 1) := by decide +kernel
theorem dX8_darkAt_24 : decode cX8_darkAt 24 = .ok (.aload_n 0, 1) := by decide +kernel
theorem dX8_darkAt_25 : decode cX8_darkAt 25 = .ok (.getfield 111, 3) := by decide +kernel
theorem dX8_darkAt_28 : decode cX8_darkAt 28 = .ok (.iload_n 2, 1) := by decide +kernel
theorem dX8_darkAt_29 : decode cX8_darkAt 29 = .ok (.iaload, 1) := by decide +kernel
theorem dX8_darkAt_30 : decode cX8_darkAt 30 = .ok (.iadd, 1) := by decide +kernel
theorem dX8_darkAt_31 : decode cX8_darkAt 31 = .ok (.iaload, 1) := by decide +kernel
theorem dX8_darkAt_32 : decode cX8_darkAt 32 = .ok (.ireturn, 1) := by decide +kernel
def mX8_darkAt : MM := (yX8_darkAt, cX8_darkAt, 3, Option.some Jvm.ClassFile.FieldType.int, { frames := 1, cells := 0, slots := 0, locals := 21 })
def fX8_darkAt (σ0 : SS) (a1 : Int32) (a2 : Int32) : Option Int32 :=
  bnd1 (fX8_boxesOf σ0 a1) fun v1 =>
  if a2 = v1 then (
    some (gI σ0 73 54)
    ) else (
    grd (inb a2 7) <|
    grd (inb (((6 : Int32) * a1) + (gI σ0 107 (Int32.toNatClampNeg a2))) 72) <|
    some (gI σ0 106 (Int32.toNatClampNeg (((6 : Int32) * a1) + (gI σ0 107 (Int32.toNatClampNeg a2)))))
    )

set_option maxRecDepth 20000 in
theorem sX8_darkAt {g : GG} {σ0 : SS} {a1 : Int32} {a2 : Int32} {r : Int32} (hr : fX8_darkAt σ0 a1 a2 = some r)  : Ct g mX8_darkAt [.ref (ad g 73), .int a1, .int a2] NF σ0 (some (.int r)) NF σ0 := by
  refine Ct.of (by decide +kernel) (nle rfl) fun hw0 => ?_
  have hw := hw0 rfl
  unfold fX8_darkAt at hr
  change RR g mX8_darkAt (FinR g mX8_darkAt (some (.int r)) NF σ0) zF 0 [(0, .ref (ad g 73)), (1, .int a1), (2, .int a2)] [] σ0
  refine r_iload_n (pc := 0) (j := 2) dX8_darkAt_0 rfl rfl ?_
  refine r_aload_n (pc := 1) (j := 0) dX8_darkAt_1 rfl rfl ?_
  refine r_iload_n (pc := 2) (j := 1) dX8_darkAt_2 rfl rfl ?_
  obtain ⟨v1, hv1, hr⟩ := bnd1_inv hr
  refine kX8_boxesOf (pc := 3) hv1 tw_7_27 ⟨nle rfl, nle rfl⟩ (nle rfl) dX8_darkAt_3 ?_
  refine r_icmp_ne (pc := 6) (tgt := 16) dX8_darkAt_6 rfl (fun hc => ?_) (fun hc => ?_)
  · replace hr := ite_f hc hr
    refine r_aload_n (pc := 16) (j := 0) dX8_darkAt_16 rfl rfl ?_
    refine gf8_52 (pc := 17) tw_5_146 hw dX8_darkAt_17 ?_
    refine r_bipush (pc := 20) (v := (6 : Int32)) dX8_darkAt_20 rfl ?_
    refine r_iload_n (pc := 22) (j := 1) dX8_darkAt_22 rfl rfl ?_
    refine r_imul (pc := 23) dX8_darkAt_23 ?_
    refine r_aload_n (pc := 24) (j := 0) dX8_darkAt_24 rfl rfl ?_
    refine gf8_53 (pc := 25) tw_5_147 hw dX8_darkAt_25 ?_
    refine r_iload_n (pc := 28) (j := 2) dX8_darkAt_28 rfl rfl ?_
    obtain ⟨h4, hr⟩ := grd_inv hr
    refine x_iald (pc := 29) (k := (Int32.toNatClampNeg a2)) rfl h4 rfl dX8_darkAt_29 ?_
    refine r_iadd (pc := 30) dX8_darkAt_30 ?_
    obtain ⟨h5, hr⟩ := grd_inv hr
    refine x_iald (pc := 31) (k := (Int32.toNatClampNeg (((6 : Int32) * a1) + (gI σ0 107 (Int32.toNatClampNeg a2))))) rfl h5 rfl dX8_darkAt_31 ?_
    exact l_opi hr (r_iret (pc := 32) (v := (gI σ0 106 (Int32.toNatClampNeg (((6 : Int32) * a1) + (gI σ0 107 (Int32.toNatClampNeg a2)))))) rfl rfl ⟨Nat.le_refl _, Nat.le_refl _⟩ dX8_darkAt_32)
  replace hr := ite_t hc hr
  refine r_aload_n (pc := 9) (j := 0) dX8_darkAt_9 rfl rfl ?_
  refine gf8_54 (pc := 10) tw_5_148 rfl dX8_darkAt_10 ?_
  refine r_goto (pc := 13) (tgt := 32) dX8_darkAt_13 rfl ?_
  exact l_opi hr (r_iret (pc := 32) (v := (gI σ0 73 54)) rfl rfl ⟨Nat.le_refl _, Nat.le_refl _⟩ dX8_darkAt_32)

theorem kX8_darkAt {g : GG} {σ0 : SS} {a1 : Int32} {a2 : Int32} {v : Int32} {M : MM} {F : State → Array Value → List Frame → State → Prop} {pc index : Nat} {ls : List (Nat × Value)} {rest : List Value} (hf : fX8_darkAt σ0 a1 a2 = some v)  (hl : Cond.methodLink M.1.cls index yX8_darkAt ∈ lw_gt) (hR : mX8_darkAt.2.2.2.2.frames + 1 ≤ M.2.2.2.2.frames ∧ 8 + (mX8_darkAt.2.2.1 + 11) + mX8_darkAt.2.2.2.2.locals ≤ M.2.2.2.2.locals) (hrest : (rest.map fun v => v.category).sum ≤ 8) (hd : decode M.2.1 pc = .ok (.invokevirtual index, 3)) (k : RR g M F zF (pc + 3) ls (.int v :: rest) σ0) : RR g M F zF pc ls (.int a2 :: .int a1 :: .ref (ad g 73) :: rest) σ0 :=
  r_callV (z := zF) (N := mX8_darkAt) (nn := 2) (o1 := some (.int v)) (sX8_darkAt hf ) (rfl : shp 73 = (8, 0)) (by decide) (shp_le (rfl : shp 73 = (8, 0)) (nle rfl)) (ci := 8) rfl rfl tw_7_118 tw_1_10 hl tw_7_117 tp_77 ⟨by decide, by decide, rfl⟩ hR rfl hrest hd ⟨Nat.zero_le _, Nat.zero_le _⟩ rfl (fun h => k)

theorem dX8_judges_0 : decode cX8_judges 0 = .ok (.aload_n 0, 1) := by decide +kernel
theorem dX8_judges_1 : decode cX8_judges 1 = .ok (.iload_n 1, 1) := by decide +kernel
theorem dX8_judges_2 : decode cX8_judges 2 = .ok (.invokevirtual 376, 3) := by decide +kernel
theorem dX8_judges_5 : decode cX8_judges 5 = .ok (.aload_n 0, 1) := by decide +kernel
theorem dX8_judges_6 : decode cX8_judges 6 = .ok (.iload_n 1, 1) := by decide +kernel
theorem dX8_judges_7 : decode cX8_judges 7 = .ok (.invokevirtual 272, 3) := by decide +kernel
theorem dX8_judges_10 : decode cX8_judges 10 = .ok (.istore_n 3, 1) := by decide +kernel
theorem dX8_judges_11 : decode cX8_judges 11 = .ok (.aload_n 0, 1) := by decide +kernel
theorem dX8_judges_12 : decode cX8_judges 12 = .ok (.iconst (-1), 1) := by decide +kernel
theorem dX8_judges_13 : decode cX8_judges 13 = .ok (.putfield 379, 3) := by decide +kernel
theorem dX8_judges_16 : decode cX8_judges 16 = .ok (.iconst 0, 1) := by decide +kernel
theorem dX8_judges_17 : decode cX8_judges 17 = .ok (.istore 4, 2) := by decide +kernel
theorem dX8_judges_19 : decode cX8_judges 19 = .ok (.iconst 0, 1) := by decide +kernel
theorem dX8_judges_20 : decode cX8_judges 20 = .ok (.istore 5, 2) := by decide +kernel
theorem dX8_judges_22 : decode cX8_judges 22 = .ok (.iload 5, 2) := by decide +kernel
theorem dX8_judges_24 : decode cX8_judges 24 = .ok (.iload_n 3, 1) := by decide +kernel
theorem dX8_judges_25 : decode cX8_judges 25 = .ok (.if_icmp .ge 52, 3) := by decide +kernel
theorem dX8_judges_28 : decode cX8_judges 28 = .ok (.aload_n 0, 1) := by decide +kernel
theorem dX8_judges_29 : decode cX8_judges 29 = .ok (.iload_n 1, 1) := by decide +kernel
theorem dX8_judges_30 : decode cX8_judges 30 = .ok (.iload 5, 2) := by decide +kernel
theorem dX8_judges_32 : decode cX8_judges 32 = .ok (.invokevirtual 382, 3) := by decide +kernel
theorem dX8_judges_35 : decode cX8_judges 35 = .ok (.aload_n 0, 1) := by decide +kernel
theorem dX8_judges_36 : decode cX8_judges 36 = .ok (.iload_n 1, 1) := by decide +kernel
theorem dX8_judges_37 : decode cX8_judges 37 = .ok (.iload 5, 2) := by decide +kernel
theorem dX8_judges_39 : decode cX8_judges 39 = .ok (.iconst 1, 1) := by decide +kernel
theorem dX8_judges_40 : decode cX8_judges 40 = .ok (.iadd, 1) := by decide +kernel
theorem dX8_judges_41 : decode cX8_judges 41 = .ok (.invokevirtual 382, 3) := by decide +kernel
theorem dX8_judges_44 : decode cX8_judges 44 = .ok (.isub, 1) := by decide +kernel
theorem dX8_judges_45 : decode cX8_judges 45 = .ok (.istore 6, 2) := by decide +kernel
theorem dX8_judges_47 : decode cX8_judges 47 = .ok (.iload 6, 2) := by decide +kernel
theorem dX8_judges_49 : decode cX8_judges 49 = .ok (.aload_n 0, 1) := by decide +kernel
theorem dX8_judges_50 : decode cX8_judges 50 = .ok (.getfield 379, 3) := by decide +kernel
theorem dX8_judges_53 : decode cX8_judges 53 = .ok (.if_icmp .gt 6, 3) := by decide +kernel
theorem dX8_judges_56 : decode cX8_judges 56 = .ok (.goto 15, 3) := by decide +kernel
theorem dX8_judges_59 : decode cX8_judges 59 = .ok (.aload_n 0, 1) := by decide +kernel
theorem dX8_judges_60 : decode cX8_judges 60 = .ok (.iload 6, 2) := by decide +kernel
theorem dX8_judges_62 : decode cX8_judges 62 = .ok (.putfield 379, 3) := by decide +kernel
theorem dX8_judges_65 : decode cX8_judges 65 = .ok (.iload 5, 2) := by decide +kernel
theorem dX8_judges_67 : decode cX8_judges 67 = .ok (.iconst 1, 1) := by decide +kernel
theorem dX8_judges_68 : decode cX8_judges 68 = .ok (.iadd, 1) := by decide +kernel
theorem dX8_judges_69 : decode cX8_judges 69 = .ok (.istore 4, 2) := by decide +kernel
theorem dX8_judges_71 : decode cX8_judges 71 = .ok (.iinc 5 1, 3) := by decide +kernel
theorem dX8_judges_74 : decode cX8_judges 74 = .ok (.goto (-52), 3) := by decide +kernel
theorem dX8_judges_77 : decode cX8_judges 77 = .ok (.aload_n 0, 1) := by decide +kernel
theorem dX8_judges_78 : decode cX8_judges 78 = .ok (.iconst 0, 1) := by decide +kernel
theorem dX8_judges_79 : decode cX8_judges 79 = .ok (.putfield 385, 3) := by decide +kernel
theorem dX8_judges_82 : decode cX8_judges 82 = .ok (.aload_n 0, 1) := by decide +kernel
theorem dX8_judges_83 : decode cX8_judges 83 = .ok (.iconst 0, 1) := by decide +kernel
theorem dX8_judges_84 : decode cX8_judges 84 = .ok (.putfield 388, 3) := by decide +kernel
theorem dX8_judges_87 : decode cX8_judges 87 = .ok (.aload_n 0, 1) := by decide +kernel
theorem dX8_judges_88 : decode cX8_judges 88 = .ok (.aload_n 0, 1) := by decide +kernel
theorem dX8_judges_89 : decode cX8_judges 89 = .ok (.getfield 379, 3) := by decide +kernel
theorem dX8_judges_92 : decode cX8_judges 92 = .ok (.iload_n 2, 1) := by decide +kernel
theorem dX8_judges_93 : decode cX8_judges 93 = .ok (.if_icmp .ge 17, 3) := by decide +kernel
theorem dX8_judges_96 : decode cX8_judges 96 = .ok (.iconst 2, 1) := by decide +kernel
theorem dX8_judges_97 : decode cX8_judges 97 = .ok (.aload_n 0, 1) := by decide +kernel
theorem dX8_judges_98 : decode cX8_judges 98 = .ok (.getfield 379, 3) := by decide +kernel
theorem dX8_judges_101 : decode cX8_judges 101 = .ok (.imul, 1) := by decide +kernel
theorem dX8_judges_102 : decode cX8_judges 102 = .ok (.iload_n 2, 1) := by decide +kernel
theorem dX8_judges_103 : decode cX8_judges 103 = .ok (.if_icmp .lt 7, 3) := by decide +kernel
theorem dX8_judges_106 : decode cX8_judges 106 = .ok (.iconst 1, 1) := by decide +kernel
theorem dX8_judges_107 : decode cX8_judges 107 = .ok (.goto 4, 3) := by decide +kernel
theorem dX8_judges_110 : decode cX8_judges 110 = .ok (.iconst 0, 1) := by decide +kernel
theorem dX8_judges_111 : decode cX8_judges 111 = .ok (.putfield 391, 3) := by decide +kernel
theorem dX8_judges_114 : decode cX8_judges 114 = .ok (.iconst 0, 1) := by decide +kernel
theorem dX8_judges_115 : decode cX8_judges 115 = .ok (.istore 5, 2) := by decide +kernel
theorem dX8_judges_117 : decode cX8_judges 117 = .ok (.iload 5, 2) := by decide +kernel
theorem dX8_judges_119 : decode cX8_judges 119 = .ok (.iload 4, 2) := by decide +kernel
theorem dX8_judges_121 : decode cX8_judges 121 = .ok (.if_icmp .ge 35, 3) := by decide +kernel
theorem dX8_judges_124 : decode cX8_judges 124 = .ok (.aload_n 0, 1) := by decide +kernel
theorem dX8_judges_125 : decode cX8_judges 125 = .ok (.getfield 379, 3) := by decide +kernel
theorem dX8_judges_128 : decode cX8_judges 128 = .ok (.iload_n 2, 1) := by decide +kernel
theorem dX8_judges_129 : decode cX8_judges 129 = .ok (.if_icmp .lt 27, 3) := by decide +kernel
theorem dX8_judges_132 : decode cX8_judges 132 = .ok (.aload_n 0, 1) := by decide +kernel
theorem dX8_judges_133 : decode cX8_judges 133 = .ok (.aload_n 0, 1) := by decide +kernel
theorem dX8_judges_134 : decode cX8_judges 134 = .ok (.getfield 385, 3) := by decide +kernel
theorem dX8_judges_137 : decode cX8_judges 137 = .ok (.iconst 1, 1) := by decide +kernel
theorem dX8_judges_138 : decode cX8_judges 138 = .ok (.aload_n 0, 1) := by decide +kernel
theorem dX8_judges_139 : decode cX8_judges 139 = .ok (.getfield 111, 3) := by decide +kernel
theorem dX8_judges_142 : decode cX8_judges 142 = .ok (.iload 5, 2) := by decide +kernel
theorem dX8_judges_144 : decode cX8_judges 144 = .ok (.iaload, 1) := by decide +kernel
theorem dX8_judges_145 : decode cX8_judges 145 = .ok (.ishl, 1) := by decide +kernel
theorem dX8_judges_146 : decode cX8_judges 146 = .ok (.ior, 1) := by decide +kernel
theorem dX8_judges_147 : decode cX8_judges 147 = .ok (.putfield 385, 3) := by decide +kernel
theorem dX8_judges_150 : decode cX8_judges 150 = .ok (.iinc 5 1, 3) := by decide +kernel
theorem dX8_judges_153 : decode cX8_judges 153 = .ok (.goto (-36), 3) := by decide +kernel
theorem dX8_judges_156 : decode cX8_judges 156 = .ok (.aload_n 0, 1) := by decide +kernel
theorem dX8_judges_157 : decode cX8_judges 157 = .ok (.getfield 17, 3) := by decide +kernel
theorem dX8_judges_160 : decode cX8_judges 160 = .ok (.bipush 12, 2) := by decide +kernel
theorem dX8_judges_162 : decode cX8_judges 162 = .ok (.aload_n 0, 1) := by decide +kernel
theorem dX8_judges_163 : decode cX8_judges 163 = .ok (.getfield 206, 3) := by decide +kernel
theorem dX8_judges_166 : decode cX8_judges 166 = .ok (.imul, 1) := by decide +kernel
theorem dX8_judges_167 : decode cX8_judges 167 = .ok (.iload_n 1, 1) := by decide +kernel
theorem dX8_judges_168 : decode cX8_judges 168 = .ok (.iadd, 1) := by decide +kernel
theorem dX8_judges_169 : decode cX8_judges 169 = .ok (.iaload, 1) := by decide +kernel
theorem dX8_judges_170 : decode cX8_judges 170 = .ok (.iconst 1, 1) := by decide +kernel
theorem dX8_judges_171 : decode cX8_judges 171 = .ok (.if_icmp .ne 78, 3) := by decide +kernel
theorem dX8_judges_174 : decode cX8_judges 174 = .ok (.aload_n 0, 1) := by decide +kernel
theorem dX8_judges_175 : decode cX8_judges 175 = .ok (.getfield 379, 3) := by decide +kernel
theorem dX8_judges_178 : decode cX8_judges 178 = .ok (.iload_n 2, 1) := by decide +kernel
theorem dX8_judges_179 : decode cX8_judges 179 = .ok (.if_icmp .lt 70, 3) := by decide +kernel
theorem dX8_judges_182 : decode cX8_judges 182 = .ok (.iload 4, 2) := by decide +kernel
theorem dX8_judges_184 : decode cX8_judges 184 = .ok (.iconst 1, 1) := by decide +kernel
theorem dX8_judges_185 : decode cX8_judges 185 = .ok (.if_icmp .le 64, 3) := by decide +kernel
theorem dX8_judges_188 : decode cX8_judges 188 = .ok (.aload_n 0, 1) := by decide +kernel
theorem dX8_judges_189 : decode cX8_judges 189 = .ok (.iload_n 1, 1) := by decide +kernel
theorem dX8_judges_190 : decode cX8_judges 190 = .ok (.iconst 0, 1) := by decide +kernel
theorem dX8_judges_191 : decode cX8_judges 191 = .ok (.invokevirtual 382, 3) := by decide +kernel
theorem dX8_judges_194 : decode cX8_judges 194 = .ok (.aload_n 0, 1) := by decide +kernel
theorem dX8_judges_195 : decode cX8_judges 195 = .ok (.iload_n 1, 1) := by decide +kernel
theorem dX8_judges_196 : decode cX8_judges 196 = .ok (.iconst 1, 1) := by decide +kernel
theorem dX8_judges_197 : decode cX8_judges 197 = .ok (.invokevirtual 382, 3) := by decide +kernel
theorem dX8_judges_200 : decode cX8_judges 200 = .ok (.isub, 1) := by decide +kernel
theorem dX8_judges_201 : decode cX8_judges 201 = .ok (.aload_n 0, 1) := by decide +kernel
theorem dX8_judges_202 : decode cX8_judges 202 = .ok (.getfield 53, 3) := by decide +kernel
theorem dX8_judges_205 : decode cX8_judges 205 = .ok (.iconst 4, 1) := by decide +kernel
theorem dX8_judges_206 : decode cX8_judges 206 = .ok (.iaload, 1) := by decide +kernel
theorem dX8_judges_207 : decode cX8_judges 207 = .ok (.if_icmp .lt 37, 3) := by decide +kernel
theorem dX8_judges_210 : decode cX8_judges 210 = .ok (.aload_n 0, 1) := by decide +kernel
theorem dX8_judges_211 : decode cX8_judges 211 = .ok (.aload_n 0, 1) := by decide +kernel
theorem dX8_judges_212 : decode cX8_judges 212 = .ok (.getfield 385, 3) := by decide +kernel
theorem dX8_judges_215 : decode cX8_judges 215 = .ok (.iconst 1, 1) := by decide +kernel
theorem dX8_judges_216 : decode cX8_judges 216 = .ok (.aload_n 0, 1) := by decide +kernel
theorem dX8_judges_217 : decode cX8_judges 217 = .ok (.getfield 111, 3) := by decide +kernel
theorem dX8_judges_220 : decode cX8_judges 220 = .ok (.iconst 0, 1) := by decide +kernel
theorem dX8_judges_221 : decode cX8_judges 221 = .ok (.iaload, 1) := by decide +kernel
theorem dX8_judges_222 : decode cX8_judges 222 = .ok (.ishl, 1) := by decide +kernel
theorem dX8_judges_223 : decode cX8_judges 223 = .ok (.iconst (-1), 1) := by decide +kernel
theorem dX8_judges_224 : decode cX8_judges 224 = .ok (.ixor, 1) := by decide +kernel
theorem dX8_judges_225 : decode cX8_judges 225 = .ok (.iand, 1) := by decide +kernel
theorem dX8_judges_226 : decode cX8_judges 226 = .ok (.putfield 388, 3) := by decide +kernel
theorem dX8_judges_229 : decode cX8_judges 229 = .ok (.aload_n 0, 1) := by decide +kernel
theorem dX8_judges_230 : decode cX8_judges 230 = .ok (.iconst 1, 1) := by decide +kernel
theorem dX8_judges_231 : decode cX8_judges 231 = .ok (.aload_n 0, 1) := by decide +kernel
theorem dX8_judges_232 : decode cX8_judges 232 = .ok (.getfield 111, 3) := by decide +kernel
theorem dX8_judges_235 : decode cX8_judges 235 = .ok (.iconst 0, 1) := by decide +kernel
theorem dX8_judges_236 : decode cX8_judges 236 = .ok (.iaload, 1) := by decide +kernel
theorem dX8_judges_237 : decode cX8_judges 237 = .ok (.ishl, 1) := by decide +kernel
theorem dX8_judges_238 : decode cX8_judges 238 = .ok (.putfield 385, 3) := by decide +kernel
theorem dX8_judges_241 : decode cX8_judges 241 = .ok (.goto 8, 3) := by decide +kernel
theorem dX8_judges_244 : decode cX8_judges 244 = .ok (.aload_n 0, 1) := by decide +kernel
theorem dX8_judges_245 : decode cX8_judges 245 = .ok (.iconst 2, 1) := by decide +kernel
theorem dX8_judges_246 : decode cX8_judges 246 = .ok (.putfield 391, 3) := by decide +kernel
theorem dX8_judges_249 : decode cX8_judges 249 = .ok (.iconst 0, 1) := by decide +kernel
theorem dX8_judges_250 : decode cX8_judges 250 = .ok (.istore 5, 2) := by decide +kernel
theorem dX8_judges_252 : decode cX8_judges 252 = .ok (.iload 5, 2) := by decide +kernel
theorem dX8_judges_254 : decode cX8_judges 254 = .ok (.iload_n 3, 1) := by decide +kernel
theorem dX8_judges_255 : decode cX8_judges 255 = .ok (.if_icmp .ge 60, 3) := by decide +kernel
theorem dX8_judges_258 : decode cX8_judges 258 = .ok (.aload_n 0, 1) := by decide +kernel
theorem dX8_judges_259 : decode cX8_judges 259 = .ok (.getfield 385, 3) := by decide +kernel
theorem dX8_judges_262 : decode cX8_judges 262 = .ok (.iload 5, 2) := by decide +kernel
theorem dX8_judges_264 : decode cX8_judges 264 = .ok (.invokestatic 228, 3) := by decide +kernel
theorem dX8_judges_267 : decode cX8_judges 267 = .ok (.ifCond .ne 42, 3) := by decide +kernel
theorem dX8_judges_270 : decode cX8_judges 270 = .ok (.aload_n 0, 1) := by decide +kernel
theorem dX8_judges_271 : decode cX8_judges 271 = .ok (.getfield 108, 3) := by decide +kernel
theorem dX8_judges_274 : decode cX8_judges 274 = .ok (.bipush 6, 2) := by decide +kernel
theorem dX8_judges_276 : decode cX8_judges 276 = .ok (.iload_n 1, 1) := by decide +kernel
theorem dX8_judges_277 : decode cX8_judges 277 = .ok (.imul, 1) := by decide +kernel
theorem dX8_judges_278 : decode cX8_judges 278 = .ok (.iload 5, 2) := by decide +kernel
theorem dX8_judges_280 : decode cX8_judges 280 = .ok (.iadd, 1) := by decide +kernel
theorem dX8_judges_281 : decode cX8_judges 281 = .ok (.iaload, 1) := by decide +kernel
theorem dX8_judges_282 : decode cX8_judges 282 = .ok (.aload_n 0, 1) := by decide +kernel
theorem dX8_judges_283 : decode cX8_judges 283 = .ok (.getfield 363, 3) := by decide +kernel
theorem dX8_judges_286 : decode cX8_judges 286 = .ok (.isub, 1) := by decide +kernel
theorem dX8_judges_287 : decode cX8_judges 287 = .ok (.aload_n 0, 1) := by decide +kernel
theorem dX8_judges_288 : decode cX8_judges 288 = .ok (.getfield 53, 3) := by decide +kernel
theorem dX8_judges_291 : decode cX8_judges 291 = .ok (.iconst 5, 1) := by decide +kernel
theorem dX8_judges_292 : decode cX8_judges 292 = .ok (.iaload, 1) := by decide +kernel
theorem dX8_judges_293 : decode cX8_judges 293 = .ok (.if_icmp .lt 16, 3) := by decide +kernel
theorem dX8_judges_296 : decode cX8_judges 296 = .ok (.aload_n 0, 1) := by decide +kernel
theorem dX8_judges_297 : decode cX8_judges 297 = .ok (.aload_n 0, 1) := by decide +kernel
theorem dX8_judges_298 : decode cX8_judges 298 = .ok (.getfield 388, 3) := by decide +kernel
theorem dX8_judges_301 : decode cX8_judges 301 = .ok (.iconst 1, 1) := by decide +kernel
theorem dX8_judges_302 : decode cX8_judges 302 = .ok (.iload 5, 2) := by decide +kernel
theorem dX8_judges_304 : decode cX8_judges 304 = .ok (.ishl, 1) := by decide +kernel
theorem dX8_judges_305 : decode cX8_judges 305 = .ok (.ior, 1) := by decide +kernel
theorem dX8_judges_306 : decode cX8_judges 306 = .ok (.putfield 388, 3) := by decide +kernel
theorem dX8_judges_309 : decode cX8_judges 309 = .ok (.iinc 5 1, 3) := by decide +kernel
theorem dX8_judges_312 : decode cX8_judges 312 = .ok (.goto (-60), 3) := by decide +kernel
theorem dX8_judges_315 : decode cX8_judges 315 = .ok (.return_, 1) := by decide +kernel
def mX8_judges : MM := (yX8_judges, cX8_judges, 7, none, { frames := 2, cells := 0, slots := 0, locals := 45 })
def X8_judges_L22 (u1_ : Int32) (u3_ : Int32) (k77 : Int32 → SS → Option SS) : Nat → Int32 → Int32 → SS → Option SS :=
  lp (fun _ _ _ => none) fun rec v4_ v5_ σ_ =>
    if u3_ ≤ v5_ then (
      k77 v4_ σ_
      ) else (
      bnd1 (fX8_darkAt σ_ u1_ v5_) fun v6 =>
      bnd1 (fX8_darkAt σ_ u1_ (v5_ + (1 : Int32))) fun v9 =>
      vthen (v6 - v9) fun v12 =>
      if (gI σ_ 73 58) < v12 then (
        vthen (sI σ_ 73 58 v12) fun σ13 =>
        vthen (v5_ + (1 : Int32)) fun v14 =>
        rec v14 (v5_ + (1 : Int32)) σ13
        ) else (
        rec v4_ (v5_ + (1 : Int32)) σ_
        )
      )

def X8_judges_L117 (u2_ : Int32) (u4_ : Int32) (k156 : SS → Option SS) : Nat → Int32 → SS → Option SS :=
  lp (fun _ _ => none) fun rec v5_ σ_ =>
    if u4_ ≤ v5_ then (
      k156 σ_
      ) else (
      if (gI σ_ 73 58) < u2_ then (
        k156 σ_
        ) else (
        grd (inb v5_ 7) <|
        vthen (sI σ_ 73 55 ((gI σ_ 73 55) ||| ((1 : Int32) <<< ((gI σ_ 107 (Int32.toNatClampNeg v5_)) &&& 31)))) fun σ22 =>
        rec (v5_ + (1 : Int32)) σ22
        )
      )

def X8_judges_L252 (u1_ : Int32) (u3_ : Int32)  : Nat → Int32 → SS → Option SS :=
  lp (fun _ _ => none) fun rec v5_ σ_ =>
    if u3_ ≤ v5_ then (
      some σ_
      ) else (
      if (fX8_has σ_ (gI σ_ 73 55) v5_) = true then (
        rec (v5_ + (1 : Int32)) σ_
        ) else (
        grd (inb (((6 : Int32) * u1_) + v5_) 72) <|
        if ((gI σ_ 106 (Int32.toNatClampNeg (((6 : Int32) * u1_) + v5_))) - (gI σ_ 73 54)) < (gI σ_ 88 5) then (
          rec (v5_ + (1 : Int32)) σ_
          ) else (
          vthen (sI σ_ 73 57 ((gI σ_ 73 57) ||| ((1 : Int32) <<< (v5_ &&& 31)))) fun σ27 =>
          rec (v5_ + (1 : Int32)) σ27
          )
        )
      )

def fX8_judges (σ : SS) (a1 : Int32) (a2 : Int32) : Option SS :=
  bnd1 (fX8_laysOrder σ a1) fun σ1 =>
  bnd1 (fX8_boxesOf σ1 a1) fun v2 =>
  vthen (sI σ1 73 58 (-1 : Int32)) fun σ5 =>
  X8_judges_L22 a1 v2
  (fun v15 σ16 =>
    vthen (sI σ16 73 55 (0 : Int32)) fun σ17 =>
    vthen (sI σ17 73 57 (0 : Int32)) fun σ18 =>
    vthen (fun (s19 : Int32) =>
      vthen (sI σ18 73 56 s19) fun σ20 =>
      X8_judges_L117 a2 v15
      (fun σ23 =>
        grd (inb (((12 : Int32) * (gI σ23 73 11)) + a1) 24) <|
        vthen (fun  (σ25 : SS) =>
          X8_judges_L252 a1 v2
          fuel (0 : Int32) σ25
          ) fun j249 =>
        if (gI σ23 76 (Int32.toNatClampNeg (((12 : Int32) * (gI σ23 73 11)) + a1))) = (1 : Int32) then (
          if (gI σ23 73 58) < a2 then (
            j249 σ23
            ) else (
            if v15 ≤ (1 : Int32) then (
              j249 σ23
              ) else (
              bnd1 (fX8_darkAt σ23 a1 (0 : Int32)) fun v28 =>
              bnd1 (fX8_darkAt σ23 a1 (1 : Int32)) fun v31 =>
              if (v28 - v31) < (gI σ23 88 4) then (
                vthen (sI σ23 73 56 (2 : Int32)) fun σ34 =>
                j249 σ34
                ) else (
                vthen (sI σ23 73 57 ((gI σ23 73 55) &&& (((1 : Int32) <<< ((gI σ23 107 0) &&& 31)) ^^^ (-1 : Int32)))) fun σ35 =>
                vthen (sI σ35 73 55 ((1 : Int32) <<< ((gI σ35 107 0) &&& 31))) fun σ36 =>
                j249 σ36
                )
              )
            )
          ) else (
          j249 σ23
          )
        )
      fuel (0 : Int32) σ20
      ) fun j111 =>
    vthen (fun (_u : Unit) =>
      j111 (0 : Int32)
      ) fun j110 =>
    if a2 ≤ (gI σ18 73 58) then (
      j110 ()
      ) else (
      if ((2 : Int32) * (gI σ18 73 58)) < a2 then (
        j110 ()
        ) else (
        j111 (1 : Int32)
        )
      )
    )
  fuel (0 : Int32) (0 : Int32) σ5

set_option maxRecDepth 20000 in
theorem sX8_judges_L22 {g : GG} {r : SS} {u1_ : Int32} {x2_ : Int32} {u3_ : Int32} {k77 : Int32 → SS → Option SS} 
    (hk77 : ∀ (y4 : Int32) (σ_ : SS), k77 y4 σ_ = some r → WT σ_ → RR g mX8_judges (FinR g mX8_judges none NF r) zF 77 [(0, .ref (ad g 73)), (1, .int u1_), (2, .int x2_), (3, .int u3_), (4, .int y4)] [] σ_)
    (n : Nat) : ∀ (v4_ : Int32) (v5_ : Int32) (σ_ : SS), X8_judges_L22 u1_ u3_ k77 n v4_ v5_ σ_ = some r → WT σ_ → RR g mX8_judges (FinR g mX8_judges none NF r) zF 22 [(0, .ref (ad g 73)), (1, .int u1_), (2, .int x2_), (3, .int u3_), (4, .int v4_), (5, .int v5_)] [] σ_ := by
  unfold X8_judges_L22
  refine lp_ind (P := fun (rec : Int32 → Int32 → SS → Option SS) => ∀ (v4_ : Int32) (v5_ : Int32) (σ_ : SS), rec v4_ v5_ σ_ = some r → WT σ_ → RR g mX8_judges (FinR g mX8_judges none NF r) zF 22 [(0, .ref (ad g 73)), (1, .int u1_), (2, .int x2_), (3, .int u3_), (4, .int v4_), (5, .int v5_)] [] σ_) ?_ ?_ n
  · intro v4_ v5_ σ_ hr; cases hr
  intro rec ih v4_ v5_ σ_ hr hw_
  refine r_iload (pc := 22) (j := 5) dX8_judges_22 rfl ?_
  refine r_iload_n (pc := 24) (j := 3) dX8_judges_24 rfl rfl ?_
  refine r_icmp_ge (pc := 25) (tgt := 77) dX8_judges_25 rfl (fun hc => ?_) (fun hc => ?_)
  · replace hr := ite_t hc hr
    exact r_pick (ls1 := [(0, .ref (ad g 73)), (1, .int u1_), (2, .int x2_), (3, .int u3_), (4, .int v4_)]) [0, 1, 2, 3, 4] rfl (hk77 v4_ σ_ hr hw_)
  replace hr := ite_f hc hr
  refine r_aload_n (pc := 28) (j := 0) dX8_judges_28 rfl rfl ?_
  refine r_iload_n (pc := 29) (j := 1) dX8_judges_29 rfl rfl ?_
  refine r_iload (pc := 30) (j := 5) dX8_judges_30 rfl ?_
  obtain ⟨v6, hv6, hr⟩ := bnd1_inv hr
  refine kX8_darkAt (pc := 32) hv6 tw_7_115 ⟨nle rfl, nle rfl⟩ (nle rfl) dX8_judges_32 ?_
  refine r_aload_n (pc := 35) (j := 0) dX8_judges_35 rfl rfl ?_
  refine r_iload_n (pc := 36) (j := 1) dX8_judges_36 rfl rfl ?_
  refine r_iload (pc := 37) (j := 5) dX8_judges_37 rfl ?_
  refine r_iconst (pc := 39) (v := (1 : Int32)) dX8_judges_39 rfl ?_
  refine r_iadd (pc := 40) dX8_judges_40 ?_
  obtain ⟨v9, hv9, hr⟩ := bnd1_inv hr
  refine kX8_darkAt (pc := 41) hv9 tw_7_115 ⟨nle rfl, nle rfl⟩ (nle rfl) dX8_judges_41 ?_
  refine r_isub (pc := 44) dX8_judges_44 ?_
  refine r_topi fun v12 ev12 => ?_
  replace hr := vthen_inv hr v12 ev12
  refine r_istore (pc := 45) (ls1 := [(6, .int v12), (0, .ref (ad g 73)), (1, .int u1_), (2, .int x2_), (3, .int u3_), (4, .int v4_), (5, .int v5_)]) dX8_judges_45 (nle rfl) rfl ?_
  refine r_iload (pc := 47) (j := 0) dX8_judges_47 rfl ?_
  refine r_aload_n (pc := 49) (j := 1) dX8_judges_49 rfl rfl ?_
  refine gf8_58 (pc := 50) tw_5_152 rfl dX8_judges_50 ?_
  refine r_icmp_gt (pc := 53) (tgt := 59) dX8_judges_53 rfl (fun hc => ?_) (fun hc => ?_)
  · replace hr := ite_t hc hr
    refine r_aload_n (pc := 59) (j := 1) dX8_judges_59 rfl rfl ?_
    refine r_iload (pc := 60) (j := 0) dX8_judges_60 rfl ?_
    refine pf8_58 (pc := 62) tw_5_152 rfl dX8_judges_62 fun σ13 eσ13 => ?_
    replace hr := vthen_inv hr σ13 eσ13
    have hσ13 := wtI eσ13 hw_
    refine r_iload (pc := 65) (j := 6) dX8_judges_65 rfl ?_
    refine r_iconst (pc := 67) (v := (1 : Int32)) dX8_judges_67 rfl ?_
    refine r_iadd (pc := 68) dX8_judges_68 ?_
    refine r_topi fun v14 ev14 => ?_
    replace hr := vthen_inv hr v14 ev14
    refine r_istore (pc := 69) (ls1 := [(4, .int v14), (6, .int v12), (0, .ref (ad g 73)), (1, .int u1_), (2, .int x2_), (3, .int u3_), (5, .int v5_)]) dX8_judges_69 (nle rfl) rfl ?_
    refine r_iinc (pc := 71) (j := 6) (v := (v5_ + (1 : Int32))) (ls1 := [(5, .int (v5_ + (1 : Int32))), (4, .int v14), (6, .int v12), (0, .ref (ad g 73)), (1, .int u1_), (2, .int x2_), (3, .int u3_)]) dX8_judges_71 rfl rfl (nle rfl) rfl ?_
    refine r_goto (pc := 74) (tgt := 22) dX8_judges_74 rfl ?_
    exact r_pick (ls1 := [(0, .ref (ad g 73)), (1, .int u1_), (2, .int x2_), (3, .int u3_), (4, .int v14), (5, .int (v5_ + (1 : Int32)))]) [3, 4, 5, 6, 1, 0] rfl (ih v14 (v5_ + (1 : Int32)) σ13 hr hσ13)
  replace hr := ite_f hc hr
  refine r_goto (pc := 56) (tgt := 71) dX8_judges_56 rfl ?_
  refine r_iinc (pc := 71) (j := 6) (v := (v5_ + (1 : Int32))) (ls1 := [(5, .int (v5_ + (1 : Int32))), (6, .int v12), (0, .ref (ad g 73)), (1, .int u1_), (2, .int x2_), (3, .int u3_), (4, .int v4_)]) dX8_judges_71 rfl rfl (nle rfl) rfl ?_
  refine r_goto (pc := 74) (tgt := 22) dX8_judges_74 rfl ?_
  exact r_pick (ls1 := [(0, .ref (ad g 73)), (1, .int u1_), (2, .int x2_), (3, .int u3_), (4, .int v4_), (5, .int (v5_ + (1 : Int32)))]) [2, 3, 4, 5, 6, 0] rfl (ih v4_ (v5_ + (1 : Int32)) σ_ hr hw_)

set_option maxRecDepth 20000 in
theorem sX8_judges_L117 {g : GG} {r : SS} {x1_ : Int32} {u2_ : Int32} {x3_ : Int32} {u4_ : Int32} {k156 : SS → Option SS} 
    (hk156 : ∀ (σ_ : SS), k156 σ_ = some r → WT σ_ → RR g mX8_judges (FinR g mX8_judges none NF r) zF 156 [(0, .ref (ad g 73)), (1, .int x1_), (2, .int u2_), (3, .int x3_), (4, .int u4_)] [] σ_)
    (n : Nat) : ∀ (v5_ : Int32) (σ_ : SS), X8_judges_L117 u2_ u4_ k156 n v5_ σ_ = some r → WT σ_ → RR g mX8_judges (FinR g mX8_judges none NF r) zF 117 [(0, .ref (ad g 73)), (1, .int x1_), (2, .int u2_), (3, .int x3_), (4, .int u4_), (5, .int v5_)] [] σ_ := by
  unfold X8_judges_L117
  refine lp_ind (P := fun (rec : Int32 → SS → Option SS) => ∀ (v5_ : Int32) (σ_ : SS), rec v5_ σ_ = some r → WT σ_ → RR g mX8_judges (FinR g mX8_judges none NF r) zF 117 [(0, .ref (ad g 73)), (1, .int x1_), (2, .int u2_), (3, .int x3_), (4, .int u4_), (5, .int v5_)] [] σ_) ?_ ?_ n
  · intro v5_ σ_ hr; cases hr
  intro rec ih v5_ σ_ hr hw_
  refine r_iload (pc := 117) (j := 5) dX8_judges_117 rfl ?_
  refine r_iload (pc := 119) (j := 4) dX8_judges_119 rfl ?_
  refine r_icmp_ge (pc := 121) (tgt := 156) dX8_judges_121 rfl (fun hc => ?_) (fun hc => ?_)
  · replace hr := ite_t hc hr
    exact r_pick (ls1 := [(0, .ref (ad g 73)), (1, .int x1_), (2, .int u2_), (3, .int x3_), (4, .int u4_)]) [0, 1, 2, 3, 4] rfl (hk156 σ_ hr hw_)
  replace hr := ite_f hc hr
  refine r_aload_n (pc := 124) (j := 0) dX8_judges_124 rfl rfl ?_
  refine gf8_58 (pc := 125) tw_5_152 rfl dX8_judges_125 ?_
  refine r_iload_n (pc := 128) (j := 2) dX8_judges_128 rfl rfl ?_
  refine r_icmp_lt (pc := 129) (tgt := 156) dX8_judges_129 rfl (fun hc => ?_) (fun hc => ?_)
  · replace hr := ite_t hc hr
    exact r_pick (ls1 := [(0, .ref (ad g 73)), (1, .int x1_), (2, .int u2_), (3, .int x3_), (4, .int u4_)]) [0, 1, 2, 3, 4] rfl (hk156 σ_ hr hw_)
  replace hr := ite_f hc hr
  refine r_aload_n (pc := 132) (j := 0) dX8_judges_132 rfl rfl ?_
  refine r_aload_n (pc := 133) (j := 0) dX8_judges_133 rfl rfl ?_
  refine gf8_55 (pc := 134) tw_5_149 rfl dX8_judges_134 ?_
  refine r_iconst (pc := 137) (v := (1 : Int32)) dX8_judges_137 rfl ?_
  refine r_aload_n (pc := 138) (j := 0) dX8_judges_138 rfl rfl ?_
  refine gf8_53 (pc := 139) tw_5_147 hw_ dX8_judges_139 ?_
  refine r_iload (pc := 142) (j := 5) dX8_judges_142 rfl ?_
  obtain ⟨h21, hr⟩ := grd_inv hr
  refine x_iald (pc := 144) (k := (Int32.toNatClampNeg v5_)) rfl h21 rfl dX8_judges_144 ?_
  refine r_ishl (pc := 145) dX8_judges_145 ?_
  refine r_ior (pc := 146) dX8_judges_146 ?_
  refine pf8_55 (pc := 147) tw_5_149 rfl dX8_judges_147 fun σ22 eσ22 => ?_
  replace hr := vthen_inv hr σ22 eσ22
  have hσ22 := wtI eσ22 hw_
  refine r_iinc (pc := 150) (j := 5) (v := (v5_ + (1 : Int32))) (ls1 := [(5, .int (v5_ + (1 : Int32))), (0, .ref (ad g 73)), (1, .int x1_), (2, .int u2_), (3, .int x3_), (4, .int u4_)]) dX8_judges_150 rfl rfl (nle rfl) rfl ?_
  refine r_goto (pc := 153) (tgt := 117) dX8_judges_153 rfl ?_
  exact r_pick (ls1 := [(0, .ref (ad g 73)), (1, .int x1_), (2, .int u2_), (3, .int x3_), (4, .int u4_), (5, .int (v5_ + (1 : Int32)))]) [1, 2, 3, 4, 5, 0] rfl (ih (v5_ + (1 : Int32)) σ22 hr hσ22)

set_option maxRecDepth 20000 in
theorem sX8_judges_L252 {g : GG} {r : SS} {u1_ : Int32} {u3_ : Int32}  
    (n : Nat) : ∀ (v5_ : Int32) (σ_ : SS), X8_judges_L252 u1_ u3_ n v5_ σ_ = some r → WT σ_ → RR g mX8_judges (FinR g mX8_judges none NF r) zF 252 [(0, .ref (ad g 73)), (1, .int u1_), (3, .int u3_), (5, .int v5_)] [] σ_ := by
  unfold X8_judges_L252
  refine lp_ind (P := fun (rec : Int32 → SS → Option SS) => ∀ (v5_ : Int32) (σ_ : SS), rec v5_ σ_ = some r → WT σ_ → RR g mX8_judges (FinR g mX8_judges none NF r) zF 252 [(0, .ref (ad g 73)), (1, .int u1_), (3, .int u3_), (5, .int v5_)] [] σ_) ?_ ?_ n
  · intro v5_ σ_ hr; cases hr
  intro rec ih v5_ σ_ hr hw_
  refine r_iload (pc := 252) (j := 3) dX8_judges_252 rfl ?_
  refine r_iload_n (pc := 254) (j := 2) dX8_judges_254 rfl rfl ?_
  refine r_icmp_ge (pc := 255) (tgt := 315) dX8_judges_255 rfl (fun hc => ?_) (fun hc => ?_)
  · replace hr := ite_t hc hr
    exact l_ov hr (r_vret (pc := 315) rfl rfl ⟨Nat.le_refl _, Nat.le_refl _⟩ dX8_judges_315)
  replace hr := ite_f hc hr
  refine r_aload_n (pc := 258) (j := 0) dX8_judges_258 rfl rfl ?_
  refine gf8_55 (pc := 259) tw_5_149 rfl dX8_judges_259 ?_
  refine r_iload (pc := 262) (j := 3) dX8_judges_262 rfl ?_
  refine kX8_has (pc := 264) (hf := rfl) tw_6_133 ⟨nle rfl, nle rfl⟩ (nle rfl) dX8_judges_264 ?_
  refine r_ifB_ne (pc := 267) (tgt := 309) dX8_judges_267 rfl (fun hc => ?_) (fun hc => ?_)
  · replace hr := ite_t hc hr
    refine r_iinc (pc := 309) (j := 3) (v := (v5_ + (1 : Int32))) (ls1 := [(5, .int (v5_ + (1 : Int32))), (0, .ref (ad g 73)), (1, .int u1_), (3, .int u3_)]) dX8_judges_309 rfl rfl (nle rfl) rfl ?_
    refine r_goto (pc := 312) (tgt := 252) dX8_judges_312 rfl ?_
    exact r_pick (ls1 := [(0, .ref (ad g 73)), (1, .int u1_), (3, .int u3_), (5, .int (v5_ + (1 : Int32)))]) [1, 2, 3, 0] rfl (ih (v5_ + (1 : Int32)) σ_ hr hw_)
  replace hr := ite_f hc hr
  refine r_aload_n (pc := 270) (j := 0) dX8_judges_270 rfl rfl ?_
  refine gf8_52 (pc := 271) tw_5_146 hw_ dX8_judges_271 ?_
  refine r_bipush (pc := 274) (v := (6 : Int32)) dX8_judges_274 rfl ?_
  refine r_iload_n (pc := 276) (j := 1) dX8_judges_276 rfl rfl ?_
  refine r_imul (pc := 277) dX8_judges_277 ?_
  refine r_iload (pc := 278) (j := 3) dX8_judges_278 rfl ?_
  refine r_iadd (pc := 280) dX8_judges_280 ?_
  obtain ⟨h26, hr⟩ := grd_inv hr
  refine x_iald (pc := 281) (k := (Int32.toNatClampNeg (((6 : Int32) * u1_) + v5_))) rfl h26 rfl dX8_judges_281 ?_
  refine r_aload_n (pc := 282) (j := 0) dX8_judges_282 rfl rfl ?_
  refine gf8_54 (pc := 283) tw_5_148 rfl dX8_judges_283 ?_
  refine r_isub (pc := 286) dX8_judges_286 ?_
  refine r_aload_n (pc := 287) (j := 0) dX8_judges_287 rfl rfl ?_
  refine gf8_26 (pc := 288) tw_5_120 hw_ dX8_judges_288 ?_
  refine r_iconst (pc := 291) (v := (5 : Int32)) dX8_judges_291 rfl ?_
  refine x_iald (pc := 292) (k := 5) rfl (by decide) rfl dX8_judges_292 ?_
  refine r_icmp_lt (pc := 293) (tgt := 309) dX8_judges_293 rfl (fun hc => ?_) (fun hc => ?_)
  · replace hr := ite_t hc hr
    refine r_iinc (pc := 309) (j := 3) (v := (v5_ + (1 : Int32))) (ls1 := [(5, .int (v5_ + (1 : Int32))), (0, .ref (ad g 73)), (1, .int u1_), (3, .int u3_)]) dX8_judges_309 rfl rfl (nle rfl) rfl ?_
    refine r_goto (pc := 312) (tgt := 252) dX8_judges_312 rfl ?_
    exact r_pick (ls1 := [(0, .ref (ad g 73)), (1, .int u1_), (3, .int u3_), (5, .int (v5_ + (1 : Int32)))]) [1, 2, 3, 0] rfl (ih (v5_ + (1 : Int32)) σ_ hr hw_)
  replace hr := ite_f hc hr
  refine r_aload_n (pc := 296) (j := 0) dX8_judges_296 rfl rfl ?_
  refine r_aload_n (pc := 297) (j := 0) dX8_judges_297 rfl rfl ?_
  refine gf8_57 (pc := 298) tw_5_151 rfl dX8_judges_298 ?_
  refine r_iconst (pc := 301) (v := (1 : Int32)) dX8_judges_301 rfl ?_
  refine r_iload (pc := 302) (j := 3) dX8_judges_302 rfl ?_
  refine r_ishl (pc := 304) dX8_judges_304 ?_
  refine r_ior (pc := 305) dX8_judges_305 ?_
  refine pf8_57 (pc := 306) tw_5_151 rfl dX8_judges_306 fun σ27 eσ27 => ?_
  replace hr := vthen_inv hr σ27 eσ27
  have hσ27 := wtI eσ27 hw_
  refine r_iinc (pc := 309) (j := 3) (v := (v5_ + (1 : Int32))) (ls1 := [(5, .int (v5_ + (1 : Int32))), (0, .ref (ad g 73)), (1, .int u1_), (3, .int u3_)]) dX8_judges_309 rfl rfl (nle rfl) rfl ?_
  refine r_goto (pc := 312) (tgt := 252) dX8_judges_312 rfl ?_
  exact r_pick (ls1 := [(0, .ref (ad g 73)), (1, .int u1_), (3, .int u3_), (5, .int (v5_ + (1 : Int32)))]) [1, 2, 3, 0] rfl (ih (v5_ + (1 : Int32)) σ27 hr hσ27)

set_option maxRecDepth 20000 in
theorem sX8_judges {g : GG} {σ : SS} {a1 : Int32} {a2 : Int32} {r : SS} (hr : fX8_judges σ a1 a2 = some r)  : Ct g mX8_judges [.ref (ad g 73), .int a1, .int a2] NF σ none NF r := by
  refine Ct.of (by decide +kernel) (nle rfl) fun hw0 => ?_
  have hw := hw0 rfl
  unfold fX8_judges at hr
  change RR g mX8_judges (FinR g mX8_judges none NF r) zF 0 [(0, .ref (ad g 73)), (1, .int a1), (2, .int a2)] [] σ
  refine r_aload_n (pc := 0) (j := 0) dX8_judges_0 rfl rfl ?_
  refine r_iload_n (pc := 1) (j := 1) dX8_judges_1 rfl rfl ?_
  obtain ⟨σ1, eσ1, hr⟩ := bnd1_inv hr
  refine kX8_laysOrder (pc := 2) eσ1 tw_7_111 ⟨nle rfl, nle rfl⟩ (nle rfl) dX8_judges_2 fun hσ1 => ?_
  refine r_aload_n (pc := 5) (j := 0) dX8_judges_5 rfl rfl ?_
  refine r_iload_n (pc := 6) (j := 1) dX8_judges_6 rfl rfl ?_
  obtain ⟨v2, hv2, hr⟩ := bnd1_inv hr
  refine kX8_boxesOf (pc := 7) hv2 tw_7_27 ⟨nle rfl, nle rfl⟩ (nle rfl) dX8_judges_7 ?_
  refine r_istore_n (pc := 10) (ls1 := [(3, .int v2), (0, .ref (ad g 73)), (1, .int a1), (2, .int a2)]) dX8_judges_10 rfl (nle rfl) rfl ?_
  refine r_aload_n (pc := 11) (j := 1) dX8_judges_11 rfl rfl ?_
  refine r_iconst (pc := 12) (v := (-1 : Int32)) dX8_judges_12 rfl ?_
  refine pf8_58 (pc := 13) tw_5_152 rfl dX8_judges_13 fun σ5 eσ5 => ?_
  replace hr := vthen_inv hr σ5 eσ5
  have hσ5 := wtI eσ5 hσ1
  refine r_iconst (pc := 16) (v := (0 : Int32)) dX8_judges_16 rfl ?_
  refine r_istore (pc := 17) (ls1 := [(4, .int (0 : Int32)), (3, .int v2), (0, .ref (ad g 73)), (1, .int a1), (2, .int a2)]) dX8_judges_17 (nle rfl) rfl ?_
  refine r_iconst (pc := 19) (v := (0 : Int32)) dX8_judges_19 rfl ?_
  refine r_istore (pc := 20) (ls1 := [(5, .int (0 : Int32)), (4, .int (0 : Int32)), (3, .int v2), (0, .ref (ad g 73)), (1, .int a1), (2, .int a2)]) dX8_judges_20 (nle rfl) rfl ?_
  refine r_pick (ls1 := [(0, .ref (ad g 73)), (1, .int a1), (2, .int a2), (3, .int v2), (4, .int (0 : Int32)), (5, .int (0 : Int32))]) [3, 4, 5, 2, 1, 0] rfl ?_
  refine sX8_judges_L22    (fun v15 σ16 hr hσ16 => ?_) fuel (0 : Int32) (0 : Int32) σ5 hr hσ5
  refine r_aload_n (pc := 77) (j := 0) dX8_judges_77 rfl rfl ?_
  refine r_iconst (pc := 78) (v := (0 : Int32)) dX8_judges_78 rfl ?_
  refine pf8_55 (pc := 79) tw_5_149 rfl dX8_judges_79 fun σ17 eσ17 => ?_
  replace hr := vthen_inv hr σ17 eσ17
  have hσ17 := wtI eσ17 hσ16
  refine r_aload_n (pc := 82) (j := 0) dX8_judges_82 rfl rfl ?_
  refine r_iconst (pc := 83) (v := (0 : Int32)) dX8_judges_83 rfl ?_
  refine pf8_57 (pc := 84) tw_5_151 rfl dX8_judges_84 fun σ18 eσ18 => ?_
  replace hr := vthen_inv hr σ18 eσ18
  have hσ18 := wtI eσ18 hσ17
  refine r_aload_n (pc := 87) (j := 0) dX8_judges_87 rfl rfl ?_
  refine r_aload_n (pc := 88) (j := 0) dX8_judges_88 rfl rfl ?_
  refine gf8_58 (pc := 89) tw_5_152 rfl dX8_judges_89 ?_
  refine r_iload_n (pc := 92) (j := 2) dX8_judges_92 rfl rfl ?_
  obtain ⟨j111, ej111, hr⟩ := vth_ex hr
  have hj111 : ∀ (s19 : Int32), j111 s19 = some r → RR g mX8_judges (FinR g mX8_judges none NF r) zF 111 [(0, .ref (ad g 73)), (1, .int a1), (2, .int a2), (3, .int v2), (4, .int v15)] [.int s19, .ref (ad g 73)] σ18 := by
    intro s19 hr
    replace hr := (congrFun ej111 s19).symm.trans hr
    refine pf8_56 (pc := 111) tw_5_150 rfl dX8_judges_111 fun σ20 eσ20 => ?_
    replace hr := vthen_inv hr σ20 eσ20
    have hσ20 := wtI eσ20 hσ18
    refine r_iconst (pc := 114) (v := (0 : Int32)) dX8_judges_114 rfl ?_
    refine r_istore (pc := 115) (ls1 := [(5, .int (0 : Int32)), (0, .ref (ad g 73)), (1, .int a1), (2, .int a2), (3, .int v2), (4, .int v15)]) dX8_judges_115 (nle rfl) rfl ?_
    refine r_pick (ls1 := [(0, .ref (ad g 73)), (1, .int a1), (2, .int a2), (3, .int v2), (4, .int v15), (5, .int (0 : Int32))]) [1, 2, 3, 4, 5, 0] rfl ?_
    refine sX8_judges_L117    (fun σ23 hr hσ23 => ?_) fuel (0 : Int32) σ20 hr hσ20
    refine r_aload_n (pc := 156) (j := 0) dX8_judges_156 rfl rfl ?_
    refine gf8_14 (pc := 157) tw_5_108 hσ23 dX8_judges_157 ?_
    refine r_bipush (pc := 160) (v := (12 : Int32)) dX8_judges_160 rfl ?_
    refine r_aload_n (pc := 162) (j := 0) dX8_judges_162 rfl rfl ?_
    refine gf8_11 (pc := 163) tw_5_105 rfl dX8_judges_163 ?_
    refine r_imul (pc := 166) dX8_judges_166 ?_
    refine r_iload_n (pc := 167) (j := 1) dX8_judges_167 rfl rfl ?_
    refine r_iadd (pc := 168) dX8_judges_168 ?_
    obtain ⟨h24, hr⟩ := grd_inv hr
    refine x_iald (pc := 169) (k := (Int32.toNatClampNeg (((12 : Int32) * (gI σ23 73 11)) + a1))) rfl h24 rfl dX8_judges_169 ?_
    refine r_iconst (pc := 170) (v := (1 : Int32)) dX8_judges_170 rfl ?_
    obtain ⟨j249, ej249, hr⟩ := vth_ex hr
    have hj249 : ∀ (σ25 : SS), j249 σ25 = some r → WT σ25 → RR g mX8_judges (FinR g mX8_judges none NF r) zF 249 [(0, .ref (ad g 73)), (1, .int a1), (3, .int v2)] [] σ25 := by
      intro σ25 hr hσ25
      replace hr := (congrFun ej249 σ25).symm.trans hr
      refine r_iconst (pc := 249) (v := (0 : Int32)) dX8_judges_249 rfl ?_
      refine r_istore (pc := 250) (ls1 := [(5, .int (0 : Int32)), (0, .ref (ad g 73)), (1, .int a1), (3, .int v2)]) dX8_judges_250 (nle rfl) rfl ?_
      refine r_pick (ls1 := [(0, .ref (ad g 73)), (1, .int a1), (3, .int v2), (5, .int (0 : Int32))]) [1, 2, 3, 0] rfl ?_
      refine sX8_judges_L252     fuel (0 : Int32) σ25 hr hσ25
    refine r_icmp_ne (pc := 171) (tgt := 249) dX8_judges_171 rfl (fun hc => ?_) (fun hc => ?_)
    · replace hr := ite_f hc hr
      exact r_pick (ls1 := [(0, .ref (ad g 73)), (1, .int a1), (3, .int v2)]) [0, 1, 3] rfl (hj249 σ23 hr hσ23)
    replace hr := ite_t hc hr
    refine r_aload_n (pc := 174) (j := 0) dX8_judges_174 rfl rfl ?_
    refine gf8_58 (pc := 175) tw_5_152 rfl dX8_judges_175 ?_
    refine r_iload_n (pc := 178) (j := 2) dX8_judges_178 rfl rfl ?_
    refine r_icmp_lt (pc := 179) (tgt := 249) dX8_judges_179 rfl (fun hc => ?_) (fun hc => ?_)
    · replace hr := ite_t hc hr
      exact r_pick (ls1 := [(0, .ref (ad g 73)), (1, .int a1), (3, .int v2)]) [0, 1, 3] rfl (hj249 σ23 hr hσ23)
    replace hr := ite_f hc hr
    refine r_iload (pc := 182) (j := 4) dX8_judges_182 rfl ?_
    refine r_iconst (pc := 184) (v := (1 : Int32)) dX8_judges_184 rfl ?_
    refine r_icmp_le (pc := 185) (tgt := 249) dX8_judges_185 rfl (fun hc => ?_) (fun hc => ?_)
    · replace hr := ite_t hc hr
      exact r_pick (ls1 := [(0, .ref (ad g 73)), (1, .int a1), (3, .int v2)]) [0, 1, 3] rfl (hj249 σ23 hr hσ23)
    replace hr := ite_f hc hr
    refine r_aload_n (pc := 188) (j := 0) dX8_judges_188 rfl rfl ?_
    refine r_iload_n (pc := 189) (j := 1) dX8_judges_189 rfl rfl ?_
    refine r_iconst (pc := 190) (v := (0 : Int32)) dX8_judges_190 rfl ?_
    obtain ⟨v28, hv28, hr⟩ := bnd1_inv hr
    refine kX8_darkAt (pc := 191) hv28 tw_7_115 ⟨nle rfl, nle rfl⟩ (nle rfl) dX8_judges_191 ?_
    refine r_aload_n (pc := 194) (j := 0) dX8_judges_194 rfl rfl ?_
    refine r_iload_n (pc := 195) (j := 1) dX8_judges_195 rfl rfl ?_
    refine r_iconst (pc := 196) (v := (1 : Int32)) dX8_judges_196 rfl ?_
    obtain ⟨v31, hv31, hr⟩ := bnd1_inv hr
    refine kX8_darkAt (pc := 197) hv31 tw_7_115 ⟨nle rfl, nle rfl⟩ (nle rfl) dX8_judges_197 ?_
    refine r_isub (pc := 200) dX8_judges_200 ?_
    refine r_aload_n (pc := 201) (j := 0) dX8_judges_201 rfl rfl ?_
    refine gf8_26 (pc := 202) tw_5_120 hσ23 dX8_judges_202 ?_
    refine r_iconst (pc := 205) (v := (4 : Int32)) dX8_judges_205 rfl ?_
    refine x_iald (pc := 206) (k := 4) rfl (by decide) rfl dX8_judges_206 ?_
    refine r_icmp_lt (pc := 207) (tgt := 244) dX8_judges_207 rfl (fun hc => ?_) (fun hc => ?_)
    · replace hr := ite_t hc hr
      refine r_aload_n (pc := 244) (j := 0) dX8_judges_244 rfl rfl ?_
      refine r_iconst (pc := 245) (v := (2 : Int32)) dX8_judges_245 rfl ?_
      refine pf8_56 (pc := 246) tw_5_150 rfl dX8_judges_246 fun σ34 eσ34 => ?_
      replace hr := vthen_inv hr σ34 eσ34
      have hσ34 := wtI eσ34 hσ23
      exact r_pick (ls1 := [(0, .ref (ad g 73)), (1, .int a1), (3, .int v2)]) [0, 1, 3] rfl (hj249 σ34 hr hσ34)
    replace hr := ite_f hc hr
    refine r_aload_n (pc := 210) (j := 0) dX8_judges_210 rfl rfl ?_
    refine r_aload_n (pc := 211) (j := 0) dX8_judges_211 rfl rfl ?_
    refine gf8_55 (pc := 212) tw_5_149 rfl dX8_judges_212 ?_
    refine r_iconst (pc := 215) (v := (1 : Int32)) dX8_judges_215 rfl ?_
    refine r_aload_n (pc := 216) (j := 0) dX8_judges_216 rfl rfl ?_
    refine gf8_53 (pc := 217) tw_5_147 hσ23 dX8_judges_217 ?_
    refine r_iconst (pc := 220) (v := (0 : Int32)) dX8_judges_220 rfl ?_
    refine x_iald (pc := 221) (k := 0) rfl (by decide) rfl dX8_judges_221 ?_
    refine r_ishl (pc := 222) dX8_judges_222 ?_
    refine r_iconst (pc := 223) (v := (-1 : Int32)) dX8_judges_223 rfl ?_
    refine r_ixor (pc := 224) dX8_judges_224 ?_
    refine r_iand (pc := 225) dX8_judges_225 ?_
    refine pf8_57 (pc := 226) tw_5_151 rfl dX8_judges_226 fun σ35 eσ35 => ?_
    replace hr := vthen_inv hr σ35 eσ35
    have hσ35 := wtI eσ35 hσ23
    refine r_aload_n (pc := 229) (j := 0) dX8_judges_229 rfl rfl ?_
    refine r_iconst (pc := 230) (v := (1 : Int32)) dX8_judges_230 rfl ?_
    refine r_aload_n (pc := 231) (j := 0) dX8_judges_231 rfl rfl ?_
    refine gf8_53 (pc := 232) tw_5_147 hσ35 dX8_judges_232 ?_
    refine r_iconst (pc := 235) (v := (0 : Int32)) dX8_judges_235 rfl ?_
    refine x_iald (pc := 236) (k := 0) rfl (by decide) rfl dX8_judges_236 ?_
    refine r_ishl (pc := 237) dX8_judges_237 ?_
    refine pf8_55 (pc := 238) tw_5_149 rfl dX8_judges_238 fun σ36 eσ36 => ?_
    replace hr := vthen_inv hr σ36 eσ36
    have hσ36 := wtI eσ36 hσ35
    refine r_goto (pc := 241) (tgt := 249) dX8_judges_241 rfl ?_
    exact r_pick (ls1 := [(0, .ref (ad g 73)), (1, .int a1), (3, .int v2)]) [0, 1, 3] rfl (hj249 σ36 hr hσ36)
  obtain ⟨j110, ej110, hr⟩ := vth_ex hr
  have hj110 : j110 () = some r → RR g mX8_judges (FinR g mX8_judges none NF r) zF 110 [(0, .ref (ad g 73)), (1, .int a1), (2, .int a2), (3, .int v2), (4, .int v15)] [.ref (ad g 73)] σ18 := by
    intro  hr
    replace hr := (congrFun ej110 ()).symm.trans hr
    refine r_iconst (pc := 110) (v := (0 : Int32)) dX8_judges_110 rfl ?_
    exact r_pick (ls1 := [(0, .ref (ad g 73)), (1, .int a1), (2, .int a2), (3, .int v2), (4, .int v15)]) [0, 1, 2, 3, 4] rfl (hj111 (0 : Int32) hr)
  refine r_icmp_ge (pc := 93) (tgt := 110) dX8_judges_93 rfl (fun hc => ?_) (fun hc => ?_)
  · replace hr := ite_t hc hr
    exact r_pick (ls1 := [(0, .ref (ad g 73)), (1, .int a1), (2, .int a2), (3, .int v2), (4, .int v15)]) [0, 1, 2, 3, 4] rfl (hj110  hr)
  replace hr := ite_f hc hr
  refine r_iconst (pc := 96) (v := (2 : Int32)) dX8_judges_96 rfl ?_
  refine r_aload_n (pc := 97) (j := 0) dX8_judges_97 rfl rfl ?_
  refine gf8_58 (pc := 98) tw_5_152 rfl dX8_judges_98 ?_
  refine r_imul (pc := 101) dX8_judges_101 ?_
  refine r_iload_n (pc := 102) (j := 2) dX8_judges_102 rfl rfl ?_
  refine r_icmp_lt (pc := 103) (tgt := 110) dX8_judges_103 rfl (fun hc => ?_) (fun hc => ?_)
  · replace hr := ite_t hc hr
    exact r_pick (ls1 := [(0, .ref (ad g 73)), (1, .int a1), (2, .int a2), (3, .int v2), (4, .int v15)]) [0, 1, 2, 3, 4] rfl (hj110  hr)
  replace hr := ite_f hc hr
  refine r_iconst (pc := 106) (v := (1 : Int32)) dX8_judges_106 rfl ?_
  refine r_goto (pc := 107) (tgt := 111) dX8_judges_107 rfl ?_
  exact r_pick (ls1 := [(0, .ref (ad g 73)), (1, .int a1), (2, .int a2), (3, .int v2), (4, .int v15)]) [0, 1, 2, 3, 4] rfl (hj111 (1 : Int32) hr)

theorem kX8_judges {g : GG} {σ : SS} {a1 : Int32} {a2 : Int32} {σ2 : SS} {M : MM} {F : State → Array Value → List Frame → State → Prop} {pc index : Nat} {ls : List (Nat × Value)} {rest : List Value} (hf : fX8_judges σ a1 a2 = some σ2)  (hl : Cond.methodLink M.1.cls index yX8_judges ∈ lw_gt) (hR : mX8_judges.2.2.2.2.frames + 1 ≤ M.2.2.2.2.frames ∧ 8 + (mX8_judges.2.2.1 + 11) + mX8_judges.2.2.2.2.locals ≤ M.2.2.2.2.locals) (hrest : (rest.map fun v => v.category).sum ≤ 8) (hd : decode M.2.1 pc = .ok (.invokevirtual index, 3)) (k : WT σ2 → RR g M F zF (pc + 3) ls rest σ2) : RR g M F zF pc ls (.int a2 :: .int a1 :: .ref (ad g 73) :: rest) σ :=
  r_callV (z := zF) (N := mX8_judges) (nn := 2) (o1 := none) (sX8_judges hf ) (rfl : shp 73 = (8, 0)) (by decide) (shp_le (rfl : shp 73 = (8, 0)) (nle rfl)) (ci := 8) rfl rfl tw_7_110 tw_1_10 hl tw_7_109 tp_75 ⟨by decide, by decide, rfl⟩ hR rfl hrest hd ⟨Nat.zero_le _, Nat.zero_le _⟩ rfl (fun h => k (h rfl))

theorem dX8_keyOf_0 : decode cX8_keyOf 0 = .ok (.aload_n 0, 1) := by decide +kernel
theorem dX8_keyOf_1 : decode cX8_keyOf 1 = .ok (.getfield 23, 3) := by decide +kernel
theorem dX8_keyOf_4 : decode cX8_keyOf 4 = .ok (.bipush 12, 2) := by decide +kernel
theorem dX8_keyOf_6 : decode cX8_keyOf 6 = .ok (.aload_n 0, 1) := by decide +kernel
theorem dX8_keyOf_7 : decode cX8_keyOf 7 = .ok (.getfield 206, 3) := by decide +kernel
theorem dX8_keyOf_10 : decode cX8_keyOf 10 = .ok (.imul, 1) := by decide +kernel
theorem dX8_keyOf_11 : decode cX8_keyOf 11 = .ok (.iload_n 1, 1) := by decide +kernel
theorem dX8_keyOf_12 : decode cX8_keyOf 12 = .ok (.iadd, 1) := by decide +kernel
theorem dX8_keyOf_13 : decode cX8_keyOf 13 = .ok (.iaload, 1) := by decide +kernel
theorem dX8_keyOf_14 : decode cX8_keyOf 14 = .ok (.ireturn, 1) := by decide +kernel
def mX8_keyOf : MM := (yX8_keyOf, cX8_keyOf, 2, Option.some Jvm.ClassFile.FieldType.int, { frames := 0, cells := 0, slots := 0, locals := 0 })
def fX8_keyOf (σ0 : SS) (a1 : Int32) : Option Int32 :=
  grd (inb (((12 : Int32) * (gI σ0 73 11)) + a1) 24) <|
  some (gI σ0 78 (Int32.toNatClampNeg (((12 : Int32) * (gI σ0 73 11)) + a1)))

set_option maxRecDepth 20000 in
theorem sX8_keyOf {g : GG} {σ0 : SS} {a1 : Int32} {r : Int32} (hr : fX8_keyOf σ0 a1 = some r)  : Ct g mX8_keyOf [.ref (ad g 73), .int a1] NF σ0 (some (.int r)) NF σ0 := by
  refine Ct.of (by decide +kernel) (nle rfl) fun hw0 => ?_
  have hw := hw0 rfl
  unfold fX8_keyOf at hr
  change RR g mX8_keyOf (FinR g mX8_keyOf (some (.int r)) NF σ0) zF 0 [(0, .ref (ad g 73)), (1, .int a1)] [] σ0
  refine r_aload_n (pc := 0) (j := 0) dX8_keyOf_0 rfl rfl ?_
  refine gf8_16 (pc := 1) tw_5_110 hw dX8_keyOf_1 ?_
  refine r_bipush (pc := 4) (v := (12 : Int32)) dX8_keyOf_4 rfl ?_
  refine r_aload_n (pc := 6) (j := 0) dX8_keyOf_6 rfl rfl ?_
  refine gf8_11 (pc := 7) tw_5_105 rfl dX8_keyOf_7 ?_
  refine r_imul (pc := 10) dX8_keyOf_10 ?_
  refine r_iload_n (pc := 11) (j := 1) dX8_keyOf_11 rfl rfl ?_
  refine r_iadd (pc := 12) dX8_keyOf_12 ?_
  obtain ⟨h1, hr⟩ := grd_inv hr
  refine x_iald (pc := 13) (k := (Int32.toNatClampNeg (((12 : Int32) * (gI σ0 73 11)) + a1))) rfl h1 rfl dX8_keyOf_13 ?_
  exact l_opi hr (r_iret (pc := 14) (v := (gI σ0 78 (Int32.toNatClampNeg (((12 : Int32) * (gI σ0 73 11)) + a1)))) rfl rfl ⟨Nat.le_refl _, Nat.le_refl _⟩ dX8_keyOf_14)

theorem kX8_keyOf {g : GG} {σ0 : SS} {a1 : Int32} {v : Int32} {M : MM} {F : State → Array Value → List Frame → State → Prop} {pc index : Nat} {ls : List (Nat × Value)} {rest : List Value} (hf : fX8_keyOf σ0 a1 = some v)  (hl : Cond.methodLink M.1.cls index yX8_keyOf ∈ lw_gt) (hR : mX8_keyOf.2.2.2.2.frames + 1 ≤ M.2.2.2.2.frames ∧ 8 + (mX8_keyOf.2.2.1 + 11) + mX8_keyOf.2.2.2.2.locals ≤ M.2.2.2.2.locals) (hrest : (rest.map fun v => v.category).sum ≤ 8) (hd : decode M.2.1 pc = .ok (.invokevirtual index, 3)) (k : RR g M F zF (pc + 3) ls (.int v :: rest) σ0) : RR g M F zF pc ls (.int a1 :: .ref (ad g 73) :: rest) σ0 :=
  r_callV (z := zF) (N := mX8_keyOf) (nn := 1) (o1 := some (.int v)) (sX8_keyOf hf ) (rfl : shp 73 = (8, 0)) (by decide) (shp_le (rfl : shp 73 = (8, 0)) (nle rfl)) (ci := 8) rfl rfl tw_7_126 tw_1_10 hl tw_7_125 tp_79 ⟨by decide, by decide, rfl⟩ hR rfl hrest hd ⟨Nat.zero_le _, Nat.zero_le _⟩ rfl (fun h => k)

theorem dX8_worthOf_0 : decode cX8_worthOf 0 = .ok (.aload_n 0, 1) := by decide +kernel
theorem dX8_worthOf_1 : decode cX8_worthOf 1 = .ok (.getfield 26, 3) := by decide +kernel
theorem dX8_worthOf_4 : decode cX8_worthOf 4 = .ok (.bipush 12, 2) := by decide +kernel
theorem dX8_worthOf_6 : decode cX8_worthOf 6 = .ok (.aload_n 0, 1) := by decide +kernel
theorem dX8_worthOf_7 : decode cX8_worthOf 7 = .ok (.getfield 206, 3) := by decide +kernel
theorem dX8_worthOf_10 : decode cX8_worthOf 10 = .ok (.imul, 1) := by decide +kernel
theorem dX8_worthOf_11 : decode cX8_worthOf 11 = .ok (.iload_n 1, 1) := by decide +kernel
theorem dX8_worthOf_12 : decode cX8_worthOf 12 = .ok (.iadd, 1) := by decide +kernel
theorem dX8_worthOf_13 : decode cX8_worthOf 13 = .ok (.iaload, 1) := by decide +kernel
theorem dX8_worthOf_14 : decode cX8_worthOf 14 = .ok (.ireturn, 1) := by decide +kernel
def mX8_worthOf : MM := (yX8_worthOf, cX8_worthOf, 2, Option.some Jvm.ClassFile.FieldType.int, { frames := 0, cells := 0, slots := 0, locals := 0 })
def fX8_worthOf (σ0 : SS) (a1 : Int32) : Option Int32 :=
  grd (inb (((12 : Int32) * (gI σ0 73 11)) + a1) 24) <|
  some (gI σ0 79 (Int32.toNatClampNeg (((12 : Int32) * (gI σ0 73 11)) + a1)))

set_option maxRecDepth 20000 in
theorem sX8_worthOf {g : GG} {σ0 : SS} {a1 : Int32} {r : Int32} (hr : fX8_worthOf σ0 a1 = some r)  : Ct g mX8_worthOf [.ref (ad g 73), .int a1] NF σ0 (some (.int r)) NF σ0 := by
  refine Ct.of (by decide +kernel) (nle rfl) fun hw0 => ?_
  have hw := hw0 rfl
  unfold fX8_worthOf at hr
  change RR g mX8_worthOf (FinR g mX8_worthOf (some (.int r)) NF σ0) zF 0 [(0, .ref (ad g 73)), (1, .int a1)] [] σ0
  refine r_aload_n (pc := 0) (j := 0) dX8_worthOf_0 rfl rfl ?_
  refine gf8_17 (pc := 1) tw_5_111 hw dX8_worthOf_1 ?_
  refine r_bipush (pc := 4) (v := (12 : Int32)) dX8_worthOf_4 rfl ?_
  refine r_aload_n (pc := 6) (j := 0) dX8_worthOf_6 rfl rfl ?_
  refine gf8_11 (pc := 7) tw_5_105 rfl dX8_worthOf_7 ?_
  refine r_imul (pc := 10) dX8_worthOf_10 ?_
  refine r_iload_n (pc := 11) (j := 1) dX8_worthOf_11 rfl rfl ?_
  refine r_iadd (pc := 12) dX8_worthOf_12 ?_
  obtain ⟨h1, hr⟩ := grd_inv hr
  refine x_iald (pc := 13) (k := (Int32.toNatClampNeg (((12 : Int32) * (gI σ0 73 11)) + a1))) rfl h1 rfl dX8_worthOf_13 ?_
  exact l_opi hr (r_iret (pc := 14) (v := (gI σ0 79 (Int32.toNatClampNeg (((12 : Int32) * (gI σ0 73 11)) + a1)))) rfl rfl ⟨Nat.le_refl _, Nat.le_refl _⟩ dX8_worthOf_14)

theorem kX8_worthOf {g : GG} {σ0 : SS} {a1 : Int32} {v : Int32} {M : MM} {F : State → Array Value → List Frame → State → Prop} {pc index : Nat} {ls : List (Nat × Value)} {rest : List Value} (hf : fX8_worthOf σ0 a1 = some v)  (hl : Cond.methodLink M.1.cls index yX8_worthOf ∈ lw_gt) (hR : mX8_worthOf.2.2.2.2.frames + 1 ≤ M.2.2.2.2.frames ∧ 8 + (mX8_worthOf.2.2.1 + 11) + mX8_worthOf.2.2.2.2.locals ≤ M.2.2.2.2.locals) (hrest : (rest.map fun v => v.category).sum ≤ 8) (hd : decode M.2.1 pc = .ok (.invokevirtual index, 3)) (k : RR g M F zF (pc + 3) ls (.int v :: rest) σ0) : RR g M F zF pc ls (.int a1 :: .ref (ad g 73) :: rest) σ0 :=
  r_callV (z := zF) (N := mX8_worthOf) (nn := 1) (o1 := some (.int v)) (sX8_worthOf hf ) (rfl : shp 73 = (8, 0)) (by decide) (shp_le (rfl : shp 73 = (8, 0)) (nle rfl)) (ci := 8) rfl rfl tw_7_130 tw_1_10 hl tw_7_129 tp_80 ⟨by decide, by decide, rfl⟩ hR rfl hrest hd ⟨Nat.zero_le _, Nat.zero_le _⟩ rfl (fun h => k)

theorem dX8_pointsOf_0 : decode cX8_pointsOf 0 = .ok (.aload_n 0, 1) := by decide +kernel
theorem dX8_pointsOf_1 : decode cX8_pointsOf 1 = .ok (.iload_n 1, 1) := by decide +kernel
theorem dX8_pointsOf_2 : decode cX8_pointsOf 2 = .ok (.invokevirtual 394, 3) := by decide +kernel
theorem dX8_pointsOf_5 : decode cX8_pointsOf 5 = .ok (.ifCond .eq 10, 3) := by decide +kernel
theorem dX8_pointsOf_8 : decode cX8_pointsOf 8 = .ok (.aload_n 0, 1) := by decide +kernel
theorem dX8_pointsOf_9 : decode cX8_pointsOf 9 = .ok (.getfield 391, 3) := by decide +kernel
theorem dX8_pointsOf_12 : decode cX8_pointsOf 12 = .ok (.ifCond .eq 5, 3) := by decide +kernel
theorem dX8_pointsOf_15 : decode cX8_pointsOf 15 = .ok (.iconst 0, 1) := by decide +kernel
theorem dX8_pointsOf_16 : decode cX8_pointsOf 16 = .ok (.ireturn, 1) := by decide +kernel
theorem dX8_pointsOf_17 : decode cX8_pointsOf 17 = .ok (.aload_n 0, 1) := by decide +kernel
theorem dX8_pointsOf_18 : decode cX8_pointsOf 18 = .ok (.getfield 385, 3) := by decide +kernel
theorem dX8_pointsOf_21 : decode cX8_pointsOf 21 = .ok (.aload_n 0, 1) := by decide +kernel
theorem dX8_pointsOf_22 : decode cX8_pointsOf 22 = .ok (.iload_n 1, 1) := by decide +kernel
theorem dX8_pointsOf_23 : decode cX8_pointsOf 23 = .ok (.invokevirtual 394, 3) := by decide +kernel
theorem dX8_pointsOf_26 : decode cX8_pointsOf 26 = .ok (.if_icmp .ne 11, 3) := by decide +kernel
theorem dX8_pointsOf_29 : decode cX8_pointsOf 29 = .ok (.aload_n 0, 1) := by decide +kernel
theorem dX8_pointsOf_30 : decode cX8_pointsOf 30 = .ok (.iload_n 1, 1) := by decide +kernel
theorem dX8_pointsOf_31 : decode cX8_pointsOf 31 = .ok (.invokevirtual 397, 3) := by decide +kernel
theorem dX8_pointsOf_34 : decode cX8_pointsOf 34 = .ok (.goto 22, 3) := by decide +kernel
theorem dX8_pointsOf_37 : decode cX8_pointsOf 37 = .ok (.aload_n 0, 1) := by decide +kernel
theorem dX8_pointsOf_38 : decode cX8_pointsOf 38 = .ok (.getfield 385, 3) := by decide +kernel
theorem dX8_pointsOf_41 : decode cX8_pointsOf 41 = .ok (.ifCond .eq 14, 3) := by decide +kernel
theorem dX8_pointsOf_44 : decode cX8_pointsOf 44 = .ok (.aload_n 0, 1) := by decide +kernel
theorem dX8_pointsOf_45 : decode cX8_pointsOf 45 = .ok (.getfield 53, 3) := by decide +kernel
theorem dX8_pointsOf_48 : decode cX8_pointsOf 48 = .ok (.bipush 6, 2) := by decide +kernel
theorem dX8_pointsOf_50 : decode cX8_pointsOf 50 = .ok (.iaload, 1) := by decide +kernel
theorem dX8_pointsOf_51 : decode cX8_pointsOf 51 = .ok (.ineg, 1) := by decide +kernel
theorem dX8_pointsOf_52 : decode cX8_pointsOf 52 = .ok (.goto 4, 3) := by decide +kernel
theorem dX8_pointsOf_55 : decode cX8_pointsOf 55 = .ok (.iconst 0, 1) := by decide +kernel
theorem dX8_pointsOf_56 : decode cX8_pointsOf 56 = .ok (.ireturn, 1) := by decide +kernel
def mX8_pointsOf : MM := (yX8_pointsOf, cX8_pointsOf, 2, Option.some Jvm.ClassFile.FieldType.int, { frames := 1, cells := 0, slots := 0, locals := 21 })
def fX8_pointsOf (σ0 : SS) (a1 : Int32) : Option Int32 :=
  bnd1 (fX8_keyOf σ0 a1) fun v1 =>
  if v1 = 0 then (
    some (0 : Int32)
    ) else (
    if (gI σ0 73 56) = 0 then (
      bnd1 (fX8_keyOf σ0 a1) fun v4 =>
      if (gI σ0 73 55) = v4 then (
        bnd1 (fX8_worthOf σ0 a1) fun v7 =>
        some v7
        ) else (
        if (gI σ0 73 55) = 0 then (
          some (0 : Int32)
          ) else (
          some (-(gI σ0 88 6))
          )
        )
      ) else (
      some (0 : Int32)
      )
    )

set_option maxRecDepth 20000 in
theorem sX8_pointsOf {g : GG} {σ0 : SS} {a1 : Int32} {r : Int32} (hr : fX8_pointsOf σ0 a1 = some r)  : Ct g mX8_pointsOf [.ref (ad g 73), .int a1] NF σ0 (some (.int r)) NF σ0 := by
  refine Ct.of (by decide +kernel) (nle rfl) fun hw0 => ?_
  have hw := hw0 rfl
  unfold fX8_pointsOf at hr
  change RR g mX8_pointsOf (FinR g mX8_pointsOf (some (.int r)) NF σ0) zF 0 [(0, .ref (ad g 73)), (1, .int a1)] [] σ0
  refine r_aload_n (pc := 0) (j := 0) dX8_pointsOf_0 rfl rfl ?_
  refine r_iload_n (pc := 1) (j := 1) dX8_pointsOf_1 rfl rfl ?_
  obtain ⟨v1, hv1, hr⟩ := bnd1_inv hr
  refine kX8_keyOf (pc := 2) hv1 tw_7_123 ⟨nle rfl, nle rfl⟩ (nle rfl) dX8_pointsOf_2 ?_
  refine r_if_eq (pc := 5) (tgt := 15) dX8_pointsOf_5 rfl (fun hc => ?_) (fun hc => ?_)
  · replace hr := ite_t hc hr
    refine r_iconst (pc := 15) (v := (0 : Int32)) dX8_pointsOf_15 rfl ?_
    exact l_opi hr (r_iret (pc := 16) (v := (0 : Int32)) rfl rfl ⟨Nat.le_refl _, Nat.le_refl _⟩ dX8_pointsOf_16)
  replace hr := ite_f hc hr
  refine r_aload_n (pc := 8) (j := 0) dX8_pointsOf_8 rfl rfl ?_
  refine gf8_56 (pc := 9) tw_5_150 rfl dX8_pointsOf_9 ?_
  refine r_if_eq (pc := 12) (tgt := 17) dX8_pointsOf_12 rfl (fun hc => ?_) (fun hc => ?_)
  · replace hr := ite_t hc hr
    refine r_aload_n (pc := 17) (j := 0) dX8_pointsOf_17 rfl rfl ?_
    refine gf8_55 (pc := 18) tw_5_149 rfl dX8_pointsOf_18 ?_
    refine r_aload_n (pc := 21) (j := 0) dX8_pointsOf_21 rfl rfl ?_
    refine r_iload_n (pc := 22) (j := 1) dX8_pointsOf_22 rfl rfl ?_
    obtain ⟨v4, hv4, hr⟩ := bnd1_inv hr
    refine kX8_keyOf (pc := 23) hv4 tw_7_123 ⟨nle rfl, nle rfl⟩ (nle rfl) dX8_pointsOf_23 ?_
    refine r_icmp_ne (pc := 26) (tgt := 37) dX8_pointsOf_26 rfl (fun hc => ?_) (fun hc => ?_)
    · replace hr := ite_f hc hr
      refine r_aload_n (pc := 37) (j := 0) dX8_pointsOf_37 rfl rfl ?_
      refine gf8_55 (pc := 38) tw_5_149 rfl dX8_pointsOf_38 ?_
      refine r_if_eq (pc := 41) (tgt := 55) dX8_pointsOf_41 rfl (fun hc => ?_) (fun hc => ?_)
      · replace hr := ite_t hc hr
        refine r_iconst (pc := 55) (v := (0 : Int32)) dX8_pointsOf_55 rfl ?_
        exact l_opi hr (r_iret (pc := 56) (v := (0 : Int32)) rfl rfl ⟨Nat.le_refl _, Nat.le_refl _⟩ dX8_pointsOf_56)
      replace hr := ite_f hc hr
      refine r_aload_n (pc := 44) (j := 0) dX8_pointsOf_44 rfl rfl ?_
      refine gf8_26 (pc := 45) tw_5_120 hw dX8_pointsOf_45 ?_
      refine r_bipush (pc := 48) (v := (6 : Int32)) dX8_pointsOf_48 rfl ?_
      refine x_iald (pc := 50) (k := 6) rfl (by decide) rfl dX8_pointsOf_50 ?_
      refine r_ineg (pc := 51) dX8_pointsOf_51 ?_
      refine r_goto (pc := 52) (tgt := 56) dX8_pointsOf_52 rfl ?_
      exact l_opi hr (r_iret (pc := 56) (v := (-(gI σ0 88 6))) rfl rfl ⟨Nat.le_refl _, Nat.le_refl _⟩ dX8_pointsOf_56)
    replace hr := ite_t hc hr
    refine r_aload_n (pc := 29) (j := 0) dX8_pointsOf_29 rfl rfl ?_
    refine r_iload_n (pc := 30) (j := 1) dX8_pointsOf_30 rfl rfl ?_
    obtain ⟨v7, hv7, hr⟩ := bnd1_inv hr
    refine kX8_worthOf (pc := 31) hv7 tw_7_127 ⟨nle rfl, nle rfl⟩ (nle rfl) dX8_pointsOf_31 ?_
    refine r_goto (pc := 34) (tgt := 56) dX8_pointsOf_34 rfl ?_
    exact l_opi hr (r_iret (pc := 56) (v := v7) rfl rfl ⟨Nat.le_refl _, Nat.le_refl _⟩ dX8_pointsOf_56)
  replace hr := ite_f hc hr
  refine r_iconst (pc := 15) (v := (0 : Int32)) dX8_pointsOf_15 rfl ?_
  exact l_opi hr (r_iret (pc := 16) (v := (0 : Int32)) rfl rfl ⟨Nat.le_refl _, Nat.le_refl _⟩ dX8_pointsOf_16)

theorem kX8_pointsOf {g : GG} {σ0 : SS} {a1 : Int32} {v : Int32} {M : MM} {F : State → Array Value → List Frame → State → Prop} {pc index : Nat} {ls : List (Nat × Value)} {rest : List Value} (hf : fX8_pointsOf σ0 a1 = some v)  (hl : Cond.methodLink M.1.cls index yX8_pointsOf ∈ lw_gt) (hR : mX8_pointsOf.2.2.2.2.frames + 1 ≤ M.2.2.2.2.frames ∧ 8 + (mX8_pointsOf.2.2.1 + 11) + mX8_pointsOf.2.2.2.2.locals ≤ M.2.2.2.2.locals) (hrest : (rest.map fun v => v.category).sum ≤ 8) (hd : decode M.2.1 pc = .ok (.invokevirtual index, 3)) (k : RR g M F zF (pc + 3) ls (.int v :: rest) σ0) : RR g M F zF pc ls (.int a1 :: .ref (ad g 73) :: rest) σ0 :=
  r_callV (z := zF) (N := mX8_pointsOf) (nn := 1) (o1 := some (.int v)) (sX8_pointsOf hf ) (rfl : shp 73 = (8, 0)) (by decide) (shp_le (rfl : shp 73 = (8, 0)) (nle rfl)) (ci := 8) rfl rfl tw_7_122 tw_1_10 hl tw_7_121 tp_78 ⟨by decide, by decide, rfl⟩ hR rfl hrest hd ⟨Nat.zero_le _, Nat.zero_le _⟩ rfl (fun h => k)

