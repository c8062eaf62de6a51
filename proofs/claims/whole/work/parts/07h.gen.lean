/-! Walks written by a program out of the bytecode: each method as a function over the store, and its contract. -/
theorem dX8_inks_0 : decode cX8_inks 0 = .ok (.bipush 6, 2) := by decide +kernel
theorem dX8_inks_2 : decode cX8_inks 2 = .ok (.bipush 12, 2) := by decide +kernel
theorem dX8_inks_4 : decode cX8_inks 4 = .ok (.aload_n 0, 1) := by decide +kernel
theorem dX8_inks_5 : decode cX8_inks 5 = .ok (.getfield 206, 3) := by decide +kernel
theorem dX8_inks_8 : decode cX8_inks 8 = .ok (.imul, 1) := by decide +kernel
theorem dX8_inks_9 : decode cX8_inks 9 = .ok (.iload_n 1, 1) := by decide +kernel
theorem dX8_inks_10 : decode cX8_inks 10 = .ok (.iadd, 1) := by decide +kernel
theorem dX8_inks_11 : decode cX8_inks 11 = .ok (.imul, 1) := by decide +kernel
theorem dX8_inks_12 : decode cX8_inks 12 = .ok (.iload_n 2, 1) := by decide +kernel
theorem dX8_inks_13 : decode cX8_inks 13 = .ok (.iadd, 1) := by decide +kernel
theorem dX8_inks_14 : decode cX8_inks 14 = .ok (.istore 4, 2) := by decide +kernel
theorem dX8_inks_16 : decode cX8_inks 16 = .ok (.iconst 0, 1) := by decide +kernel
theorem dX8_inks_17 : decode cX8_inks 17 = .ok (.istore 5, 2) := by decide +kernel
theorem dX8_inks_19 : decode cX8_inks 19 = .ok (.iload 5, 2) := by decide +kernel
theorem dX8_inks_21 : decode cX8_inks 21 = .ok (.aload_n 0, 1) := by decide +kernel
theorem dX8_inks_22 : decode cX8_inks 22 = .ok (.iconst 3, 1) := by decide +kernel
theorem dX8_inks_23 : decode cX8_inks 23 = .ok (.invokevirtual 262, 3) := by decide +kernel
theorem dX8_inks_26 : decode cX8_inks 26 = .ok (.if_icmp .ge 125, 3) := by decide +kernel
theorem dX8_inks_29 : decode cX8_inks 29 = .ok (.iconst 0, 1) := by decide +kernel
theorem dX8_inks_30 : decode cX8_inks 30 = .ok (.istore 6, 2) := by decide +kernel
theorem dX8_inks_32 : decode cX8_inks 32 = .ok (.iload 6, 2) := by decide +kernel
theorem dX8_inks_34 : decode cX8_inks 34 = .ok (.aload_n 0, 1) := by decide +kernel
theorem dX8_inks_35 : decode cX8_inks 35 = .ok (.iconst 2, 1) := by decide +kernel
theorem dX8_inks_36 : decode cX8_inks 36 = .ok (.invokevirtual 262, 3) := by decide +kernel
theorem dX8_inks_39 : decode cX8_inks 39 = .ok (.if_icmp .ge 106, 3) := by decide +kernel
theorem dX8_inks_42 : decode cX8_inks 42 = .ok (.aload_n 0, 1) := by decide +kernel
theorem dX8_inks_43 : decode cX8_inks 43 = .ok (.iconst 2, 1) := by decide +kernel
theorem dX8_inks_44 : decode cX8_inks 44 = .ok (.aload_n 0, 1) := by decide +kernel
theorem dX8_inks_45 : decode cX8_inks 45 = .ok (.getfield 29, 3) := by decide +kernel
theorem dX8_inks_48 : decode cX8_inks 48 = .ok (.iload 4, 2) := by decide +kernel
theorem dX8_inks_50 : decode cX8_inks 50 = .ok (.iaload, 1) := by decide +kernel
theorem dX8_inks_51 : decode cX8_inks 51 = .ok (.iload 6, 2) := by decide +kernel
theorem dX8_inks_53 : decode cX8_inks 53 = .ok (.iadd, 1) := by decide +kernel
theorem dX8_inks_54 : decode cX8_inks 54 = .ok (.imul, 1) := by decide +kernel
theorem dX8_inks_55 : decode cX8_inks 55 = .ok (.iconst 1, 1) := by decide +kernel
theorem dX8_inks_56 : decode cX8_inks 56 = .ok (.iadd, 1) := by decide +kernel
theorem dX8_inks_57 : decode cX8_inks 57 = .ok (.iconst 2, 1) := by decide +kernel
theorem dX8_inks_58 : decode cX8_inks 58 = .ok (.aload_n 0, 1) := by decide +kernel
theorem dX8_inks_59 : decode cX8_inks 59 = .ok (.getfield 32, 3) := by decide +kernel
theorem dX8_inks_62 : decode cX8_inks 62 = .ok (.iload 4, 2) := by decide +kernel
theorem dX8_inks_64 : decode cX8_inks 64 = .ok (.iaload, 1) := by decide +kernel
theorem dX8_inks_65 : decode cX8_inks 65 = .ok (.iload 5, 2) := by decide +kernel
theorem dX8_inks_67 : decode cX8_inks 67 = .ok (.iadd, 1) := by decide +kernel
theorem dX8_inks_68 : decode cX8_inks 68 = .ok (.imul, 1) := by decide +kernel
theorem dX8_inks_69 : decode cX8_inks 69 = .ok (.iconst 1, 1) := by decide +kernel
theorem dX8_inks_70 : decode cX8_inks 70 = .ok (.iadd, 1) := by decide +kernel
theorem dX8_inks_71 : decode cX8_inks 71 = .ok (.iconst 1, 1) := by decide +kernel
theorem dX8_inks_72 : decode cX8_inks 72 = .ok (.invokevirtual 357, 3) := by decide +kernel
theorem dX8_inks_75 : decode cX8_inks 75 = .ok (.istore 7, 2) := by decide +kernel
theorem dX8_inks_77 : decode cX8_inks 77 = .ok (.aload_n 0, 1) := by decide +kernel
theorem dX8_inks_78 : decode cX8_inks 78 = .ok (.iconst 2, 1) := by decide +kernel
theorem dX8_inks_79 : decode cX8_inks 79 = .ok (.aload_n 0, 1) := by decide +kernel
theorem dX8_inks_80 : decode cX8_inks 80 = .ok (.getfield 29, 3) := by decide +kernel
theorem dX8_inks_83 : decode cX8_inks 83 = .ok (.iload 4, 2) := by decide +kernel
theorem dX8_inks_85 : decode cX8_inks 85 = .ok (.iaload, 1) := by decide +kernel
theorem dX8_inks_86 : decode cX8_inks 86 = .ok (.iload 6, 2) := by decide +kernel
theorem dX8_inks_88 : decode cX8_inks 88 = .ok (.iadd, 1) := by decide +kernel
theorem dX8_inks_89 : decode cX8_inks 89 = .ok (.imul, 1) := by decide +kernel
theorem dX8_inks_90 : decode cX8_inks 90 = .ok (.iconst 1, 1) := by decide +kernel
theorem dX8_inks_91 : decode cX8_inks 91 = .ok (.iadd, 1) := by decide +kernel
theorem dX8_inks_92 : decode cX8_inks 92 = .ok (.iconst 2, 1) := by decide +kernel
theorem dX8_inks_93 : decode cX8_inks 93 = .ok (.aload_n 0, 1) := by decide +kernel
theorem dX8_inks_94 : decode cX8_inks 94 = .ok (.getfield 32, 3) := by decide +kernel
theorem dX8_inks_97 : decode cX8_inks 97 = .ok (.iload 4, 2) := by decide +kernel
theorem dX8_inks_99 : decode cX8_inks 99 = .ok (.iaload, 1) := by decide +kernel
theorem dX8_inks_100 : decode cX8_inks 100 = .ok (.iload 5, 2) := by decide +kernel
theorem dX8_inks_102 : decode cX8_inks 102 = .ok (.iadd, 1) := by decide +kernel
theorem dX8_inks_103 : decode cX8_inks 103 = .ok (.imul, 1) := by decide +kernel
theorem dX8_inks_104 : decode cX8_inks 104 = .ok (.iconst 1, 1) := by decide +kernel
theorem dX8_inks_105 : decode cX8_inks 105 = .ok (.iadd, 1) := by decide +kernel
theorem dX8_inks_106 : decode cX8_inks 106 = .ok (.iconst 0, 1) := by decide +kernel
theorem dX8_inks_107 : decode cX8_inks 107 = .ok (.invokevirtual 357, 3) := by decide +kernel
theorem dX8_inks_110 : decode cX8_inks 110 = .ok (.istore 8, 2) := by decide +kernel
theorem dX8_inks_112 : decode cX8_inks 112 = .ok (.aload_n 0, 1) := by decide +kernel
theorem dX8_inks_113 : decode cX8_inks 113 = .ok (.iload 7, 2) := by decide +kernel
theorem dX8_inks_115 : decode cX8_inks 115 = .ok (.iload 8, 2) := by decide +kernel
theorem dX8_inks_117 : decode cX8_inks 117 = .ok (.invokevirtual 281, 3) := by decide +kernel
theorem dX8_inks_120 : decode cX8_inks 120 = .ok (.ifCond .eq 19, 3) := by decide +kernel
theorem dX8_inks_123 : decode cX8_inks 123 = .ok (.aload_n 0, 1) := by decide +kernel
theorem dX8_inks_124 : decode cX8_inks 124 = .ok (.getfield 38, 3) := by decide +kernel
theorem dX8_inks_127 : decode cX8_inks 127 = .ok (.aload_n 0, 1) := by decide +kernel
theorem dX8_inks_128 : decode cX8_inks 128 = .ok (.getfield 132, 3) := by decide +kernel
theorem dX8_inks_131 : decode cX8_inks 131 = .ok (.iload 8, 2) := by decide +kernel
theorem dX8_inks_133 : decode cX8_inks 133 = .ok (.imul, 1) := by decide +kernel
theorem dX8_inks_134 : decode cX8_inks 134 = .ok (.iload 7, 2) := by decide +kernel
theorem dX8_inks_136 : decode cX8_inks 136 = .ok (.iadd, 1) := by decide +kernel
theorem dX8_inks_137 : decode cX8_inks 137 = .ok (.iload_n 3, 1) := by decide +kernel
theorem dX8_inks_138 : decode cX8_inks 138 = .ok (.iastore, 1) := by decide +kernel
theorem dX8_inks_139 : decode cX8_inks 139 = .ok (.iinc 6 1, 3) := by decide +kernel
theorem dX8_inks_142 : decode cX8_inks 142 = .ok (.goto (-110), 3) := by decide +kernel
theorem dX8_inks_145 : decode cX8_inks 145 = .ok (.iinc 5 1, 3) := by decide +kernel
theorem dX8_inks_148 : decode cX8_inks 148 = .ok (.goto (-129), 3) := by decide +kernel
theorem dX8_inks_151 : decode cX8_inks 151 = .ok (.return_, 1) := by decide +kernel
def mX8_inks : MM := (yX8_inks, cX8_inks, 9, none, { frames := 3, cells := 0, slots := 0, locals := 76 })
def X8_inks_L32 (u3_ : Int32) (u4_ : Int32) (u5_ : Int32) (k145 : SS → Option SS) : Nat → Int32 → SS → Option SS :=
  lp (fun _ _ => none) fun rec v6_ σ_ =>
    bnd1 (fX8_headOf σ_ (2 : Int32)) fun v5 =>
    if v5 ≤ v6_ then (
      k145 σ_
      ) else (
      grd (inb u4_ 144) <|
      bnd (fX8_mapped σ_ (((2 : Int32) * ((gI σ_ 80 (Int32.toNatClampNeg u4_)) + v6_)) + (1 : Int32)) (((2 : Int32) * ((gI σ_ 81 (Int32.toNatClampNeg u4_)) + u5_)) + (1 : Int32)) true) fun v9 σ12 =>
      bnd (fX8_mapped σ12 (((2 : Int32) * ((gI σ12 80 (Int32.toNatClampNeg u4_)) + v6_)) + (1 : Int32)) (((2 : Int32) * ((gI σ12 81 (Int32.toNatClampNeg u4_)) + u5_)) + (1 : Int32)) false) fun v13 σ16 =>
      if (fX8_isDot σ16 v9 v13) = true then (
        grd (inb (((gI σ16 73 29) * v13) + v9) 1600) <|
        vthen (sI σ16 83 (Int32.toNatClampNeg (((gI σ16 73 29) * v13) + v9)) u3_) fun σ18 =>
        rec (v6_ + (1 : Int32)) σ18
        ) else (
        rec (v6_ + (1 : Int32)) σ16
        )
      )

def X8_inks_L19 (u3_ : Int32) (u4_ : Int32)  : Nat → Int32 → SS → Option SS :=
  lp (fun _ _ => none) fun rec v5_ σ_ =>
    bnd1 (fX8_headOf σ_ (3 : Int32)) fun v2 =>
    if v2 ≤ v5_ then (
      some σ_
      ) else (
      X8_inks_L32 u3_ u4_ v5_
      (fun σ19 =>
        rec (v5_ + (1 : Int32)) σ19
        )
      fuel (0 : Int32) σ_
      )

def fX8_inks (σ : SS) (a1 : Int32) (a2 : Int32) (a3 : Int32) : Option SS :=
  vthen (((6 : Int32) * (((12 : Int32) * (gI σ 73 11)) + a1)) + a2) fun v1 =>
  X8_inks_L19 a3 v1
  fuel (0 : Int32) σ

set_option maxRecDepth 20000 in
theorem sX8_inks_L32 {g : GG} {r : SS} {u3_ : Int32} {u4_ : Int32} {u5_ : Int32} {k145 : SS → Option SS} 
    (hk145 : ∀ (σ_ : SS), k145 σ_ = some r → WT σ_ → RR g mX8_inks (FinR g mX8_inks none NF r) zF 145 [(0, .ref (ad g 73)), (3, .int u3_), (4, .int u4_), (5, .int u5_)] [] σ_)
    (n : Nat) : ∀ (v6_ : Int32) (σ_ : SS), X8_inks_L32 u3_ u4_ u5_ k145 n v6_ σ_ = some r → WT σ_ → RR g mX8_inks (FinR g mX8_inks none NF r) zF 32 [(0, .ref (ad g 73)), (3, .int u3_), (4, .int u4_), (5, .int u5_), (6, .int v6_)] [] σ_ := by
  unfold X8_inks_L32
  refine lp_ind (P := fun (rec : Int32 → SS → Option SS) => ∀ (v6_ : Int32) (σ_ : SS), rec v6_ σ_ = some r → WT σ_ → RR g mX8_inks (FinR g mX8_inks none NF r) zF 32 [(0, .ref (ad g 73)), (3, .int u3_), (4, .int u4_), (5, .int u5_), (6, .int v6_)] [] σ_) ?_ ?_ n
  · intro v6_ σ_ hr; cases hr
  intro rec ih v6_ σ_ hr hw_
  refine r_iload (pc := 32) (j := 4) dX8_inks_32 rfl ?_
  refine r_aload_n (pc := 34) (j := 0) dX8_inks_34 rfl rfl ?_
  refine r_iconst (pc := 35) (v := (2 : Int32)) dX8_inks_35 rfl ?_
  obtain ⟨v5, hv5, hr⟩ := bnd1_inv hr
  refine kX8_headOf (pc := 36) hv5 tw_6_149 ⟨nle rfl, nle rfl⟩ (nle rfl) dX8_inks_36 ?_
  refine r_icmp_ge (pc := 39) (tgt := 145) dX8_inks_39 rfl (fun hc => ?_) (fun hc => ?_)
  · replace hr := ite_t hc hr
    exact r_pick (ls1 := [(0, .ref (ad g 73)), (3, .int u3_), (4, .int u4_), (5, .int u5_)]) [0, 1, 2, 3] rfl (hk145 σ_ hr hw_)
  replace hr := ite_f hc hr
  refine r_aload_n (pc := 42) (j := 0) dX8_inks_42 rfl rfl ?_
  refine r_iconst (pc := 43) (v := (2 : Int32)) dX8_inks_43 rfl ?_
  refine r_aload_n (pc := 44) (j := 0) dX8_inks_44 rfl rfl ?_
  refine gf8_18 (pc := 45) tw_5_112 hw_ dX8_inks_45 ?_
  refine r_iload (pc := 48) (j := 2) dX8_inks_48 rfl ?_
  obtain ⟨h8, hr⟩ := grd_inv hr
  refine x_iald (pc := 50) (k := (Int32.toNatClampNeg u4_)) rfl h8 rfl dX8_inks_50 ?_
  refine r_iload (pc := 51) (j := 4) dX8_inks_51 rfl ?_
  refine r_iadd (pc := 53) dX8_inks_53 ?_
  refine r_imul (pc := 54) dX8_inks_54 ?_
  refine r_iconst (pc := 55) (v := (1 : Int32)) dX8_inks_55 rfl ?_
  refine r_iadd (pc := 56) dX8_inks_56 ?_
  refine r_iconst (pc := 57) (v := (2 : Int32)) dX8_inks_57 rfl ?_
  refine r_aload_n (pc := 58) (j := 0) dX8_inks_58 rfl rfl ?_
  refine gf8_19 (pc := 59) tw_5_113 hw_ dX8_inks_59 ?_
  refine r_iload (pc := 62) (j := 2) dX8_inks_62 rfl ?_
  refine x_iald (pc := 64) (k := (Int32.toNatClampNeg u4_)) rfl h8 rfl dX8_inks_64 ?_
  refine r_iload (pc := 65) (j := 3) dX8_inks_65 rfl ?_
  refine r_iadd (pc := 67) dX8_inks_67 ?_
  refine r_imul (pc := 68) dX8_inks_68 ?_
  refine r_iconst (pc := 69) (v := (1 : Int32)) dX8_inks_69 rfl ?_
  refine r_iadd (pc := 70) dX8_inks_70 ?_
  refine r_iconst (pc := 71) (v := (1 : Int32)) dX8_inks_71 rfl ?_
  obtain ⟨v9, σ12, eσ12, hr⟩ := bnd_inv hr
  refine kX8_mapped (pc := 72) eσ12 tw_7_76 ⟨nle rfl, nle rfl⟩ (nle rfl) dX8_inks_72 fun hσ12 => ?_
  refine r_istore (pc := 75) (ls1 := [(7, .int v9), (0, .ref (ad g 73)), (3, .int u3_), (4, .int u4_), (5, .int u5_), (6, .int v6_)]) dX8_inks_75 (nle rfl) rfl ?_
  refine r_aload_n (pc := 77) (j := 1) dX8_inks_77 rfl rfl ?_
  refine r_iconst (pc := 78) (v := (2 : Int32)) dX8_inks_78 rfl ?_
  refine r_aload_n (pc := 79) (j := 1) dX8_inks_79 rfl rfl ?_
  refine gf8_18 (pc := 80) tw_5_112 hσ12 dX8_inks_80 ?_
  refine r_iload (pc := 83) (j := 3) dX8_inks_83 rfl ?_
  refine x_iald (pc := 85) (k := (Int32.toNatClampNeg u4_)) rfl h8 rfl dX8_inks_85 ?_
  refine r_iload (pc := 86) (j := 5) dX8_inks_86 rfl ?_
  refine r_iadd (pc := 88) dX8_inks_88 ?_
  refine r_imul (pc := 89) dX8_inks_89 ?_
  refine r_iconst (pc := 90) (v := (1 : Int32)) dX8_inks_90 rfl ?_
  refine r_iadd (pc := 91) dX8_inks_91 ?_
  refine r_iconst (pc := 92) (v := (2 : Int32)) dX8_inks_92 rfl ?_
  refine r_aload_n (pc := 93) (j := 1) dX8_inks_93 rfl rfl ?_
  refine gf8_19 (pc := 94) tw_5_113 hσ12 dX8_inks_94 ?_
  refine r_iload (pc := 97) (j := 3) dX8_inks_97 rfl ?_
  refine x_iald (pc := 99) (k := (Int32.toNatClampNeg u4_)) rfl h8 rfl dX8_inks_99 ?_
  refine r_iload (pc := 100) (j := 4) dX8_inks_100 rfl ?_
  refine r_iadd (pc := 102) dX8_inks_102 ?_
  refine r_imul (pc := 103) dX8_inks_103 ?_
  refine r_iconst (pc := 104) (v := (1 : Int32)) dX8_inks_104 rfl ?_
  refine r_iadd (pc := 105) dX8_inks_105 ?_
  refine r_iconst (pc := 106) (v := (0 : Int32)) dX8_inks_106 rfl ?_
  obtain ⟨v13, σ16, eσ16, hr⟩ := bnd_inv hr
  refine kX8_mapped (pc := 107) eσ16 tw_7_76 ⟨nle rfl, nle rfl⟩ (nle rfl) dX8_inks_107 fun hσ16 => ?_
  refine r_istore (pc := 110) (ls1 := [(8, .int v13), (7, .int v9), (0, .ref (ad g 73)), (3, .int u3_), (4, .int u4_), (5, .int u5_), (6, .int v6_)]) dX8_inks_110 (nle rfl) rfl ?_
  refine r_aload_n (pc := 112) (j := 2) dX8_inks_112 rfl rfl ?_
  refine r_iload (pc := 113) (j := 1) dX8_inks_113 rfl ?_
  refine r_iload (pc := 115) (j := 0) dX8_inks_115 rfl ?_
  refine kX8_isDot (pc := 117) (hf := rfl) tw_6_173 ⟨nle rfl, nle rfl⟩ (nle rfl) dX8_inks_117 ?_
  refine r_ifB_eq (pc := 120) (tgt := 139) dX8_inks_120 rfl (fun hc => ?_) (fun hc => ?_)
  · replace hr := ite_f hc hr
    refine r_iinc (pc := 139) (j := 6) (v := (v6_ + (1 : Int32))) (ls1 := [(6, .int (v6_ + (1 : Int32))), (8, .int v13), (7, .int v9), (0, .ref (ad g 73)), (3, .int u3_), (4, .int u4_), (5, .int u5_)]) dX8_inks_139 rfl rfl (nle rfl) rfl ?_
    refine r_goto (pc := 142) (tgt := 32) dX8_inks_142 rfl ?_
    exact r_pick (ls1 := [(0, .ref (ad g 73)), (3, .int u3_), (4, .int u4_), (5, .int u5_), (6, .int (v6_ + (1 : Int32)))]) [3, 4, 5, 6, 0] rfl (ih (v6_ + (1 : Int32)) σ16 hr hσ16)
  replace hr := ite_t hc hr
  refine r_aload_n (pc := 123) (j := 2) dX8_inks_123 rfl rfl ?_
  refine gf8_21 (pc := 124) tw_5_115 hσ16 dX8_inks_124 ?_
  refine r_aload_n (pc := 127) (j := 2) dX8_inks_127 rfl rfl ?_
  refine gf8_29 (pc := 128) tw_5_123 rfl dX8_inks_128 ?_
  refine r_iload (pc := 131) (j := 0) dX8_inks_131 rfl ?_
  refine r_imul (pc := 133) dX8_inks_133 ?_
  refine r_iload (pc := 134) (j := 1) dX8_inks_134 rfl ?_
  refine r_iadd (pc := 136) dX8_inks_136 ?_
  refine r_iload_n (pc := 137) (j := 3) dX8_inks_137 rfl rfl ?_
  obtain ⟨h17, hr⟩ := grd_inv hr
  refine x_iast (pc := 138) (j := (Int32.toNatClampNeg (((gI σ16 73 29) * v13) + v9))) rfl h17 rfl dX8_inks_138 fun σ18 eσ18 => ?_
  replace hr := vthen_inv hr σ18 eσ18
  have hσ18 := wtI eσ18 hσ16
  refine r_iinc (pc := 139) (j := 6) (v := (v6_ + (1 : Int32))) (ls1 := [(6, .int (v6_ + (1 : Int32))), (8, .int v13), (7, .int v9), (0, .ref (ad g 73)), (3, .int u3_), (4, .int u4_), (5, .int u5_)]) dX8_inks_139 rfl rfl (nle rfl) rfl ?_
  refine r_goto (pc := 142) (tgt := 32) dX8_inks_142 rfl ?_
  exact r_pick (ls1 := [(0, .ref (ad g 73)), (3, .int u3_), (4, .int u4_), (5, .int u5_), (6, .int (v6_ + (1 : Int32)))]) [3, 4, 5, 6, 0] rfl (ih (v6_ + (1 : Int32)) σ18 hr hσ18)

set_option maxRecDepth 20000 in
theorem sX8_inks_L19 {g : GG} {r : SS} {u3_ : Int32} {u4_ : Int32}  
    (n : Nat) : ∀ (v5_ : Int32) (σ_ : SS), X8_inks_L19 u3_ u4_ n v5_ σ_ = some r → WT σ_ → RR g mX8_inks (FinR g mX8_inks none NF r) zF 19 [(0, .ref (ad g 73)), (3, .int u3_), (4, .int u4_), (5, .int v5_)] [] σ_ := by
  unfold X8_inks_L19
  refine lp_ind (P := fun (rec : Int32 → SS → Option SS) => ∀ (v5_ : Int32) (σ_ : SS), rec v5_ σ_ = some r → WT σ_ → RR g mX8_inks (FinR g mX8_inks none NF r) zF 19 [(0, .ref (ad g 73)), (3, .int u3_), (4, .int u4_), (5, .int v5_)] [] σ_) ?_ ?_ n
  · intro v5_ σ_ hr; cases hr
  intro rec ih v5_ σ_ hr hw_
  refine r_iload (pc := 19) (j := 3) dX8_inks_19 rfl ?_
  refine r_aload_n (pc := 21) (j := 0) dX8_inks_21 rfl rfl ?_
  refine r_iconst (pc := 22) (v := (3 : Int32)) dX8_inks_22 rfl ?_
  obtain ⟨v2, hv2, hr⟩ := bnd1_inv hr
  refine kX8_headOf (pc := 23) hv2 tw_6_149 ⟨nle rfl, nle rfl⟩ (nle rfl) dX8_inks_23 ?_
  refine r_icmp_ge (pc := 26) (tgt := 151) dX8_inks_26 rfl (fun hc => ?_) (fun hc => ?_)
  · replace hr := ite_t hc hr
    exact l_ov hr (r_vret (pc := 151) rfl rfl ⟨Nat.le_refl _, Nat.le_refl _⟩ dX8_inks_151)
  replace hr := ite_f hc hr
  refine r_iconst (pc := 29) (v := (0 : Int32)) dX8_inks_29 rfl ?_
  refine r_istore (pc := 30) (ls1 := [(6, .int (0 : Int32)), (0, .ref (ad g 73)), (3, .int u3_), (4, .int u4_), (5, .int v5_)]) dX8_inks_30 (nle rfl) rfl ?_
  refine r_pick (ls1 := [(0, .ref (ad g 73)), (3, .int u3_), (4, .int u4_), (5, .int v5_), (6, .int (0 : Int32))]) [1, 2, 3, 4, 0] rfl ?_
  refine sX8_inks_L32    (fun σ19 hr hσ19 => ?_) fuel (0 : Int32) σ_ hr hw_
  refine r_iinc (pc := 145) (j := 3) (v := (v5_ + (1 : Int32))) (ls1 := [(5, .int (v5_ + (1 : Int32))), (0, .ref (ad g 73)), (3, .int u3_), (4, .int u4_)]) dX8_inks_145 rfl rfl (nle rfl) rfl ?_
  refine r_goto (pc := 148) (tgt := 19) dX8_inks_148 rfl ?_
  exact r_pick (ls1 := [(0, .ref (ad g 73)), (3, .int u3_), (4, .int u4_), (5, .int (v5_ + (1 : Int32)))]) [1, 2, 3, 0] rfl (ih (v5_ + (1 : Int32)) σ19 hr hσ19)

set_option maxRecDepth 20000 in
theorem sX8_inks {g : GG} {σ : SS} {a1 : Int32} {a2 : Int32} {a3 : Int32} {r : SS} (hr : fX8_inks σ a1 a2 a3 = some r)  : Ct g mX8_inks [.ref (ad g 73), .int a1, .int a2, .int a3] NF σ none NF r := by
  refine Ct.of (by decide +kernel) (nle rfl) fun hw0 => ?_
  have hw := hw0 rfl
  unfold fX8_inks at hr
  change RR g mX8_inks (FinR g mX8_inks none NF r) zF 0 [(0, .ref (ad g 73)), (1, .int a1), (2, .int a2), (3, .int a3)] [] σ
  refine r_bipush (pc := 0) (v := (6 : Int32)) dX8_inks_0 rfl ?_
  refine r_bipush (pc := 2) (v := (12 : Int32)) dX8_inks_2 rfl ?_
  refine r_aload_n (pc := 4) (j := 0) dX8_inks_4 rfl rfl ?_
  refine gf8_11 (pc := 5) tw_5_105 rfl dX8_inks_5 ?_
  refine r_imul (pc := 8) dX8_inks_8 ?_
  refine r_iload_n (pc := 9) (j := 1) dX8_inks_9 rfl rfl ?_
  refine r_iadd (pc := 10) dX8_inks_10 ?_
  refine r_imul (pc := 11) dX8_inks_11 ?_
  refine r_iload_n (pc := 12) (j := 2) dX8_inks_12 rfl rfl ?_
  refine r_iadd (pc := 13) dX8_inks_13 ?_
  refine r_topi fun v1 ev1 => ?_
  replace hr := vthen_inv hr v1 ev1
  refine r_istore (pc := 14) (ls1 := [(4, .int v1), (0, .ref (ad g 73)), (1, .int a1), (2, .int a2), (3, .int a3)]) dX8_inks_14 (nle rfl) rfl ?_
  refine r_iconst (pc := 16) (v := (0 : Int32)) dX8_inks_16 rfl ?_
  refine r_istore (pc := 17) (ls1 := [(5, .int (0 : Int32)), (4, .int v1), (0, .ref (ad g 73)), (1, .int a1), (2, .int a2), (3, .int a3)]) dX8_inks_17 (nle rfl) rfl ?_
  refine r_pick (ls1 := [(0, .ref (ad g 73)), (3, .int a3), (4, .int v1), (5, .int (0 : Int32))]) [2, 5, 1, 0] rfl ?_
  refine sX8_inks_L19     fuel (0 : Int32) σ hr hw

theorem kX8_inks {g : GG} {σ : SS} {a1 : Int32} {a2 : Int32} {a3 : Int32} {σ2 : SS} {M : MM} {F : State → Array Value → List Frame → State → Prop} {pc index : Nat} {ls : List (Nat × Value)} {rest : List Value} (hf : fX8_inks σ a1 a2 a3 = some σ2)  (hl : Cond.methodLink M.1.cls index yX8_inks ∈ lw_gt) (hR : mX8_inks.2.2.2.2.frames + 1 ≤ M.2.2.2.2.frames ∧ 8 + (mX8_inks.2.2.1 + 11) + mX8_inks.2.2.2.2.locals ≤ M.2.2.2.2.locals) (hrest : (rest.map fun v => v.category).sum ≤ 8) (hd : decode M.2.1 pc = .ok (.invokevirtual index, 3)) (k : WT σ2 → RR g M F zF (pc + 3) ls rest σ2) : RR g M F zF pc ls (.int a3 :: .int a2 :: .int a1 :: .ref (ad g 73) :: rest) σ :=
  r_callV (z := zF) (N := mX8_inks) (nn := 3) (o1 := none) (sX8_inks hf ) (rfl : shp 73 = (8, 0)) (by decide) (shp_le (rfl : shp 73 = (8, 0)) (nle rfl)) (ci := 8) rfl rfl tw_7_170 tw_1_10 hl tw_7_169 tp_82 ⟨by decide, by decide, rfl⟩ hR rfl hrest hd ⟨Nat.zero_le _, Nat.zero_le _⟩ rfl (fun h => k (h rfl))

theorem dX8_print_0 : decode cX8_print 0 = .ok (.aload_n 0, 1) := by decide +kernel
theorem dX8_print_1 : decode cX8_print 1 = .ok (.getfield 202, 3) := by decide +kernel
theorem dX8_print_4 : decode cX8_print 4 = .ok (.ifCond .eq 13, 3) := by decide +kernel
theorem dX8_print_7 : decode cX8_print 7 = .ok (.iload_n 1, 1) := by decide +kernel
theorem dX8_print_8 : decode cX8_print 8 = .ok (.iconst 1, 1) := by decide +kernel
theorem dX8_print_9 : decode cX8_print 9 = .ok (.bipush 9, 2) := by decide +kernel
theorem dX8_print_11 : decode cX8_print 11 = .ok (.invokestatic 165, 3) := by decide +kernel
theorem dX8_print_14 : decode cX8_print 14 = .ok (.ifCond .ne 5, 3) := by decide +kernel
theorem dX8_print_17 : decode cX8_print 17 = .ok (.iconst (-1), 1) := by decide +kernel
theorem dX8_print_18 : decode cX8_print 18 = .ok (.ireturn, 1) := by decide +kernel
theorem dX8_print_19 : decode cX8_print 19 = .ok (.iconst 0, 1) := by decide +kernel
theorem dX8_print_20 : decode cX8_print 20 = .ok (.istore_n 2, 1) := by decide +kernel
theorem dX8_print_21 : decode cX8_print 21 = .ok (.iload_n 2, 1) := by decide +kernel
theorem dX8_print_22 : decode cX8_print 22 = .ok (.iconst 4, 1) := by decide +kernel
theorem dX8_print_23 : decode cX8_print 23 = .ok (.if_icmp .ge 50, 3) := by decide +kernel
theorem dX8_print_26 : decode cX8_print 26 = .ok (.aload_n 0, 1) := by decide +kernel
theorem dX8_print_27 : decode cX8_print 27 = .ok (.getfield 56, 3) := by decide +kernel
theorem dX8_print_30 : decode cX8_print 30 = .ok (.iload_n 2, 1) := by decide +kernel
theorem dX8_print_31 : decode cX8_print 31 = .ok (.iaload, 1) := by decide +kernel
theorem dX8_print_32 : decode cX8_print 32 = .ok (.iconst 1, 1) := by decide +kernel
theorem dX8_print_33 : decode cX8_print 33 = .ok (.aload_n 0, 1) := by decide +kernel
theorem dX8_print_34 : decode cX8_print 34 = .ok (.getfield 132, 3) := by decide +kernel
theorem dX8_print_37 : decode cX8_print 37 = .ok (.iconst 2, 1) := by decide +kernel
theorem dX8_print_38 : decode cX8_print 38 = .ok (.isub, 1) := by decide +kernel
theorem dX8_print_39 : decode cX8_print 39 = .ok (.invokestatic 165, 3) := by decide +kernel
theorem dX8_print_42 : decode cX8_print 42 = .ok (.ifCond .eq 22, 3) := by decide +kernel
theorem dX8_print_45 : decode cX8_print 45 = .ok (.aload_n 0, 1) := by decide +kernel
theorem dX8_print_46 : decode cX8_print 46 = .ok (.getfield 59, 3) := by decide +kernel
theorem dX8_print_49 : decode cX8_print 49 = .ok (.iload_n 2, 1) := by decide +kernel
theorem dX8_print_50 : decode cX8_print 50 = .ok (.iaload, 1) := by decide +kernel
theorem dX8_print_51 : decode cX8_print 51 = .ok (.iconst 1, 1) := by decide +kernel
theorem dX8_print_52 : decode cX8_print 52 = .ok (.aload_n 0, 1) := by decide +kernel
theorem dX8_print_53 : decode cX8_print 53 = .ok (.getfield 136, 3) := by decide +kernel
theorem dX8_print_56 : decode cX8_print 56 = .ok (.iconst 2, 1) := by decide +kernel
theorem dX8_print_57 : decode cX8_print 57 = .ok (.isub, 1) := by decide +kernel
theorem dX8_print_58 : decode cX8_print 58 = .ok (.invokestatic 165, 3) := by decide +kernel
theorem dX8_print_61 : decode cX8_print 61 = .ok (.ifCond .ne 6, 3) := by decide +kernel
theorem dX8_print_64 : decode cX8_print 64 = .ok (.bipush (-2), 2) := by decide +kernel
theorem dX8_print_66 : decode cX8_print 66 = .ok (.ireturn, 1) := by decide +kernel
theorem dX8_print_67 : decode cX8_print 67 = .ok (.iinc 2 1, 3) := by decide +kernel
theorem dX8_print_70 : decode cX8_print 70 = .ok (.goto (-49), 3) := by decide +kernel
theorem dX8_print_73 : decode cX8_print 73 = .ok (.aload_n 0, 1) := by decide +kernel
theorem dX8_print_74 : decode cX8_print 74 = .ok (.invokevirtual 278, 3) := by decide +kernel
theorem dX8_print_77 : decode cX8_print 77 = .ok (.iconst 0, 1) := by decide +kernel
theorem dX8_print_78 : decode cX8_print 78 = .ok (.istore_n 2, 1) := by decide +kernel
theorem dX8_print_79 : decode cX8_print 79 = .ok (.iload_n 2, 1) := by decide +kernel
theorem dX8_print_80 : decode cX8_print 80 = .ok (.iconst 4, 1) := by decide +kernel
theorem dX8_print_81 : decode cX8_print 81 = .ok (.if_icmp .ge 93, 3) := by decide +kernel
theorem dX8_print_84 : decode cX8_print 84 = .ok (.iconst 0, 1) := by decide +kernel
theorem dX8_print_85 : decode cX8_print 85 = .ok (.istore_n 3, 1) := by decide +kernel
theorem dX8_print_86 : decode cX8_print 86 = .ok (.iload_n 3, 1) := by decide +kernel
theorem dX8_print_87 : decode cX8_print 87 = .ok (.bipush 9, 2) := by decide +kernel
theorem dX8_print_89 : decode cX8_print 89 = .ok (.if_icmp .ge 46, 3) := by decide +kernel
theorem dX8_print_92 : decode cX8_print 92 = .ok (.aload_n 0, 1) := by decide +kernel
theorem dX8_print_93 : decode cX8_print 93 = .ok (.getfield 38, 3) := by decide +kernel
theorem dX8_print_96 : decode cX8_print 96 = .ok (.aload_n 0, 1) := by decide +kernel
theorem dX8_print_97 : decode cX8_print 97 = .ok (.getfield 132, 3) := by decide +kernel
theorem dX8_print_100 : decode cX8_print 100 = .ok (.aload_n 0, 1) := by decide +kernel
theorem dX8_print_101 : decode cX8_print 101 = .ok (.getfield 59, 3) := by decide +kernel
theorem dX8_print_104 : decode cX8_print 104 = .ok (.iload_n 2, 1) := by decide +kernel
theorem dX8_print_105 : decode cX8_print 105 = .ok (.iaload, 1) := by decide +kernel
theorem dX8_print_106 : decode cX8_print 106 = .ok (.iconst 1, 1) := by decide +kernel
theorem dX8_print_107 : decode cX8_print 107 = .ok (.isub, 1) := by decide +kernel
theorem dX8_print_108 : decode cX8_print 108 = .ok (.iload_n 3, 1) := by decide +kernel
theorem dX8_print_109 : decode cX8_print 109 = .ok (.iconst 3, 1) := by decide +kernel
theorem dX8_print_110 : decode cX8_print 110 = .ok (.idiv, 1) := by decide +kernel
theorem dX8_print_111 : decode cX8_print 111 = .ok (.iadd, 1) := by decide +kernel
theorem dX8_print_112 : decode cX8_print 112 = .ok (.imul, 1) := by decide +kernel
theorem dX8_print_113 : decode cX8_print 113 = .ok (.aload_n 0, 1) := by decide +kernel
theorem dX8_print_114 : decode cX8_print 114 = .ok (.getfield 56, 3) := by decide +kernel
theorem dX8_print_117 : decode cX8_print 117 = .ok (.iload_n 2, 1) := by decide +kernel
theorem dX8_print_118 : decode cX8_print 118 = .ok (.iaload, 1) := by decide +kernel
theorem dX8_print_119 : decode cX8_print 119 = .ok (.iadd, 1) := by decide +kernel
theorem dX8_print_120 : decode cX8_print 120 = .ok (.iconst 1, 1) := by decide +kernel
theorem dX8_print_121 : decode cX8_print 121 = .ok (.isub, 1) := by decide +kernel
theorem dX8_print_122 : decode cX8_print 122 = .ok (.iload_n 3, 1) := by decide +kernel
theorem dX8_print_123 : decode cX8_print 123 = .ok (.iconst 3, 1) := by decide +kernel
theorem dX8_print_124 : decode cX8_print 124 = .ok (.irem, 1) := by decide +kernel
theorem dX8_print_125 : decode cX8_print 125 = .ok (.iadd, 1) := by decide +kernel
theorem dX8_print_126 : decode cX8_print 126 = .ok (.bipush 9, 2) := by decide +kernel
theorem dX8_print_128 : decode cX8_print 128 = .ok (.iastore, 1) := by decide +kernel
theorem dX8_print_129 : decode cX8_print 129 = .ok (.iinc 3 1, 3) := by decide +kernel
theorem dX8_print_132 : decode cX8_print 132 = .ok (.goto (-46), 3) := by decide +kernel
theorem dX8_print_135 : decode cX8_print 135 = .ok (.aload_n 0, 1) := by decide +kernel
theorem dX8_print_136 : decode cX8_print 136 = .ok (.getfield 98, 3) := by decide +kernel
theorem dX8_print_139 : decode cX8_print 139 = .ok (.iload_n 2, 1) := by decide +kernel
theorem dX8_print_140 : decode cX8_print 140 = .ok (.aload_n 0, 1) := by decide +kernel
theorem dX8_print_141 : decode cX8_print 141 = .ok (.getfield 56, 3) := by decide +kernel
theorem dX8_print_144 : decode cX8_print 144 = .ok (.iload_n 2, 1) := by decide +kernel
theorem dX8_print_145 : decode cX8_print 145 = .ok (.iaload, 1) := by decide +kernel
theorem dX8_print_146 : decode cX8_print 146 = .ok (.i2l, 1) := by decide +kernel
theorem dX8_print_147 : decode cX8_print 147 = .ok (.lastore, 1) := by decide +kernel
theorem dX8_print_148 : decode cX8_print 148 = .ok (.aload_n 0, 1) := by decide +kernel
theorem dX8_print_149 : decode cX8_print 149 = .ok (.getfield 102, 3) := by decide +kernel
theorem dX8_print_152 : decode cX8_print 152 = .ok (.iload_n 2, 1) := by decide +kernel
theorem dX8_print_153 : decode cX8_print 153 = .ok (.aload_n 0, 1) := by decide +kernel
theorem dX8_print_154 : decode cX8_print 154 = .ok (.getfield 59, 3) := by decide +kernel
theorem dX8_print_157 : decode cX8_print 157 = .ok (.iload_n 2, 1) := by decide +kernel
theorem dX8_print_158 : decode cX8_print 158 = .ok (.iaload, 1) := by decide +kernel
theorem dX8_print_159 : decode cX8_print 159 = .ok (.i2l, 1) := by decide +kernel
theorem dX8_print_160 : decode cX8_print 160 = .ok (.lastore, 1) := by decide +kernel
theorem dX8_print_161 : decode cX8_print 161 = .ok (.aload_n 0, 1) := by decide +kernel
theorem dX8_print_162 : decode cX8_print 162 = .ok (.getfield 105, 3) := by decide +kernel
theorem dX8_print_165 : decode cX8_print 165 = .ok (.iload_n 2, 1) := by decide +kernel
theorem dX8_print_166 : decode cX8_print 166 = .ok (.lconst 1, 1) := by decide +kernel
theorem dX8_print_167 : decode cX8_print 167 = .ok (.lastore, 1) := by decide +kernel
theorem dX8_print_168 : decode cX8_print 168 = .ok (.iinc 2 1, 3) := by decide +kernel
theorem dX8_print_171 : decode cX8_print 171 = .ok (.goto (-92), 3) := by decide +kernel
theorem dX8_print_174 : decode cX8_print 174 = .ok (.iconst 0, 1) := by decide +kernel
theorem dX8_print_175 : decode cX8_print 175 = .ok (.istore_n 2, 1) := by decide +kernel
theorem dX8_print_176 : decode cX8_print 176 = .ok (.iload_n 2, 1) := by decide +kernel
theorem dX8_print_177 : decode cX8_print 177 = .ok (.aload_n 0, 1) := by decide +kernel
theorem dX8_print_178 : decode cX8_print 178 = .ok (.invokevirtual 266, 3) := by decide +kernel
theorem dX8_print_181 : decode cX8_print 181 = .ok (.if_icmp .ge 46, 3) := by decide +kernel
theorem dX8_print_184 : decode cX8_print 184 = .ok (.iconst 0, 1) := by decide +kernel
theorem dX8_print_185 : decode cX8_print 185 = .ok (.istore_n 3, 1) := by decide +kernel
theorem dX8_print_186 : decode cX8_print 186 = .ok (.iload_n 3, 1) := by decide +kernel
theorem dX8_print_187 : decode cX8_print 187 = .ok (.aload_n 0, 1) := by decide +kernel
theorem dX8_print_188 : decode cX8_print 188 = .ok (.iload_n 2, 1) := by decide +kernel
theorem dX8_print_189 : decode cX8_print 189 = .ok (.invokevirtual 272, 3) := by decide +kernel
theorem dX8_print_192 : decode cX8_print 192 = .ok (.if_icmp .ge 29, 3) := by decide +kernel
theorem dX8_print_195 : decode cX8_print 195 = .ok (.aload_n 0, 1) := by decide +kernel
theorem dX8_print_196 : decode cX8_print 196 = .ok (.getfield 35, 3) := by decide +kernel
theorem dX8_print_199 : decode cX8_print 199 = .ok (.iload_n 2, 1) := by decide +kernel
theorem dX8_print_200 : decode cX8_print 200 = .ok (.iaload, 1) := by decide +kernel
theorem dX8_print_201 : decode cX8_print 201 = .ok (.iload_n 3, 1) := by decide +kernel
theorem dX8_print_202 : decode cX8_print 202 = .ok (.invokestatic 228, 3) := by decide +kernel
theorem dX8_print_205 : decode cX8_print 205 = .ok (.ifCond .eq 10, 3) := by decide +kernel
theorem dX8_print_208 : decode cX8_print 208 = .ok (.aload_n 0, 1) := by decide +kernel
theorem dX8_print_209 : decode cX8_print 209 = .ok (.iload_n 2, 1) := by decide +kernel
theorem dX8_print_210 : decode cX8_print 210 = .ok (.iload_n 3, 1) := by decide +kernel
theorem dX8_print_211 : decode cX8_print 211 = .ok (.iload_n 1, 1) := by decide +kernel
theorem dX8_print_212 : decode cX8_print 212 = .ok (.invokevirtual 414, 3) := by decide +kernel
theorem dX8_print_215 : decode cX8_print 215 = .ok (.iinc 3 1, 3) := by decide +kernel
theorem dX8_print_218 : decode cX8_print 218 = .ok (.goto (-32), 3) := by decide +kernel
theorem dX8_print_221 : decode cX8_print 221 = .ok (.iinc 2 1, 3) := by decide +kernel
theorem dX8_print_224 : decode cX8_print 224 = .ok (.goto (-48), 3) := by decide +kernel
theorem dX8_print_227 : decode cX8_print 227 = .ok (.iconst 0, 1) := by decide +kernel
theorem dX8_print_228 : decode cX8_print 228 = .ok (.istore_n 2, 1) := by decide +kernel
theorem dX8_print_229 : decode cX8_print 229 = .ok (.iconst 0, 1) := by decide +kernel
theorem dX8_print_230 : decode cX8_print 230 = .ok (.istore_n 3, 1) := by decide +kernel
theorem dX8_print_231 : decode cX8_print 231 = .ok (.iload_n 3, 1) := by decide +kernel
theorem dX8_print_232 : decode cX8_print 232 = .ok (.aload_n 0, 1) := by decide +kernel
theorem dX8_print_233 : decode cX8_print 233 = .ok (.invokevirtual 275, 3) := by decide +kernel
theorem dX8_print_236 : decode cX8_print 236 = .ok (.if_icmp .ge 26, 3) := by decide +kernel
theorem dX8_print_239 : decode cX8_print 239 = .ok (.iload_n 2, 1) := by decide +kernel
theorem dX8_print_240 : decode cX8_print 240 = .ok (.aload_n 0, 1) := by decide +kernel
theorem dX8_print_241 : decode cX8_print 241 = .ok (.getfield 38, 3) := by decide +kernel
theorem dX8_print_244 : decode cX8_print 244 = .ok (.iload_n 3, 1) := by decide +kernel
theorem dX8_print_245 : decode cX8_print 245 = .ok (.iaload, 1) := by decide +kernel
theorem dX8_print_246 : decode cX8_print 246 = .ok (.ifCond .le 7, 3) := by decide +kernel
theorem dX8_print_249 : decode cX8_print 249 = .ok (.iconst 1, 1) := by decide +kernel
theorem dX8_print_250 : decode cX8_print 250 = .ok (.goto 4, 3) := by decide +kernel
theorem dX8_print_253 : decode cX8_print 253 = .ok (.iconst 0, 1) := by decide +kernel
theorem dX8_print_254 : decode cX8_print 254 = .ok (.iadd, 1) := by decide +kernel
theorem dX8_print_255 : decode cX8_print 255 = .ok (.istore_n 2, 1) := by decide +kernel
theorem dX8_print_256 : decode cX8_print 256 = .ok (.iinc 3 1, 3) := by decide +kernel
theorem dX8_print_259 : decode cX8_print 259 = .ok (.goto (-28), 3) := by decide +kernel
theorem dX8_print_262 : decode cX8_print 262 = .ok (.iload_n 2, 1) := by decide +kernel
theorem dX8_print_263 : decode cX8_print 263 = .ok (.ireturn, 1) := by decide +kernel
def mX8_print : MM := (yX8_print, cX8_print, 4, Option.some Jvm.ClassFile.FieldType.int, { frames := 4, cells := 0, slots := 0, locals := 104 })
def X8_print_L21 (σ_ : SS)  (k73 : Unit → Option (Int32 × SS)) : Nat → Int32 → Option (Int32 × SS) :=
  lp (fun _ => none) fun rec v2_ =>
    if (4 : Int32) ≤ v2_ then (
      k73 ()
      ) else (
      grd (inb v2_ 4) <|
      if (fX8_in σ_ (gI σ_ 89 (Int32.toNatClampNeg v2_)) (1 : Int32) ((gI σ_ 73 29) - (2 : Int32))) = true then (
        if (fX8_in σ_ (gI σ_ 90 (Int32.toNatClampNeg v2_)) (1 : Int32) ((gI σ_ 73 30) - (2 : Int32))) = true then (
          rec (v2_ + (1 : Int32))
          ) else (
          some ((-2 : Int32), σ_)
          )
        ) else (
        some ((-2 : Int32), σ_)
        )
      )

def X8_print_L86 (u2_ : Int32) (k135 : SS → Option (Int32 × SS)) : Nat → Int32 → SS → Option (Int32 × SS) :=
  lp (fun _ _ => none) fun rec v3_ σ_ =>
    if (9 : Int32) ≤ v3_ then (
      k135 σ_
      ) else (
      grd (inb u2_ 4) <|
      grd (inb (((((gI σ_ 73 29) * (((gI σ_ 90 (Int32.toNatClampNeg u2_)) - (1 : Int32)) + (v3_ / (3 : Int32)))) + (gI σ_ 89 (Int32.toNatClampNeg u2_))) - (1 : Int32)) + (irm v3_ (3 : Int32))) 1600) <|
      vthen (sI σ_ 83 (Int32.toNatClampNeg (((((gI σ_ 73 29) * (((gI σ_ 90 (Int32.toNatClampNeg u2_)) - (1 : Int32)) + (v3_ / (3 : Int32)))) + (gI σ_ 89 (Int32.toNatClampNeg u2_))) - (1 : Int32)) + (irm v3_ (3 : Int32)))) (9 : Int32)) fun σ5 =>
      rec (v3_ + (1 : Int32)) σ5
      )

def X8_print_L79  (k174 : SS → Option (Int32 × SS)) : Nat → Int32 → SS → Option (Int32 × SS) :=
  lp (fun _ _ => none) fun rec v2_ σ_ =>
    if (4 : Int32) ≤ v2_ then (
      k174 σ_
      ) else (
      X8_print_L86 v2_
      (fun σ6 =>
        grd (inb v2_ 4) <|
        vthen (sL σ6 103 (Int32.toNatClampNeg v2_) (Int32.toInt64 (gI σ6 89 (Int32.toNatClampNeg v2_)))) fun σ8 =>
        vthen (sL σ8 104 (Int32.toNatClampNeg v2_) (Int32.toInt64 (gI σ8 90 (Int32.toNatClampNeg v2_)))) fun σ9 =>
        vthen (sL σ9 105 (Int32.toNatClampNeg v2_) (1 : Int64)) fun σ10 =>
        rec (v2_ + (1 : Int32)) σ10
        )
      fuel (0 : Int32) σ_
      )

def X8_print_L186 (u1_ : Int32) (u2_ : Int32) (k221 : SS → Option (Int32 × SS)) : Nat → Int32 → SS → Option (Int32 × SS) :=
  lp (fun _ _ => none) fun rec v3_ σ_ =>
    bnd1 (fX8_boxesOf σ_ u2_) fun v15 =>
    if v15 ≤ v3_ then (
      k221 σ_
      ) else (
      grd (inb u2_ 12) <|
      if (fX8_has σ_ (gI σ_ 82 (Int32.toNatClampNeg u2_)) v3_) = true then (
        bnd1 (fX8_inks σ_ u2_ v3_ u1_) fun σ19 =>
        rec (v3_ + (1 : Int32)) σ19
        ) else (
        rec (v3_ + (1 : Int32)) σ_
        )
      )

def X8_print_L176 (u1_ : Int32) (k227 : SS → Option (Int32 × SS)) : Nat → Int32 → SS → Option (Int32 × SS) :=
  lp (fun _ _ => none) fun rec v2_ σ_ =>
    bnd1 (fX8_questions σ_) fun v12 =>
    if v12 ≤ v2_ then (
      k227 σ_
      ) else (
      X8_print_L186 u1_ v2_
      (fun σ20 =>
        rec (v2_ + (1 : Int32)) σ20
        )
      fuel (0 : Int32) σ_
      )

def X8_print_L231 (σ_ : SS)   : Nat → Int32 → Int32 → Option (Int32 × SS) :=
  lp (fun _ _ => none) fun rec v2_ v3_ =>
    if (fX8_all σ_) ≤ v3_ then (
      some (v2_, σ_)
      ) else (
      grd (inb v3_ 1600) <|
      if (gI σ_ 83 (Int32.toNatClampNeg v3_)) ≤ 0 then (
        vthen (v2_ + (0 : Int32)) fun v23 =>
        rec v23 (v3_ + (1 : Int32))
        ) else (
        vthen (v2_ + (1 : Int32)) fun v24 =>
        rec v24 (v3_ + (1 : Int32))
        )
      )

def fX8_print (σ : SS) (a1 : Int32) : Option (Int32 × SS) :=
  if (gI σ 73 12) = 0 then (
    some ((-1 : Int32), σ)
    ) else (
    if (fX8_in σ a1 (1 : Int32) (9 : Int32)) = true then (
      X8_print_L21 σ
      (fun _ =>
        bnd1 (fX8_clears σ) fun σ2 =>
        X8_print_L79
        (fun σ11 =>
          X8_print_L176 a1
          (fun σ21 =>
            X8_print_L231 σ21
            fuel (0 : Int32) (0 : Int32)
            )
          fuel (0 : Int32) σ11
          )
        fuel (0 : Int32) σ2
        )
      fuel (0 : Int32)
      ) else (
      some ((-1 : Int32), σ)
      )
    )

set_option maxRecDepth 20000 in
theorem sX8_print_L21 {g : GG} {r : Int32 × SS} {σ_ : SS} {x1_ : Int32} {k73 : Unit → Option (Int32 × SS)} 
    (hw_ : WT σ_)
    (hk73 : k73 () = some r → RR g mX8_print (FinR g mX8_print (some (.int r.1)) NF r.2) zF 73 [(0, .ref (ad g 73)), (1, .int x1_)] [] σ_)
    (n : Nat) : ∀ (v2_ : Int32), X8_print_L21 σ_ k73 n v2_ = some r → RR g mX8_print (FinR g mX8_print (some (.int r.1)) NF r.2) zF 21 [(0, .ref (ad g 73)), (1, .int x1_), (2, .int v2_)] [] σ_ := by
  unfold X8_print_L21
  refine lp_ind (P := fun (rec : Int32 → Option (Int32 × SS)) => ∀ (v2_ : Int32), rec v2_ = some r → RR g mX8_print (FinR g mX8_print (some (.int r.1)) NF r.2) zF 21 [(0, .ref (ad g 73)), (1, .int x1_), (2, .int v2_)] [] σ_) ?_ ?_ n
  · intro v2_ hr; cases hr
  intro rec ih v2_ hr
  refine r_iload_n (pc := 21) (j := 2) dX8_print_21 rfl rfl ?_
  refine r_iconst (pc := 22) (v := (4 : Int32)) dX8_print_22 rfl ?_
  refine r_icmp_ge (pc := 23) (tgt := 73) dX8_print_23 rfl (fun hc => ?_) (fun hc => ?_)
  · replace hr := ite_t hc hr
    exact r_pick (ls1 := [(0, .ref (ad g 73)), (1, .int x1_)]) [0, 1] rfl (hk73  hr)
  replace hr := ite_f hc hr
  refine r_aload_n (pc := 26) (j := 0) dX8_print_26 rfl rfl ?_
  refine gf8_27 (pc := 27) tw_5_121 hw_ dX8_print_27 ?_
  refine r_iload_n (pc := 30) (j := 2) dX8_print_30 rfl rfl ?_
  obtain ⟨h1, hr⟩ := grd_inv hr
  refine x_iald (pc := 31) (k := (Int32.toNatClampNeg v2_)) rfl h1 rfl dX8_print_31 ?_
  refine r_iconst (pc := 32) (v := (1 : Int32)) dX8_print_32 rfl ?_
  refine r_aload_n (pc := 33) (j := 0) dX8_print_33 rfl rfl ?_
  refine gf8_29 (pc := 34) tw_5_123 rfl dX8_print_34 ?_
  refine r_iconst (pc := 37) (v := (2 : Int32)) dX8_print_37 rfl ?_
  refine r_isub (pc := 38) dX8_print_38 ?_
  refine kX8_in (pc := 39) (hf := rfl) tw_6_65 ⟨nle rfl, nle rfl⟩ (nle rfl) dX8_print_39 ?_
  refine r_ifB_eq (pc := 42) (tgt := 64) dX8_print_42 rfl (fun hc => ?_) (fun hc => ?_)
  · replace hr := ite_f hc hr
    refine r_bipush (pc := 64) (v := (-2 : Int32)) dX8_print_64 rfl ?_
    exact l_osi hr (r_iret (pc := 66) (v := (-2 : Int32)) rfl rfl ⟨Nat.le_refl _, Nat.le_refl _⟩ dX8_print_66)
  replace hr := ite_t hc hr
  refine r_aload_n (pc := 45) (j := 0) dX8_print_45 rfl rfl ?_
  refine gf8_28 (pc := 46) tw_5_122 hw_ dX8_print_46 ?_
  refine r_iload_n (pc := 49) (j := 2) dX8_print_49 rfl rfl ?_
  refine x_iald (pc := 50) (k := (Int32.toNatClampNeg v2_)) rfl h1 rfl dX8_print_50 ?_
  refine r_iconst (pc := 51) (v := (1 : Int32)) dX8_print_51 rfl ?_
  refine r_aload_n (pc := 52) (j := 0) dX8_print_52 rfl rfl ?_
  refine gf8_30 (pc := 53) tw_5_124 rfl dX8_print_53 ?_
  refine r_iconst (pc := 56) (v := (2 : Int32)) dX8_print_56 rfl ?_
  refine r_isub (pc := 57) dX8_print_57 ?_
  refine kX8_in (pc := 58) (hf := rfl) tw_6_65 ⟨nle rfl, nle rfl⟩ (nle rfl) dX8_print_58 ?_
  refine r_ifB_ne (pc := 61) (tgt := 67) dX8_print_61 rfl (fun hc => ?_) (fun hc => ?_)
  · replace hr := ite_t hc hr
    refine r_iinc (pc := 67) (j := 2) (v := (v2_ + (1 : Int32))) (ls1 := [(2, .int (v2_ + (1 : Int32))), (0, .ref (ad g 73)), (1, .int x1_)]) dX8_print_67 rfl rfl (nle rfl) rfl ?_
    refine r_goto (pc := 70) (tgt := 21) dX8_print_70 rfl ?_
    exact r_pick (ls1 := [(0, .ref (ad g 73)), (1, .int x1_), (2, .int (v2_ + (1 : Int32)))]) [1, 2, 0] rfl (ih (v2_ + (1 : Int32)) hr)
  replace hr := ite_f hc hr
  refine r_bipush (pc := 64) (v := (-2 : Int32)) dX8_print_64 rfl ?_
  exact l_osi hr (r_iret (pc := 66) (v := (-2 : Int32)) rfl rfl ⟨Nat.le_refl _, Nat.le_refl _⟩ dX8_print_66)

set_option maxRecDepth 20000 in
theorem sX8_print_L86 {g : GG} {r : Int32 × SS} {x1_ : Int32} {u2_ : Int32} {k135 : SS → Option (Int32 × SS)} 
    (hk135 : ∀ (σ_ : SS), k135 σ_ = some r → WT σ_ → RR g mX8_print (FinR g mX8_print (some (.int r.1)) NF r.2) zF 135 [(0, .ref (ad g 73)), (1, .int x1_), (2, .int u2_)] [] σ_)
    (n : Nat) : ∀ (v3_ : Int32) (σ_ : SS), X8_print_L86 u2_ k135 n v3_ σ_ = some r → WT σ_ → RR g mX8_print (FinR g mX8_print (some (.int r.1)) NF r.2) zF 86 [(0, .ref (ad g 73)), (1, .int x1_), (2, .int u2_), (3, .int v3_)] [] σ_ := by
  unfold X8_print_L86
  refine lp_ind (P := fun (rec : Int32 → SS → Option (Int32 × SS)) => ∀ (v3_ : Int32) (σ_ : SS), rec v3_ σ_ = some r → WT σ_ → RR g mX8_print (FinR g mX8_print (some (.int r.1)) NF r.2) zF 86 [(0, .ref (ad g 73)), (1, .int x1_), (2, .int u2_), (3, .int v3_)] [] σ_) ?_ ?_ n
  · intro v3_ σ_ hr; cases hr
  intro rec ih v3_ σ_ hr hw_
  refine r_iload_n (pc := 86) (j := 3) dX8_print_86 rfl rfl ?_
  refine r_bipush (pc := 87) (v := (9 : Int32)) dX8_print_87 rfl ?_
  refine r_icmp_ge (pc := 89) (tgt := 135) dX8_print_89 rfl (fun hc => ?_) (fun hc => ?_)
  · replace hr := ite_t hc hr
    exact r_pick (ls1 := [(0, .ref (ad g 73)), (1, .int x1_), (2, .int u2_)]) [0, 1, 2] rfl (hk135 σ_ hr hw_)
  replace hr := ite_f hc hr
  refine r_aload_n (pc := 92) (j := 0) dX8_print_92 rfl rfl ?_
  refine gf8_21 (pc := 93) tw_5_115 hw_ dX8_print_93 ?_
  refine r_aload_n (pc := 96) (j := 0) dX8_print_96 rfl rfl ?_
  refine gf8_29 (pc := 97) tw_5_123 rfl dX8_print_97 ?_
  refine r_aload_n (pc := 100) (j := 0) dX8_print_100 rfl rfl ?_
  refine gf8_28 (pc := 101) tw_5_122 hw_ dX8_print_101 ?_
  refine r_iload_n (pc := 104) (j := 2) dX8_print_104 rfl rfl ?_
  obtain ⟨h3, hr⟩ := grd_inv hr
  refine x_iald (pc := 105) (k := (Int32.toNatClampNeg u2_)) rfl h3 rfl dX8_print_105 ?_
  refine r_iconst (pc := 106) (v := (1 : Int32)) dX8_print_106 rfl ?_
  refine r_isub (pc := 107) dX8_print_107 ?_
  refine r_iload_n (pc := 108) (j := 3) dX8_print_108 rfl rfl ?_
  refine r_iconst (pc := 109) (v := (3 : Int32)) dX8_print_109 rfl ?_
  refine r_idiv (pc := 110) dX8_print_110 (by decide) ?_
  refine r_iadd (pc := 111) dX8_print_111 ?_
  refine r_imul (pc := 112) dX8_print_112 ?_
  refine r_aload_n (pc := 113) (j := 0) dX8_print_113 rfl rfl ?_
  refine gf8_27 (pc := 114) tw_5_121 hw_ dX8_print_114 ?_
  refine r_iload_n (pc := 117) (j := 2) dX8_print_117 rfl rfl ?_
  refine x_iald (pc := 118) (k := (Int32.toNatClampNeg u2_)) rfl h3 rfl dX8_print_118 ?_
  refine r_iadd (pc := 119) dX8_print_119 ?_
  refine r_iconst (pc := 120) (v := (1 : Int32)) dX8_print_120 rfl ?_
  refine r_isub (pc := 121) dX8_print_121 ?_
  refine r_iload_n (pc := 122) (j := 3) dX8_print_122 rfl rfl ?_
  refine r_iconst (pc := 123) (v := (3 : Int32)) dX8_print_123 rfl ?_
  refine r_irem (pc := 124) dX8_print_124 (by decide) ?_
  refine r_iadd (pc := 125) dX8_print_125 ?_
  refine r_bipush (pc := 126) (v := (9 : Int32)) dX8_print_126 rfl ?_
  obtain ⟨h4, hr⟩ := grd_inv hr
  refine x_iast (pc := 128) (j := (Int32.toNatClampNeg (((((gI σ_ 73 29) * (((gI σ_ 90 (Int32.toNatClampNeg u2_)) - (1 : Int32)) + (v3_ / (3 : Int32)))) + (gI σ_ 89 (Int32.toNatClampNeg u2_))) - (1 : Int32)) + (irm v3_ (3 : Int32))))) rfl h4 rfl dX8_print_128 fun σ5 eσ5 => ?_
  replace hr := vthen_inv hr σ5 eσ5
  have hσ5 := wtI eσ5 hw_
  refine r_iinc (pc := 129) (j := 3) (v := (v3_ + (1 : Int32))) (ls1 := [(3, .int (v3_ + (1 : Int32))), (0, .ref (ad g 73)), (1, .int x1_), (2, .int u2_)]) dX8_print_129 rfl rfl (nle rfl) rfl ?_
  refine r_goto (pc := 132) (tgt := 86) dX8_print_132 rfl ?_
  exact r_pick (ls1 := [(0, .ref (ad g 73)), (1, .int x1_), (2, .int u2_), (3, .int (v3_ + (1 : Int32)))]) [1, 2, 3, 0] rfl (ih (v3_ + (1 : Int32)) σ5 hr hσ5)

set_option maxRecDepth 20000 in
theorem sX8_print_L79 {g : GG} {r : Int32 × SS} {x1_ : Int32} {k174 : SS → Option (Int32 × SS)} 
    (hk174 : ∀ (σ_ : SS), k174 σ_ = some r → WT σ_ → RR g mX8_print (FinR g mX8_print (some (.int r.1)) NF r.2) zF 174 [(0, .ref (ad g 73)), (1, .int x1_)] [] σ_)
    (n : Nat) : ∀ (v2_ : Int32) (σ_ : SS), X8_print_L79 k174 n v2_ σ_ = some r → WT σ_ → RR g mX8_print (FinR g mX8_print (some (.int r.1)) NF r.2) zF 79 [(0, .ref (ad g 73)), (1, .int x1_), (2, .int v2_)] [] σ_ := by
  unfold X8_print_L79
  refine lp_ind (P := fun (rec : Int32 → SS → Option (Int32 × SS)) => ∀ (v2_ : Int32) (σ_ : SS), rec v2_ σ_ = some r → WT σ_ → RR g mX8_print (FinR g mX8_print (some (.int r.1)) NF r.2) zF 79 [(0, .ref (ad g 73)), (1, .int x1_), (2, .int v2_)] [] σ_) ?_ ?_ n
  · intro v2_ σ_ hr; cases hr
  intro rec ih v2_ σ_ hr hw_
  refine r_iload_n (pc := 79) (j := 2) dX8_print_79 rfl rfl ?_
  refine r_iconst (pc := 80) (v := (4 : Int32)) dX8_print_80 rfl ?_
  refine r_icmp_ge (pc := 81) (tgt := 174) dX8_print_81 rfl (fun hc => ?_) (fun hc => ?_)
  · replace hr := ite_t hc hr
    exact r_pick (ls1 := [(0, .ref (ad g 73)), (1, .int x1_)]) [0, 1] rfl (hk174 σ_ hr hw_)
  replace hr := ite_f hc hr
  refine r_iconst (pc := 84) (v := (0 : Int32)) dX8_print_84 rfl ?_
  refine r_istore_n (pc := 85) (ls1 := [(3, .int (0 : Int32)), (0, .ref (ad g 73)), (1, .int x1_), (2, .int v2_)]) dX8_print_85 rfl (nle rfl) rfl ?_
  refine r_pick (ls1 := [(0, .ref (ad g 73)), (1, .int x1_), (2, .int v2_), (3, .int (0 : Int32))]) [1, 2, 3, 0] rfl ?_
  refine sX8_print_L86    (fun σ6 hr hσ6 => ?_) fuel (0 : Int32) σ_ hr hw_
  refine r_aload_n (pc := 135) (j := 0) dX8_print_135 rfl rfl ?_
  refine gf8_46 (pc := 136) tw_5_140 hσ6 dX8_print_136 ?_
  refine r_iload_n (pc := 139) (j := 2) dX8_print_139 rfl rfl ?_
  refine r_aload_n (pc := 140) (j := 0) dX8_print_140 rfl rfl ?_
  refine gf8_27 (pc := 141) tw_5_121 hσ6 dX8_print_141 ?_
  refine r_iload_n (pc := 144) (j := 2) dX8_print_144 rfl rfl ?_
  obtain ⟨h7, hr⟩ := grd_inv hr
  refine x_iald (pc := 145) (k := (Int32.toNatClampNeg v2_)) rfl h7 rfl dX8_print_145 ?_
  refine r_i2l (pc := 146) dX8_print_146 ?_
  refine x_last (pc := 147) (j := (Int32.toNatClampNeg v2_)) rfl h7 rfl dX8_print_147 fun σ8 eσ8 => ?_
  replace hr := vthen_inv hr σ8 eσ8
  have hσ8 := wtL eσ8 hσ6
  refine r_aload_n (pc := 148) (j := 0) dX8_print_148 rfl rfl ?_
  refine gf8_47 (pc := 149) tw_5_141 hσ8 dX8_print_149 ?_
  refine r_iload_n (pc := 152) (j := 2) dX8_print_152 rfl rfl ?_
  refine r_aload_n (pc := 153) (j := 0) dX8_print_153 rfl rfl ?_
  refine gf8_28 (pc := 154) tw_5_122 hσ8 dX8_print_154 ?_
  refine r_iload_n (pc := 157) (j := 2) dX8_print_157 rfl rfl ?_
  refine x_iald (pc := 158) (k := (Int32.toNatClampNeg v2_)) rfl h7 rfl dX8_print_158 ?_
  refine r_i2l (pc := 159) dX8_print_159 ?_
  refine x_last (pc := 160) (j := (Int32.toNatClampNeg v2_)) rfl h7 rfl dX8_print_160 fun σ9 eσ9 => ?_
  replace hr := vthen_inv hr σ9 eσ9
  have hσ9 := wtL eσ9 hσ8
  refine r_aload_n (pc := 161) (j := 0) dX8_print_161 rfl rfl ?_
  refine gf8_48 (pc := 162) tw_5_142 hσ9 dX8_print_162 ?_
  refine r_iload_n (pc := 165) (j := 2) dX8_print_165 rfl rfl ?_
  refine r_lconst (pc := 166) (v := (1 : Int64)) dX8_print_166 rfl ?_
  refine x_last (pc := 167) (j := (Int32.toNatClampNeg v2_)) rfl h7 rfl dX8_print_167 fun σ10 eσ10 => ?_
  replace hr := vthen_inv hr σ10 eσ10
  have hσ10 := wtL eσ10 hσ9
  refine r_iinc (pc := 168) (j := 2) (v := (v2_ + (1 : Int32))) (ls1 := [(2, .int (v2_ + (1 : Int32))), (0, .ref (ad g 73)), (1, .int x1_)]) dX8_print_168 rfl rfl (nle rfl) rfl ?_
  refine r_goto (pc := 171) (tgt := 79) dX8_print_171 rfl ?_
  exact r_pick (ls1 := [(0, .ref (ad g 73)), (1, .int x1_), (2, .int (v2_ + (1 : Int32)))]) [1, 2, 0] rfl (ih (v2_ + (1 : Int32)) σ10 hr hσ10)

set_option maxRecDepth 20000 in
theorem sX8_print_L186 {g : GG} {r : Int32 × SS} {u1_ : Int32} {u2_ : Int32} {k221 : SS → Option (Int32 × SS)} 
    (hk221 : ∀ (σ_ : SS), k221 σ_ = some r → WT σ_ → RR g mX8_print (FinR g mX8_print (some (.int r.1)) NF r.2) zF 221 [(0, .ref (ad g 73)), (1, .int u1_), (2, .int u2_)] [] σ_)
    (n : Nat) : ∀ (v3_ : Int32) (σ_ : SS), X8_print_L186 u1_ u2_ k221 n v3_ σ_ = some r → WT σ_ → RR g mX8_print (FinR g mX8_print (some (.int r.1)) NF r.2) zF 186 [(0, .ref (ad g 73)), (1, .int u1_), (2, .int u2_), (3, .int v3_)] [] σ_ := by
  unfold X8_print_L186
  refine lp_ind (P := fun (rec : Int32 → SS → Option (Int32 × SS)) => ∀ (v3_ : Int32) (σ_ : SS), rec v3_ σ_ = some r → WT σ_ → RR g mX8_print (FinR g mX8_print (some (.int r.1)) NF r.2) zF 186 [(0, .ref (ad g 73)), (1, .int u1_), (2, .int u2_), (3, .int v3_)] [] σ_) ?_ ?_ n
  · intro v3_ σ_ hr; cases hr
  intro rec ih v3_ σ_ hr hw_
  refine r_iload_n (pc := 186) (j := 3) dX8_print_186 rfl rfl ?_
  refine r_aload_n (pc := 187) (j := 0) dX8_print_187 rfl rfl ?_
  refine r_iload_n (pc := 188) (j := 2) dX8_print_188 rfl rfl ?_
  obtain ⟨v15, hv15, hr⟩ := bnd1_inv hr
  refine kX8_boxesOf (pc := 189) hv15 tw_7_27 ⟨nle rfl, nle rfl⟩ (nle rfl) dX8_print_189 ?_
  refine r_icmp_ge (pc := 192) (tgt := 221) dX8_print_192 rfl (fun hc => ?_) (fun hc => ?_)
  · replace hr := ite_t hc hr
    exact r_pick (ls1 := [(0, .ref (ad g 73)), (1, .int u1_), (2, .int u2_)]) [0, 1, 2] rfl (hk221 σ_ hr hw_)
  replace hr := ite_f hc hr
  refine r_aload_n (pc := 195) (j := 0) dX8_print_195 rfl rfl ?_
  refine gf8_20 (pc := 196) tw_5_114 hw_ dX8_print_196 ?_
  refine r_iload_n (pc := 199) (j := 2) dX8_print_199 rfl rfl ?_
  obtain ⟨h18, hr⟩ := grd_inv hr
  refine x_iald (pc := 200) (k := (Int32.toNatClampNeg u2_)) rfl h18 rfl dX8_print_200 ?_
  refine r_iload_n (pc := 201) (j := 3) dX8_print_201 rfl rfl ?_
  refine kX8_has (pc := 202) (hf := rfl) tw_6_133 ⟨nle rfl, nle rfl⟩ (nle rfl) dX8_print_202 ?_
  refine r_ifB_eq (pc := 205) (tgt := 215) dX8_print_205 rfl (fun hc => ?_) (fun hc => ?_)
  · replace hr := ite_f hc hr
    refine r_iinc (pc := 215) (j := 3) (v := (v3_ + (1 : Int32))) (ls1 := [(3, .int (v3_ + (1 : Int32))), (0, .ref (ad g 73)), (1, .int u1_), (2, .int u2_)]) dX8_print_215 rfl rfl (nle rfl) rfl ?_
    refine r_goto (pc := 218) (tgt := 186) dX8_print_218 rfl ?_
    exact r_pick (ls1 := [(0, .ref (ad g 73)), (1, .int u1_), (2, .int u2_), (3, .int (v3_ + (1 : Int32)))]) [1, 2, 3, 0] rfl (ih (v3_ + (1 : Int32)) σ_ hr hw_)
  replace hr := ite_t hc hr
  refine r_aload_n (pc := 208) (j := 0) dX8_print_208 rfl rfl ?_
  refine r_iload_n (pc := 209) (j := 2) dX8_print_209 rfl rfl ?_
  refine r_iload_n (pc := 210) (j := 3) dX8_print_210 rfl rfl ?_
  refine r_iload_n (pc := 211) (j := 1) dX8_print_211 rfl rfl ?_
  obtain ⟨σ19, eσ19, hr⟩ := bnd1_inv hr
  refine kX8_inks (pc := 212) eσ19 tw_7_167 ⟨nle rfl, nle rfl⟩ (nle rfl) dX8_print_212 fun hσ19 => ?_
  refine r_iinc (pc := 215) (j := 3) (v := (v3_ + (1 : Int32))) (ls1 := [(3, .int (v3_ + (1 : Int32))), (0, .ref (ad g 73)), (1, .int u1_), (2, .int u2_)]) dX8_print_215 rfl rfl (nle rfl) rfl ?_
  refine r_goto (pc := 218) (tgt := 186) dX8_print_218 rfl ?_
  exact r_pick (ls1 := [(0, .ref (ad g 73)), (1, .int u1_), (2, .int u2_), (3, .int (v3_ + (1 : Int32)))]) [1, 2, 3, 0] rfl (ih (v3_ + (1 : Int32)) σ19 hr hσ19)

set_option maxRecDepth 20000 in
theorem sX8_print_L176 {g : GG} {r : Int32 × SS} {u1_ : Int32} {k227 : SS → Option (Int32 × SS)} 
    (hk227 : ∀ (σ_ : SS), k227 σ_ = some r → WT σ_ → RR g mX8_print (FinR g mX8_print (some (.int r.1)) NF r.2) zF 227 [(0, .ref (ad g 73))] [] σ_)
    (n : Nat) : ∀ (v2_ : Int32) (σ_ : SS), X8_print_L176 u1_ k227 n v2_ σ_ = some r → WT σ_ → RR g mX8_print (FinR g mX8_print (some (.int r.1)) NF r.2) zF 176 [(0, .ref (ad g 73)), (1, .int u1_), (2, .int v2_)] [] σ_ := by
  unfold X8_print_L176
  refine lp_ind (P := fun (rec : Int32 → SS → Option (Int32 × SS)) => ∀ (v2_ : Int32) (σ_ : SS), rec v2_ σ_ = some r → WT σ_ → RR g mX8_print (FinR g mX8_print (some (.int r.1)) NF r.2) zF 176 [(0, .ref (ad g 73)), (1, .int u1_), (2, .int v2_)] [] σ_) ?_ ?_ n
  · intro v2_ σ_ hr; cases hr
  intro rec ih v2_ σ_ hr hw_
  refine r_iload_n (pc := 176) (j := 2) dX8_print_176 rfl rfl ?_
  refine r_aload_n (pc := 177) (j := 0) dX8_print_177 rfl rfl ?_
  obtain ⟨v12, hv12, hr⟩ := bnd1_inv hr
  refine kX8_questions (pc := 178) hv12 tw_6_145 ⟨nle rfl, nle rfl⟩ (nle rfl) dX8_print_178 ?_
  refine r_icmp_ge (pc := 181) (tgt := 227) dX8_print_181 rfl (fun hc => ?_) (fun hc => ?_)
  · replace hr := ite_t hc hr
    exact r_pick (ls1 := [(0, .ref (ad g 73))]) [0] rfl (hk227 σ_ hr hw_)
  replace hr := ite_f hc hr
  refine r_iconst (pc := 184) (v := (0 : Int32)) dX8_print_184 rfl ?_
  refine r_istore_n (pc := 185) (ls1 := [(3, .int (0 : Int32)), (0, .ref (ad g 73)), (1, .int u1_), (2, .int v2_)]) dX8_print_185 rfl (nle rfl) rfl ?_
  refine r_pick (ls1 := [(0, .ref (ad g 73)), (1, .int u1_), (2, .int v2_), (3, .int (0 : Int32))]) [1, 2, 3, 0] rfl ?_
  refine sX8_print_L186    (fun σ20 hr hσ20 => ?_) fuel (0 : Int32) σ_ hr hw_
  refine r_iinc (pc := 221) (j := 2) (v := (v2_ + (1 : Int32))) (ls1 := [(2, .int (v2_ + (1 : Int32))), (0, .ref (ad g 73)), (1, .int u1_)]) dX8_print_221 rfl rfl (nle rfl) rfl ?_
  refine r_goto (pc := 224) (tgt := 176) dX8_print_224 rfl ?_
  exact r_pick (ls1 := [(0, .ref (ad g 73)), (1, .int u1_), (2, .int (v2_ + (1 : Int32)))]) [1, 2, 0] rfl (ih (v2_ + (1 : Int32)) σ20 hr hσ20)

set_option maxRecDepth 20000 in
theorem sX8_print_L231 {g : GG} {r : Int32 × SS} {σ_ : SS}   
    (hw_ : WT σ_)
    (n : Nat) : ∀ (v2_ : Int32) (v3_ : Int32), X8_print_L231 σ_ n v2_ v3_ = some r → RR g mX8_print (FinR g mX8_print (some (.int r.1)) NF r.2) zF 231 [(0, .ref (ad g 73)), (2, .int v2_), (3, .int v3_)] [] σ_ := by
  unfold X8_print_L231
  refine lp_ind (P := fun (rec : Int32 → Int32 → Option (Int32 × SS)) => ∀ (v2_ : Int32) (v3_ : Int32), rec v2_ v3_ = some r → RR g mX8_print (FinR g mX8_print (some (.int r.1)) NF r.2) zF 231 [(0, .ref (ad g 73)), (2, .int v2_), (3, .int v3_)] [] σ_) ?_ ?_ n
  · intro v2_ v3_ hr; cases hr
  intro rec ih v2_ v3_ hr
  refine r_iload_n (pc := 231) (j := 2) dX8_print_231 rfl rfl ?_
  refine r_aload_n (pc := 232) (j := 0) dX8_print_232 rfl rfl ?_
  refine kX8_all (pc := 233) (hf := rfl) tw_6_215 ⟨nle rfl, nle rfl⟩ (nle rfl) dX8_print_233 ?_
  refine r_icmp_ge (pc := 236) (tgt := 262) dX8_print_236 rfl (fun hc => ?_) (fun hc => ?_)
  · replace hr := ite_t hc hr
    refine r_iload_n (pc := 262) (j := 1) dX8_print_262 rfl rfl ?_
    exact l_osi hr (r_iret (pc := 263) (v := v2_) rfl rfl ⟨Nat.le_refl _, Nat.le_refl _⟩ dX8_print_263)
  replace hr := ite_f hc hr
  refine r_iload_n (pc := 239) (j := 1) dX8_print_239 rfl rfl ?_
  refine r_aload_n (pc := 240) (j := 0) dX8_print_240 rfl rfl ?_
  refine gf8_21 (pc := 241) tw_5_115 hw_ dX8_print_241 ?_
  refine r_iload_n (pc := 244) (j := 2) dX8_print_244 rfl rfl ?_
  obtain ⟨h22, hr⟩ := grd_inv hr
  refine x_iald (pc := 245) (k := (Int32.toNatClampNeg v3_)) rfl h22 rfl dX8_print_245 ?_
  refine r_if_le (pc := 246) (tgt := 253) dX8_print_246 rfl (fun hc => ?_) (fun hc => ?_)
  · replace hr := ite_t hc hr
    refine r_iconst (pc := 253) (v := (0 : Int32)) dX8_print_253 rfl ?_
    refine r_iadd (pc := 254) dX8_print_254 ?_
    refine r_topi fun v23 ev23 => ?_
    replace hr := vthen_inv hr v23 ev23
    refine r_istore_n (pc := 255) (ls1 := [(2, .int v23), (0, .ref (ad g 73)), (3, .int v3_)]) dX8_print_255 rfl (nle rfl) rfl ?_
    refine r_iinc (pc := 256) (j := 2) (v := (v3_ + (1 : Int32))) (ls1 := [(3, .int (v3_ + (1 : Int32))), (2, .int v23), (0, .ref (ad g 73))]) dX8_print_256 rfl rfl (nle rfl) rfl ?_
    refine r_goto (pc := 259) (tgt := 231) dX8_print_259 rfl ?_
    exact r_pick (ls1 := [(0, .ref (ad g 73)), (2, .int v23), (3, .int (v3_ + (1 : Int32)))]) [2, 1, 0] rfl (ih v23 (v3_ + (1 : Int32)) hr)
  replace hr := ite_f hc hr
  refine r_iconst (pc := 249) (v := (1 : Int32)) dX8_print_249 rfl ?_
  refine r_goto (pc := 250) (tgt := 254) dX8_print_250 rfl ?_
  refine r_iadd (pc := 254) dX8_print_254 ?_
  refine r_topi fun v24 ev24 => ?_
  replace hr := vthen_inv hr v24 ev24
  refine r_istore_n (pc := 255) (ls1 := [(2, .int v24), (0, .ref (ad g 73)), (3, .int v3_)]) dX8_print_255 rfl (nle rfl) rfl ?_
  refine r_iinc (pc := 256) (j := 2) (v := (v3_ + (1 : Int32))) (ls1 := [(3, .int (v3_ + (1 : Int32))), (2, .int v24), (0, .ref (ad g 73))]) dX8_print_256 rfl rfl (nle rfl) rfl ?_
  refine r_goto (pc := 259) (tgt := 231) dX8_print_259 rfl ?_
  exact r_pick (ls1 := [(0, .ref (ad g 73)), (2, .int v24), (3, .int (v3_ + (1 : Int32)))]) [2, 1, 0] rfl (ih v24 (v3_ + (1 : Int32)) hr)

set_option maxRecDepth 20000 in
theorem sX8_print {g : GG} {σ : SS} {a1 : Int32} {r : Int32 × SS} (hr : fX8_print σ a1 = some r)  : Ct g mX8_print [.ref (ad g 73), .int a1] NF σ (some (.int r.1)) NF r.2 := by
  refine Ct.of (by decide +kernel) (nle rfl) fun hw0 => ?_
  have hw := hw0 rfl
  unfold fX8_print at hr
  change RR g mX8_print (FinR g mX8_print (some (.int r.1)) NF r.2) zF 0 [(0, .ref (ad g 73)), (1, .int a1)] [] σ
  refine r_aload_n (pc := 0) (j := 0) dX8_print_0 rfl rfl ?_
  refine gf8_12 (pc := 1) tw_5_106 rfl dX8_print_1 ?_
  refine r_if_eq (pc := 4) (tgt := 17) dX8_print_4 rfl (fun hc => ?_) (fun hc => ?_)
  · replace hr := ite_t hc hr
    refine r_iconst (pc := 17) (v := (-1 : Int32)) dX8_print_17 rfl ?_
    exact l_osi hr (r_iret (pc := 18) (v := (-1 : Int32)) rfl rfl ⟨Nat.le_refl _, Nat.le_refl _⟩ dX8_print_18)
  replace hr := ite_f hc hr
  refine r_iload_n (pc := 7) (j := 1) dX8_print_7 rfl rfl ?_
  refine r_iconst (pc := 8) (v := (1 : Int32)) dX8_print_8 rfl ?_
  refine r_bipush (pc := 9) (v := (9 : Int32)) dX8_print_9 rfl ?_
  refine kX8_in (pc := 11) (hf := rfl) tw_6_65 ⟨nle rfl, nle rfl⟩ (nle rfl) dX8_print_11 ?_
  refine r_ifB_ne (pc := 14) (tgt := 19) dX8_print_14 rfl (fun hc => ?_) (fun hc => ?_)
  · replace hr := ite_t hc hr
    refine r_iconst (pc := 19) (v := (0 : Int32)) dX8_print_19 rfl ?_
    refine r_istore_n (pc := 20) (ls1 := [(2, .int (0 : Int32)), (0, .ref (ad g 73)), (1, .int a1)]) dX8_print_20 rfl (nle rfl) rfl ?_
    refine r_pick (ls1 := [(0, .ref (ad g 73)), (1, .int a1), (2, .int (0 : Int32))]) [1, 2, 0] rfl ?_
    refine sX8_print_L21  hw  (fun hr => ?_) fuel (0 : Int32) hr
    refine r_aload_n (pc := 73) (j := 0) dX8_print_73 rfl rfl ?_
    obtain ⟨σ2, eσ2, hr⟩ := bnd1_inv hr
    refine kX8_clears (pc := 74) eσ2 tw_6_161 ⟨nle rfl, nle rfl⟩ (nle rfl) dX8_print_74 fun hσ2 => ?_
    refine r_iconst (pc := 77) (v := (0 : Int32)) dX8_print_77 rfl ?_
    refine r_istore_n (pc := 78) (ls1 := [(2, .int (0 : Int32)), (0, .ref (ad g 73)), (1, .int a1)]) dX8_print_78 rfl (nle rfl) rfl ?_
    refine r_pick (ls1 := [(0, .ref (ad g 73)), (1, .int a1), (2, .int (0 : Int32))]) [1, 2, 0] rfl ?_
    refine sX8_print_L79    (fun σ11 hr hσ11 => ?_) fuel (0 : Int32) σ2 hr hσ2
    refine r_iconst (pc := 174) (v := (0 : Int32)) dX8_print_174 rfl ?_
    refine r_istore_n (pc := 175) (ls1 := [(2, .int (0 : Int32)), (0, .ref (ad g 73)), (1, .int a1)]) dX8_print_175 rfl (nle rfl) rfl ?_
    refine r_pick (ls1 := [(0, .ref (ad g 73)), (1, .int a1), (2, .int (0 : Int32))]) [1, 2, 0] rfl ?_
    refine sX8_print_L176    (fun σ21 hr hσ21 => ?_) fuel (0 : Int32) σ11 hr hσ11
    refine r_iconst (pc := 227) (v := (0 : Int32)) dX8_print_227 rfl ?_
    refine r_istore_n (pc := 228) (ls1 := [(2, .int (0 : Int32)), (0, .ref (ad g 73))]) dX8_print_228 rfl (nle rfl) rfl ?_
    refine r_iconst (pc := 229) (v := (0 : Int32)) dX8_print_229 rfl ?_
    refine r_istore_n (pc := 230) (ls1 := [(3, .int (0 : Int32)), (2, .int (0 : Int32)), (0, .ref (ad g 73))]) dX8_print_230 rfl (nle rfl) rfl ?_
    refine r_pick (ls1 := [(0, .ref (ad g 73)), (2, .int (0 : Int32)), (3, .int (0 : Int32))]) [2, 1, 0] rfl ?_
    refine sX8_print_L231  hσ21   fuel (0 : Int32) (0 : Int32) hr
  replace hr := ite_f hc hr
  refine r_iconst (pc := 17) (v := (-1 : Int32)) dX8_print_17 rfl ?_
  exact l_osi hr (r_iret (pc := 18) (v := (-1 : Int32)) rfl rfl ⟨Nat.le_refl _, Nat.le_refl _⟩ dX8_print_18)

theorem kX8_print {g : GG} {σ : SS} {a1 : Int32} {v : Int32} {σ2 : SS} {M : MM} {F : State → Array Value → List Frame → State → Prop} {pc index : Nat} {ls : List (Nat × Value)} {rest : List Value} (hf : fX8_print σ a1 = some (v, σ2))  (hl : Cond.methodLink M.1.cls index yX8_print ∈ lw_gt) (hR : mX8_print.2.2.2.2.frames + 1 ≤ M.2.2.2.2.frames ∧ 8 + (mX8_print.2.2.1 + 11) + mX8_print.2.2.2.2.locals ≤ M.2.2.2.2.locals) (hrest : (rest.map fun v => v.category).sum ≤ 8) (hd : decode M.2.1 pc = .ok (.invokevirtual index, 3)) (k : WT σ2 → RR g M F zF (pc + 3) ls (.int v :: rest) σ2) : RR g M F zF pc ls (.int a1 :: .ref (ad g 73) :: rest) σ :=
  r_callV (z := zF) (N := mX8_print) (nn := 1) (o1 := some (.int v)) (sX8_print hf ) (rfl : shp 73 = (8, 0)) (by decide) (shp_le (rfl : shp 73 = (8, 0)) (nle rfl)) (ci := 8) rfl rfl tw_7_166 tw_1_10 hl tw_7_164 tw_7_165 ⟨by decide, by decide, rfl⟩ hR rfl hrest hd ⟨Nat.zero_le _, Nat.zero_le _⟩ rfl (fun h => k (h rfl))

theorem dX7_unlike_0 : decode cX7_unlike 0 = .ok (.aload_n 0, 1) := by decide +kernel
theorem dX7_unlike_1 : decode cX7_unlike 1 = .ok (.getfield 32, 3) := by decide +kernel
theorem dX7_unlike_4 : decode cX7_unlike 4 = .ok (.getfield 274, 3) := by decide +kernel
theorem dX7_unlike_7 : decode cX7_unlike 7 = .ok (.ifCond .ne 5, 3) := by decide +kernel
theorem dX7_unlike_10 : decode cX7_unlike 10 = .ok (.iconst (-1), 1) := by decide +kernel
theorem dX7_unlike_11 : decode cX7_unlike 11 = .ok (.ireturn, 1) := by decide +kernel
theorem dX7_unlike_12 : decode cX7_unlike 12 = .ok (.aload_n 0, 1) := by decide +kernel
theorem dX7_unlike_13 : decode cX7_unlike 13 = .ok (.getfield 62, 3) := by decide +kernel
theorem dX7_unlike_16 : decode cX7_unlike 16 = .ok (.aload_n 0, 1) := by decide +kernel
theorem dX7_unlike_17 : decode cX7_unlike 17 = .ok (.getfield 18, 3) := by decide +kernel
theorem dX7_unlike_20 : decode cX7_unlike 20 = .ok (.aload_n 0, 1) := by decide +kernel
theorem dX7_unlike_21 : decode cX7_unlike 21 = .ok (.getfield 32, 3) := by decide +kernel
theorem dX7_unlike_24 : decode cX7_unlike 24 = .ok (.invokevirtual 303, 3) := by decide +kernel
theorem dX7_unlike_27 : decode cX7_unlike 27 = .ok (.ifCond .ne 6, 3) := by decide +kernel
theorem dX7_unlike_30 : decode cX7_unlike 30 = .ok (.bipush (-2), 2) := by decide +kernel
theorem dX7_unlike_32 : decode cX7_unlike 32 = .ok (.ireturn, 1) := by decide +kernel
theorem dX7_unlike_33 : decode cX7_unlike 33 = .ok (.iconst 0, 1) := by decide +kernel
theorem dX7_unlike_34 : decode cX7_unlike 34 = .ok (.istore_n 1, 1) := by decide +kernel
theorem dX7_unlike_35 : decode cX7_unlike 35 = .ok (.iconst 0, 1) := by decide +kernel
theorem dX7_unlike_36 : decode cX7_unlike 36 = .ok (.istore_n 2, 1) := by decide +kernel
theorem dX7_unlike_37 : decode cX7_unlike 37 = .ok (.iload_n 2, 1) := by decide +kernel
theorem dX7_unlike_38 : decode cX7_unlike 38 = .ok (.aload_n 0, 1) := by decide +kernel
theorem dX7_unlike_39 : decode cX7_unlike 39 = .ok (.getfield 32, 3) := by decide +kernel
theorem dX7_unlike_42 : decode cX7_unlike 42 = .ok (.getfield 97, 3) := by decide +kernel
theorem dX7_unlike_45 : decode cX7_unlike 45 = .ok (.if_icmp .ge 30, 3) := by decide +kernel
theorem dX7_unlike_48 : decode cX7_unlike 48 = .ok (.aload_n 0, 1) := by decide +kernel
theorem dX7_unlike_49 : decode cX7_unlike 49 = .ok (.getfield 62, 3) := by decide +kernel
theorem dX7_unlike_52 : decode cX7_unlike 52 = .ok (.getfield 305, 3) := by decide +kernel
theorem dX7_unlike_55 : decode cX7_unlike 55 = .ok (.iload_n 2, 1) := by decide +kernel
theorem dX7_unlike_56 : decode cX7_unlike 56 = .ok (.iaload, 1) := by decide +kernel
theorem dX7_unlike_57 : decode cX7_unlike 57 = .ok (.aload_n 0, 1) := by decide +kernel
theorem dX7_unlike_58 : decode cX7_unlike 58 = .ok (.getfield 56, 3) := by decide +kernel
theorem dX7_unlike_61 : decode cX7_unlike 61 = .ok (.iload_n 2, 1) := by decide +kernel
theorem dX7_unlike_62 : decode cX7_unlike 62 = .ok (.iaload, 1) := by decide +kernel
theorem dX7_unlike_63 : decode cX7_unlike 63 = .ok (.if_icmp .eq 6, 3) := by decide +kernel
theorem dX7_unlike_66 : decode cX7_unlike 66 = .ok (.iinc 1 1, 3) := by decide +kernel
theorem dX7_unlike_69 : decode cX7_unlike 69 = .ok (.iinc 2 1, 3) := by decide +kernel
theorem dX7_unlike_72 : decode cX7_unlike 72 = .ok (.goto (-35), 3) := by decide +kernel
theorem dX7_unlike_75 : decode cX7_unlike 75 = .ok (.iload_n 1, 1) := by decide +kernel
theorem dX7_unlike_76 : decode cX7_unlike 76 = .ok (.ireturn, 1) := by decide +kernel
def mX7_unlike : MM := (yX7_unlike, cX7_unlike, 3, Option.some Jvm.ClassFile.FieldType.int, { frames := 6, cells := 0, slots := 0, locals := 148 })
def X7_unlike_L37 (σ_ : SS)   : Nat → Int32 → Int32 → Option (Int32 × SS) :=
  lp (fun _ _ => none) fun rec v1_ v2_ =>
    if (gI σ_ (gR σ_ 1 5) 5) ≤ v2_ then (
      some (v1_, σ_)
      ) else (
      grd (inb v2_ 12) <|
      if (gI σ_ 53 (Int32.toNatClampNeg v2_)) = (gI σ_ 30 (Int32.toNatClampNeg v2_)) then (
        rec v1_ (v2_ + (1 : Int32))
        ) else (
        rec (v1_ + (1 : Int32)) (v2_ + (1 : Int32))
        )
      )

def fX7_unlike (σ : SS)  : Option (Int32 × SS) :=
  if (gI σ (gR σ 1 5) 0) = 0 then (
    some ((-1 : Int32), σ)
    ) else (
    bnd (fX3_read σ (gR σ 1 2) (gR σ 1 5)) fun b2 σ4 =>
    if b2 = true then (
      X7_unlike_L37 σ4
      fuel (0 : Int32) (0 : Int32)
      ) else (
      some ((-2 : Int32), σ4)
      )
    )

set_option maxRecDepth 20000 in
theorem sX7_unlike_L37 {g : GG} {r : Int32 × SS} {σ_ : SS}   
    (hw_ : WT σ_)
    (n : Nat) : ∀ (v1_ : Int32) (v2_ : Int32), X7_unlike_L37 σ_ n v1_ v2_ = some r → RR g mX7_unlike (FinR g mX7_unlike (some (.int r.1)) NF r.2) zF 37 [(0, .ref (ad g 1)), (1, .int v1_), (2, .int v2_)] [] σ_ := by
  unfold X7_unlike_L37
  refine lp_ind (P := fun (rec : Int32 → Int32 → Option (Int32 × SS)) => ∀ (v1_ : Int32) (v2_ : Int32), rec v1_ v2_ = some r → RR g mX7_unlike (FinR g mX7_unlike (some (.int r.1)) NF r.2) zF 37 [(0, .ref (ad g 1)), (1, .int v1_), (2, .int v2_)] [] σ_) ?_ ?_ n
  · intro v1_ v2_ hr; cases hr
  intro rec ih v1_ v2_ hr
  refine r_iload_n (pc := 37) (j := 2) dX7_unlike_37 rfl rfl ?_
  refine r_aload_n (pc := 38) (j := 0) dX7_unlike_38 rfl rfl ?_
  refine gf7_5 (pc := 39) tw_2_114 hw_ dX7_unlike_39 ?_
  refine gf1_5 (pc := 42) tw_1_79 (wt_fo hw_).1 dX7_unlike_42 ?_
  refine r_icmp_ge (pc := 45) (tgt := 75) dX7_unlike_45 rfl (fun hc => ?_) (fun hc => ?_)
  · replace hr := ite_t hc hr
    refine r_iload_n (pc := 75) (j := 1) dX7_unlike_75 rfl rfl ?_
    exact l_osi hr (r_iret (pc := 76) (v := v1_) rfl rfl ⟨Nat.le_refl _, Nat.le_refl _⟩ dX7_unlike_76)
  replace hr := ite_f hc hr
  refine r_aload_n (pc := 48) (j := 0) dX7_unlike_48 rfl rfl ?_
  refine gf7_12 (pc := 49) tw_2_121 hw_ dX7_unlike_49 ?_
  refine gf3_7 (pc := 52) tw_2_37 hw_ dX7_unlike_52 ?_
  refine r_iload_n (pc := 55) (j := 2) dX7_unlike_55 rfl rfl ?_
  obtain ⟨h5, hr⟩ := grd_inv hr
  refine x_iald (pc := 56) (k := (Int32.toNatClampNeg v2_)) rfl h5 rfl dX7_unlike_56 ?_
  refine r_aload_n (pc := 57) (j := 0) dX7_unlike_57 rfl rfl ?_
  refine gf7_11 (pc := 58) tw_2_120 hw_ dX7_unlike_58 ?_
  refine r_iload_n (pc := 61) (j := 2) dX7_unlike_61 rfl rfl ?_
  refine x_iald (pc := 62) (k := (Int32.toNatClampNeg v2_)) rfl h5 rfl dX7_unlike_62 ?_
  refine r_icmp_eq (pc := 63) (tgt := 69) dX7_unlike_63 rfl (fun hc => ?_) (fun hc => ?_)
  · replace hr := ite_t hc hr
    refine r_iinc (pc := 69) (j := 2) (v := (v2_ + (1 : Int32))) (ls1 := [(2, .int (v2_ + (1 : Int32))), (0, .ref (ad g 1)), (1, .int v1_)]) dX7_unlike_69 rfl rfl (nle rfl) rfl ?_
    refine r_goto (pc := 72) (tgt := 37) dX7_unlike_72 rfl ?_
    exact r_pick (ls1 := [(0, .ref (ad g 1)), (1, .int v1_), (2, .int (v2_ + (1 : Int32)))]) [1, 2, 0] rfl (ih v1_ (v2_ + (1 : Int32)) hr)
  replace hr := ite_f hc hr
  refine r_iinc (pc := 66) (j := 1) (v := (v1_ + (1 : Int32))) (ls1 := [(1, .int (v1_ + (1 : Int32))), (0, .ref (ad g 1)), (2, .int v2_)]) dX7_unlike_66 rfl rfl (nle rfl) rfl ?_
  refine r_iinc (pc := 69) (j := 2) (v := (v2_ + (1 : Int32))) (ls1 := [(2, .int (v2_ + (1 : Int32))), (1, .int (v1_ + (1 : Int32))), (0, .ref (ad g 1))]) dX7_unlike_69 rfl rfl (nle rfl) rfl ?_
  refine r_goto (pc := 72) (tgt := 37) dX7_unlike_72 rfl ?_
  exact r_pick (ls1 := [(0, .ref (ad g 1)), (1, .int (v1_ + (1 : Int32))), (2, .int (v2_ + (1 : Int32)))]) [2, 1, 0] rfl (ih (v1_ + (1 : Int32)) (v2_ + (1 : Int32)) hr)

set_option maxRecDepth 20000 in
theorem sX7_unlike {g : GG} {σ : SS}  {r : Int32 × SS} (hr : fX7_unlike σ = some r)  : Ct g mX7_unlike [.ref (ad g 1)] NF σ (some (.int r.1)) NF r.2 := by
  refine Ct.of (by decide +kernel) (nle rfl) fun hw0 => ?_
  have hw := hw0 rfl
  unfold fX7_unlike at hr
  change RR g mX7_unlike (FinR g mX7_unlike (some (.int r.1)) NF r.2) zF 0 [(0, .ref (ad g 1))] [] σ
  refine r_aload_n (pc := 0) (j := 0) dX7_unlike_0 rfl rfl ?_
  refine gf7_5 (pc := 1) tw_2_114 hw dX7_unlike_1 ?_
  refine gf1_0 (pc := 4) tw_1_61 (wt_fo hw).1 dX7_unlike_4 ?_
  refine r_if_ne (pc := 7) (tgt := 12) dX7_unlike_7 rfl (fun hc => ?_) (fun hc => ?_)
  · replace hr := ite_f hc hr
    refine r_aload_n (pc := 12) (j := 0) dX7_unlike_12 rfl rfl ?_
    refine gf7_12 (pc := 13) tw_2_121 hw dX7_unlike_13 ?_
    refine r_aload_n (pc := 16) (j := 0) dX7_unlike_16 rfl rfl ?_
    refine gf7_2 (pc := 17) tw_2_111 hw dX7_unlike_17 ?_
    refine r_aload_n (pc := 20) (j := 0) dX7_unlike_20 rfl rfl ?_
    refine gf7_5 (pc := 21) tw_2_114 hw dX7_unlike_21 ?_
    obtain ⟨b2, σ4, eσ4, hr⟩ := bnd_inv hr
    refine kX3_read (pc := 24) eσ4 (wt_sc hw).1 (wt_fo hw).1 tw_4_135 ⟨nle rfl, nle rfl⟩ (nle rfl) dX7_unlike_24 fun hσ4 => ?_
    refine r_ifB_ne (pc := 27) (tgt := 33) dX7_unlike_27 rfl (fun hc => ?_) (fun hc => ?_)
    · replace hr := ite_t hc hr
      refine r_iconst (pc := 33) (v := (0 : Int32)) dX7_unlike_33 rfl ?_
      refine r_istore_n (pc := 34) (ls1 := [(1, .int (0 : Int32)), (0, .ref (ad g 1))]) dX7_unlike_34 rfl (nle rfl) rfl ?_
      refine r_iconst (pc := 35) (v := (0 : Int32)) dX7_unlike_35 rfl ?_
      refine r_istore_n (pc := 36) (ls1 := [(2, .int (0 : Int32)), (1, .int (0 : Int32)), (0, .ref (ad g 1))]) dX7_unlike_36 rfl (nle rfl) rfl ?_
      refine r_pick (ls1 := [(0, .ref (ad g 1)), (1, .int (0 : Int32)), (2, .int (0 : Int32))]) [2, 1, 0] rfl ?_
      refine sX7_unlike_L37  hσ4   fuel (0 : Int32) (0 : Int32) hr
    replace hr := ite_f hc hr
    refine r_bipush (pc := 30) (v := (-2 : Int32)) dX7_unlike_30 rfl ?_
    exact l_osi hr (r_iret (pc := 32) (v := (-2 : Int32)) rfl rfl ⟨Nat.le_refl _, Nat.le_refl _⟩ dX7_unlike_32)
  replace hr := ite_t hc hr
  refine r_iconst (pc := 10) (v := (-1 : Int32)) dX7_unlike_10 rfl ?_
  exact l_osi hr (r_iret (pc := 11) (v := (-1 : Int32)) rfl rfl ⟨Nat.le_refl _, Nat.le_refl _⟩ dX7_unlike_11)

theorem kX7_unlike {g : GG} {σ : SS}  {v : Int32} {σ2 : SS} {M : MM} {F : State → Array Value → List Frame → State → Prop} {pc index : Nat} {ls : List (Nat × Value)} {rest : List Value} (hf : fX7_unlike σ = some (v, σ2))  (hl : Cond.methodLink M.1.cls index yX7_unlike ∈ lw_gt) (hR : mX7_unlike.2.2.2.2.frames + 1 ≤ M.2.2.2.2.frames ∧ 8 + (mX7_unlike.2.2.1 + 11) + mX7_unlike.2.2.2.2.locals ≤ M.2.2.2.2.locals) (hrest : (rest.map fun v => v.category).sum ≤ 8) (hd : decode M.2.1 pc = .ok (.invokevirtual index, 3)) (k : WT σ2 → RR g M F zF (pc + 3) ls (.int v :: rest) σ2) : RR g M F zF pc ls (.ref (ad g 1) :: rest) σ :=
  r_callV (z := zF) (N := mX7_unlike) (nn := 0) (o1 := some (.int v)) (sX7_unlike hf ) (rfl : shp 1 = (7, 0)) (by decide) (shp_le (rfl : shp 1 = (7, 0)) (nle rfl)) (ci := 7) rfl rfl tw_4_239 tw_1_1 hl tw_4_237 tw_4_238 ⟨by decide, by decide, rfl⟩ hR rfl hrest hd ⟨Nat.zero_le _, Nat.zero_le _⟩ rfl (fun h => k (h rfl))

theorem dX8_unlike_0 : decode cX8_unlike 0 = .ok (.aload_n 0, 1) := by decide +kernel
theorem dX8_unlike_1 : decode cX8_unlike 1 = .ok (.getfield 202, 3) := by decide +kernel
theorem dX8_unlike_4 : decode cX8_unlike 4 = .ok (.ifCond .ne 5, 3) := by decide +kernel
theorem dX8_unlike_7 : decode cX8_unlike 7 = .ok (.iconst (-1), 1) := by decide +kernel
theorem dX8_unlike_8 : decode cX8_unlike 8 = .ok (.ireturn, 1) := by decide +kernel
theorem dX8_unlike_9 : decode cX8_unlike 9 = .ok (.aload_n 0, 1) := by decide +kernel
theorem dX8_unlike_10 : decode cX8_unlike 10 = .ok (.invokevirtual 373, 3) := by decide +kernel
theorem dX8_unlike_13 : decode cX8_unlike 13 = .ok (.ifCond .ne 6, 3) := by decide +kernel
theorem dX8_unlike_16 : decode cX8_unlike 16 = .ok (.bipush (-2), 2) := by decide +kernel
theorem dX8_unlike_18 : decode cX8_unlike 18 = .ok (.ireturn, 1) := by decide +kernel
theorem dX8_unlike_19 : decode cX8_unlike 19 = .ok (.iconst 0, 1) := by decide +kernel
theorem dX8_unlike_20 : decode cX8_unlike 20 = .ok (.istore_n 1, 1) := by decide +kernel
theorem dX8_unlike_21 : decode cX8_unlike 21 = .ok (.iconst 0, 1) := by decide +kernel
theorem dX8_unlike_22 : decode cX8_unlike 22 = .ok (.istore_n 2, 1) := by decide +kernel
theorem dX8_unlike_23 : decode cX8_unlike 23 = .ok (.iload_n 2, 1) := by decide +kernel
theorem dX8_unlike_24 : decode cX8_unlike 24 = .ok (.aload_n 0, 1) := by decide +kernel
theorem dX8_unlike_25 : decode cX8_unlike 25 = .ok (.invokevirtual 266, 3) := by decide +kernel
theorem dX8_unlike_28 : decode cX8_unlike 28 = .ok (.if_icmp .ge 41, 3) := by decide +kernel
theorem dX8_unlike_31 : decode cX8_unlike 31 = .ok (.aload_n 0, 1) := by decide +kernel
theorem dX8_unlike_32 : decode cX8_unlike 32 = .ok (.iload_n 2, 1) := by decide +kernel
theorem dX8_unlike_33 : decode cX8_unlike 33 = .ok (.aload_n 0, 1) := by decide +kernel
theorem dX8_unlike_34 : decode cX8_unlike 34 = .ok (.getfield 53, 3) := by decide +kernel
theorem dX8_unlike_37 : decode cX8_unlike 37 = .ok (.iconst 3, 1) := by decide +kernel
theorem dX8_unlike_38 : decode cX8_unlike 38 = .ok (.iaload, 1) := by decide +kernel
theorem dX8_unlike_39 : decode cX8_unlike 39 = .ok (.invokevirtual 401, 3) := by decide +kernel
theorem dX8_unlike_42 : decode cX8_unlike 42 = .ok (.iload_n 1, 1) := by decide +kernel
theorem dX8_unlike_43 : decode cX8_unlike 43 = .ok (.aload_n 0, 1) := by decide +kernel
theorem dX8_unlike_44 : decode cX8_unlike 44 = .ok (.getfield 385, 3) := by decide +kernel
theorem dX8_unlike_47 : decode cX8_unlike 47 = .ok (.aload_n 0, 1) := by decide +kernel
theorem dX8_unlike_48 : decode cX8_unlike 48 = .ok (.getfield 35, 3) := by decide +kernel
theorem dX8_unlike_51 : decode cX8_unlike 51 = .ok (.iload_n 2, 1) := by decide +kernel
theorem dX8_unlike_52 : decode cX8_unlike 52 = .ok (.iaload, 1) := by decide +kernel
theorem dX8_unlike_53 : decode cX8_unlike 53 = .ok (.if_icmp .ne 7, 3) := by decide +kernel
theorem dX8_unlike_56 : decode cX8_unlike 56 = .ok (.iconst 0, 1) := by decide +kernel
theorem dX8_unlike_57 : decode cX8_unlike 57 = .ok (.goto 4, 3) := by decide +kernel
theorem dX8_unlike_60 : decode cX8_unlike 60 = .ok (.iconst 1, 1) := by decide +kernel
theorem dX8_unlike_61 : decode cX8_unlike 61 = .ok (.iadd, 1) := by decide +kernel
theorem dX8_unlike_62 : decode cX8_unlike 62 = .ok (.istore_n 1, 1) := by decide +kernel
theorem dX8_unlike_63 : decode cX8_unlike 63 = .ok (.iinc 2 1, 3) := by decide +kernel
theorem dX8_unlike_66 : decode cX8_unlike 66 = .ok (.goto (-43), 3) := by decide +kernel
theorem dX8_unlike_69 : decode cX8_unlike 69 = .ok (.iload_n 1, 1) := by decide +kernel
theorem dX8_unlike_70 : decode cX8_unlike 70 = .ok (.ireturn, 1) := by decide +kernel
def mX8_unlike : MM := (yX8_unlike, cX8_unlike, 3, Option.some Jvm.ClassFile.FieldType.int, { frames := 7, cells := 0, slots := 0, locals := 158 })
def X8_unlike_L23   : Nat → Int32 → Int32 → SS → Option (Int32 × SS) :=
  lp (fun _ _ _ => none) fun rec v1_ v2_ σ_ =>
    bnd1 (fX8_questions σ_) fun v5 =>
    if v5 ≤ v2_ then (
      some (v1_, σ_)
      ) else (
      bnd1 (fX8_judges σ_ v2_ (gI σ_ 88 3)) fun σ8 =>
      grd (inb v2_ 12) <|
      if (gI σ8 73 55) = (gI σ8 82 (Int32.toNatClampNeg v2_)) then (
        vthen (v1_ + (0 : Int32)) fun v11 =>
        rec v11 (v2_ + (1 : Int32)) σ8
        ) else (
        vthen (v1_ + (1 : Int32)) fun v10 =>
        rec v10 (v2_ + (1 : Int32)) σ8
        )
      )

def fX8_unlike (σ : SS)  : Option (Int32 × SS) :=
  if (gI σ 73 12) = 0 then (
    some ((-1 : Int32), σ)
    ) else (
    bnd (fX8_finds σ) fun b2 σ4 =>
    if b2 = true then (
      X8_unlike_L23
      fuel (0 : Int32) (0 : Int32) σ4
      ) else (
      some ((-2 : Int32), σ4)
      )
    )

set_option maxRecDepth 20000 in
theorem sX8_unlike_L23 {g : GG} {r : Int32 × SS}   
    (n : Nat) : ∀ (v1_ : Int32) (v2_ : Int32) (σ_ : SS), X8_unlike_L23 n v1_ v2_ σ_ = some r → WT σ_ → RR g mX8_unlike (FinR g mX8_unlike (some (.int r.1)) NF r.2) zF 23 [(0, .ref (ad g 73)), (1, .int v1_), (2, .int v2_)] [] σ_ := by
  unfold X8_unlike_L23
  refine lp_ind (P := fun (rec : Int32 → Int32 → SS → Option (Int32 × SS)) => ∀ (v1_ : Int32) (v2_ : Int32) (σ_ : SS), rec v1_ v2_ σ_ = some r → WT σ_ → RR g mX8_unlike (FinR g mX8_unlike (some (.int r.1)) NF r.2) zF 23 [(0, .ref (ad g 73)), (1, .int v1_), (2, .int v2_)] [] σ_) ?_ ?_ n
  · intro v1_ v2_ σ_ hr; cases hr
  intro rec ih v1_ v2_ σ_ hr hw_
  refine r_iload_n (pc := 23) (j := 2) dX8_unlike_23 rfl rfl ?_
  refine r_aload_n (pc := 24) (j := 0) dX8_unlike_24 rfl rfl ?_
  obtain ⟨v5, hv5, hr⟩ := bnd1_inv hr
  refine kX8_questions (pc := 25) hv5 tw_6_145 ⟨nle rfl, nle rfl⟩ (nle rfl) dX8_unlike_25 ?_
  refine r_icmp_ge (pc := 28) (tgt := 69) dX8_unlike_28 rfl (fun hc => ?_) (fun hc => ?_)
  · replace hr := ite_t hc hr
    refine r_iload_n (pc := 69) (j := 1) dX8_unlike_69 rfl rfl ?_
    exact l_osi hr (r_iret (pc := 70) (v := v1_) rfl rfl ⟨Nat.le_refl _, Nat.le_refl _⟩ dX8_unlike_70)
  replace hr := ite_f hc hr
  refine r_aload_n (pc := 31) (j := 0) dX8_unlike_31 rfl rfl ?_
  refine r_iload_n (pc := 32) (j := 2) dX8_unlike_32 rfl rfl ?_
  refine r_aload_n (pc := 33) (j := 0) dX8_unlike_33 rfl rfl ?_
  refine gf8_26 (pc := 34) tw_5_120 hw_ dX8_unlike_34 ?_
  refine r_iconst (pc := 37) (v := (3 : Int32)) dX8_unlike_37 rfl ?_
  refine x_iald (pc := 38) (k := 3) rfl (by decide) rfl dX8_unlike_38 ?_
  obtain ⟨σ8, eσ8, hr⟩ := bnd1_inv hr
  refine kX8_judges (pc := 39) eσ8 tw_7_107 ⟨nle rfl, nle rfl⟩ (nle rfl) dX8_unlike_39 fun hσ8 => ?_
  refine r_iload_n (pc := 42) (j := 1) dX8_unlike_42 rfl rfl ?_
  refine r_aload_n (pc := 43) (j := 0) dX8_unlike_43 rfl rfl ?_
  refine gf8_55 (pc := 44) tw_5_149 rfl dX8_unlike_44 ?_
  refine r_aload_n (pc := 47) (j := 0) dX8_unlike_47 rfl rfl ?_
  refine gf8_20 (pc := 48) tw_5_114 hσ8 dX8_unlike_48 ?_
  refine r_iload_n (pc := 51) (j := 2) dX8_unlike_51 rfl rfl ?_
  obtain ⟨h9, hr⟩ := grd_inv hr
  refine x_iald (pc := 52) (k := (Int32.toNatClampNeg v2_)) rfl h9 rfl dX8_unlike_52 ?_
  refine r_icmp_ne (pc := 53) (tgt := 60) dX8_unlike_53 rfl (fun hc => ?_) (fun hc => ?_)
  · replace hr := ite_f hc hr
    refine r_iconst (pc := 60) (v := (1 : Int32)) dX8_unlike_60 rfl ?_
    refine r_iadd (pc := 61) dX8_unlike_61 ?_
    refine r_topi fun v10 ev10 => ?_
    replace hr := vthen_inv hr v10 ev10
    refine r_istore_n (pc := 62) (ls1 := [(1, .int v10), (0, .ref (ad g 73)), (2, .int v2_)]) dX8_unlike_62 rfl (nle rfl) rfl ?_
    refine r_iinc (pc := 63) (j := 2) (v := (v2_ + (1 : Int32))) (ls1 := [(2, .int (v2_ + (1 : Int32))), (1, .int v10), (0, .ref (ad g 73))]) dX8_unlike_63 rfl rfl (nle rfl) rfl ?_
    refine r_goto (pc := 66) (tgt := 23) dX8_unlike_66 rfl ?_
    exact r_pick (ls1 := [(0, .ref (ad g 73)), (1, .int v10), (2, .int (v2_ + (1 : Int32)))]) [2, 1, 0] rfl (ih v10 (v2_ + (1 : Int32)) σ8 hr hσ8)
  replace hr := ite_t hc hr
  refine r_iconst (pc := 56) (v := (0 : Int32)) dX8_unlike_56 rfl ?_
  refine r_goto (pc := 57) (tgt := 61) dX8_unlike_57 rfl ?_
  refine r_iadd (pc := 61) dX8_unlike_61 ?_
  refine r_topi fun v11 ev11 => ?_
  replace hr := vthen_inv hr v11 ev11
  refine r_istore_n (pc := 62) (ls1 := [(1, .int v11), (0, .ref (ad g 73)), (2, .int v2_)]) dX8_unlike_62 rfl (nle rfl) rfl ?_
  refine r_iinc (pc := 63) (j := 2) (v := (v2_ + (1 : Int32))) (ls1 := [(2, .int (v2_ + (1 : Int32))), (1, .int v11), (0, .ref (ad g 73))]) dX8_unlike_63 rfl rfl (nle rfl) rfl ?_
  refine r_goto (pc := 66) (tgt := 23) dX8_unlike_66 rfl ?_
  exact r_pick (ls1 := [(0, .ref (ad g 73)), (1, .int v11), (2, .int (v2_ + (1 : Int32)))]) [2, 1, 0] rfl (ih v11 (v2_ + (1 : Int32)) σ8 hr hσ8)

set_option maxRecDepth 20000 in
theorem sX8_unlike {g : GG} {σ : SS}  {r : Int32 × SS} (hr : fX8_unlike σ = some r)  : Ct g mX8_unlike [.ref (ad g 73)] NF σ (some (.int r.1)) NF r.2 := by
  refine Ct.of (by decide +kernel) (nle rfl) fun hw0 => ?_
  have hw := hw0 rfl
  unfold fX8_unlike at hr
  change RR g mX8_unlike (FinR g mX8_unlike (some (.int r.1)) NF r.2) zF 0 [(0, .ref (ad g 73))] [] σ
  refine r_aload_n (pc := 0) (j := 0) dX8_unlike_0 rfl rfl ?_
  refine gf8_12 (pc := 1) tw_5_106 rfl dX8_unlike_1 ?_
  refine r_if_ne (pc := 4) (tgt := 9) dX8_unlike_4 rfl (fun hc => ?_) (fun hc => ?_)
  · replace hr := ite_f hc hr
    refine r_aload_n (pc := 9) (j := 0) dX8_unlike_9 rfl rfl ?_
    obtain ⟨b2, σ4, eσ4, hr⟩ := bnd_inv hr
    refine kX8_finds (pc := 10) eσ4 tw_7_94 ⟨nle rfl, nle rfl⟩ (nle rfl) dX8_unlike_10 fun hσ4 => ?_
    refine r_ifB_ne (pc := 13) (tgt := 19) dX8_unlike_13 rfl (fun hc => ?_) (fun hc => ?_)
    · replace hr := ite_t hc hr
      refine r_iconst (pc := 19) (v := (0 : Int32)) dX8_unlike_19 rfl ?_
      refine r_istore_n (pc := 20) (ls1 := [(1, .int (0 : Int32)), (0, .ref (ad g 73))]) dX8_unlike_20 rfl (nle rfl) rfl ?_
      refine r_iconst (pc := 21) (v := (0 : Int32)) dX8_unlike_21 rfl ?_
      refine r_istore_n (pc := 22) (ls1 := [(2, .int (0 : Int32)), (1, .int (0 : Int32)), (0, .ref (ad g 73))]) dX8_unlike_22 rfl (nle rfl) rfl ?_
      refine r_pick (ls1 := [(0, .ref (ad g 73)), (1, .int (0 : Int32)), (2, .int (0 : Int32))]) [2, 1, 0] rfl ?_
      refine sX8_unlike_L23     fuel (0 : Int32) (0 : Int32) σ4 hr hσ4
    replace hr := ite_f hc hr
    refine r_bipush (pc := 16) (v := (-2 : Int32)) dX8_unlike_16 rfl ?_
    exact l_osi hr (r_iret (pc := 18) (v := (-2 : Int32)) rfl rfl ⟨Nat.le_refl _, Nat.le_refl _⟩ dX8_unlike_18)
  replace hr := ite_t hc hr
  refine r_iconst (pc := 7) (v := (-1 : Int32)) dX8_unlike_7 rfl ?_
  exact l_osi hr (r_iret (pc := 8) (v := (-1 : Int32)) rfl rfl ⟨Nat.le_refl _, Nat.le_refl _⟩ dX8_unlike_8)

theorem kX8_unlike {g : GG} {σ : SS}  {v : Int32} {σ2 : SS} {M : MM} {F : State → Array Value → List Frame → State → Prop} {pc index : Nat} {ls : List (Nat × Value)} {rest : List Value} (hf : fX8_unlike σ = some (v, σ2))  (hl : Cond.methodLink M.1.cls index yX8_unlike ∈ lw_gt) (hR : mX8_unlike.2.2.2.2.frames + 1 ≤ M.2.2.2.2.frames ∧ 8 + (mX8_unlike.2.2.1 + 11) + mX8_unlike.2.2.2.2.locals ≤ M.2.2.2.2.locals) (hrest : (rest.map fun v => v.category).sum ≤ 8) (hd : decode M.2.1 pc = .ok (.invokevirtual index, 3)) (k : WT σ2 → RR g M F zF (pc + 3) ls (.int v :: rest) σ2) : RR g M F zF pc ls (.ref (ad g 73) :: rest) σ :=
  r_callV (z := zF) (N := mX8_unlike) (nn := 0) (o1 := some (.int v)) (sX8_unlike hf ) (rfl : shp 73 = (8, 0)) (by decide) (shp_le (rfl : shp 73 = (8, 0)) (nle rfl)) (ci := 8) rfl rfl tw_7_174 tw_1_10 hl tw_7_172 tw_7_173 ⟨by decide, by decide, rfl⟩ hR rfl hrest hd ⟨Nat.zero_le _, Nat.zero_le _⟩ rfl (fun h => k (h rfl))

theorem dX7_up_0 : decode cX7_up 0 = .ok (.aload_n 0, 1) := by decide +kernel
theorem dX7_up_1 : decode cX7_up 1 = .ok (.getfield 32, 3) := by decide +kernel
theorem dX7_up_4 : decode cX7_up 4 = .ok (.getfield 274, 3) := by decide +kernel
theorem dX7_up_7 : decode cX7_up 7 = .ok (.ifCond .ne 5, 3) := by decide +kernel
theorem dX7_up_10 : decode cX7_up 10 = .ok (.iconst (-1), 1) := by decide +kernel
theorem dX7_up_11 : decode cX7_up 11 = .ok (.ireturn, 1) := by decide +kernel
theorem dX7_up_12 : decode cX7_up 12 = .ok (.bipush (-2), 2) := by decide +kernel
theorem dX7_up_14 : decode cX7_up 14 = .ok (.istore_n 1, 1) := by decide +kernel
theorem dX7_up_15 : decode cX7_up 15 = .ok (.iconst 0, 1) := by decide +kernel
theorem dX7_up_16 : decode cX7_up 16 = .ok (.istore_n 2, 1) := by decide +kernel
theorem dX7_up_17 : decode cX7_up 17 = .ok (.iconst 0, 1) := by decide +kernel
theorem dX7_up_18 : decode cX7_up 18 = .ok (.istore_n 3, 1) := by decide +kernel
theorem dX7_up_19 : decode cX7_up 19 = .ok (.iload_n 3, 1) := by decide +kernel
theorem dX7_up_20 : decode cX7_up 20 = .ok (.iconst 4, 1) := by decide +kernel
theorem dX7_up_21 : decode cX7_up 21 = .ok (.if_icmp .ge 67, 3) := by decide +kernel
theorem dX7_up_24 : decode cX7_up 24 = .ok (.aload_n 0, 1) := by decide +kernel
theorem dX7_up_25 : decode cX7_up 25 = .ok (.getfield 22, 3) := by decide +kernel
theorem dX7_up_28 : decode cX7_up 28 = .ok (.aload_n 0, 1) := by decide +kernel
theorem dX7_up_29 : decode cX7_up 29 = .ok (.getfield 18, 3) := by decide +kernel
theorem dX7_up_32 : decode cX7_up 32 = .ok (.iload_n 3, 1) := by decide +kernel
theorem dX7_up_33 : decode cX7_up 33 = .ok (.invokevirtual 183, 3) := by decide +kernel
theorem dX7_up_36 : decode cX7_up 36 = .ok (.aload_n 0, 1) := by decide +kernel
theorem dX7_up_37 : decode cX7_up 37 = .ok (.getfield 62, 3) := by decide +kernel
theorem dX7_up_40 : decode cX7_up 40 = .ok (.aload_n 0, 1) := by decide +kernel
theorem dX7_up_41 : decode cX7_up 41 = .ok (.getfield 22, 3) := by decide +kernel
theorem dX7_up_44 : decode cX7_up 44 = .ok (.aload_n 0, 1) := by decide +kernel
theorem dX7_up_45 : decode cX7_up 45 = .ok (.getfield 32, 3) := by decide +kernel
theorem dX7_up_48 : decode cX7_up 48 = .ok (.invokevirtual 303, 3) := by decide +kernel
theorem dX7_up_51 : decode cX7_up 51 = .ok (.ifCond .eq 31, 3) := by decide +kernel
theorem dX7_up_54 : decode cX7_up 54 = .ok (.aload_n 0, 1) := by decide +kernel
theorem dX7_up_55 : decode cX7_up 55 = .ok (.getfield 62, 3) := by decide +kernel
theorem dX7_up_58 : decode cX7_up 58 = .ok (.aload_n 0, 1) := by decide +kernel
theorem dX7_up_59 : decode cX7_up 59 = .ok (.getfield 32, 3) := by decide +kernel
theorem dX7_up_62 : decode cX7_up 62 = .ok (.invokevirtual 321, 3) := by decide +kernel
theorem dX7_up_65 : decode cX7_up 65 = .ok (.istore 4, 2) := by decide +kernel
theorem dX7_up_67 : decode cX7_up 67 = .ok (.iload_n 1, 1) := by decide +kernel
theorem dX7_up_68 : decode cX7_up 68 = .ok (.ifCond .lt 9, 3) := by decide +kernel
theorem dX7_up_71 : decode cX7_up 71 = .ok (.iload 4, 2) := by decide +kernel
theorem dX7_up_73 : decode cX7_up 73 = .ok (.iload_n 2, 1) := by decide +kernel
theorem dX7_up_74 : decode cX7_up 74 = .ok (.if_icmp .le 8, 3) := by decide +kernel
theorem dX7_up_77 : decode cX7_up 77 = .ok (.iload_n 3, 1) := by decide +kernel
theorem dX7_up_78 : decode cX7_up 78 = .ok (.istore_n 1, 1) := by decide +kernel
theorem dX7_up_79 : decode cX7_up 79 = .ok (.iload 4, 2) := by decide +kernel
theorem dX7_up_81 : decode cX7_up 81 = .ok (.istore_n 2, 1) := by decide +kernel
theorem dX7_up_82 : decode cX7_up 82 = .ok (.iinc 3 1, 3) := by decide +kernel
theorem dX7_up_85 : decode cX7_up 85 = .ok (.goto (-66), 3) := by decide +kernel
theorem dX7_up_88 : decode cX7_up 88 = .ok (.iload_n 1, 1) := by decide +kernel
theorem dX7_up_89 : decode cX7_up 89 = .ok (.ireturn, 1) := by decide +kernel
def mX7_up : MM := (yX7_up, cX7_up, 5, Option.some Jvm.ClassFile.FieldType.int, { frames := 6, cells := 0, slots := 0, locals := 148 })
def X7_up_L19   : Nat → Int32 → Int32 → Int32 → SS → Option (Int32 × SS) :=
  lp (fun _ _ _ _ => none) fun rec v1_ v2_ v3_ σ_ =>
    if (4 : Int32) ≤ v3_ then (
      some (v1_, σ_)
      ) else (
      bnd1 (fX6_takeTurned σ_ (gR σ_ 1 3) (gR σ_ 1 2) v3_) fun σ1 =>
      bnd (fX3_read σ1 (gR σ1 1 3) (gR σ1 1 5)) fun b3 σ5 =>
      if b3 = true then (
        bnd1 (fX3_allGains σ5 (gR σ5 1 5)) fun v6 =>
        vthen (fun (_u : Unit) =>
          rec v3_ v6 (v3_ + (1 : Int32)) σ5
          ) fun j77 =>
        if v1_ < 0 then (
          j77 ()
          ) else (
          if v6 ≤ v2_ then (
            rec v1_ v2_ (v3_ + (1 : Int32)) σ5
            ) else (
            j77 ()
            )
          )
        ) else (
        rec v1_ v2_ (v3_ + (1 : Int32)) σ5
        )
      )

def fX7_up (σ : SS)  : Option (Int32 × SS) :=
  if (gI σ (gR σ 1 5) 0) = 0 then (
    some ((-1 : Int32), σ)
    ) else (
    X7_up_L19
    fuel (-2 : Int32) (0 : Int32) (0 : Int32) σ
    )

set_option maxRecDepth 20000 in
theorem sX7_up_L19 {g : GG} {r : Int32 × SS}   
    (n : Nat) : ∀ (v1_ : Int32) (v2_ : Int32) (v3_ : Int32) (σ_ : SS), X7_up_L19 n v1_ v2_ v3_ σ_ = some r → WT σ_ → RR g mX7_up (FinR g mX7_up (some (.int r.1)) NF r.2) zF 19 [(0, .ref (ad g 1)), (1, .int v1_), (2, .int v2_), (3, .int v3_)] [] σ_ := by
  unfold X7_up_L19
  refine lp_ind (P := fun (rec : Int32 → Int32 → Int32 → SS → Option (Int32 × SS)) => ∀ (v1_ : Int32) (v2_ : Int32) (v3_ : Int32) (σ_ : SS), rec v1_ v2_ v3_ σ_ = some r → WT σ_ → RR g mX7_up (FinR g mX7_up (some (.int r.1)) NF r.2) zF 19 [(0, .ref (ad g 1)), (1, .int v1_), (2, .int v2_), (3, .int v3_)] [] σ_) ?_ ?_ n
  · intro v1_ v2_ v3_ σ_ hr; cases hr
  intro rec ih v1_ v2_ v3_ σ_ hr hw_
  refine r_iload_n (pc := 19) (j := 3) dX7_up_19 rfl rfl ?_
  refine r_iconst (pc := 20) (v := (4 : Int32)) dX7_up_20 rfl ?_
  refine r_icmp_ge (pc := 21) (tgt := 88) dX7_up_21 rfl (fun hc => ?_) (fun hc => ?_)
  · replace hr := ite_t hc hr
    refine r_iload_n (pc := 88) (j := 1) dX7_up_88 rfl rfl ?_
    exact l_osi hr (r_iret (pc := 89) (v := v1_) rfl rfl ⟨Nat.le_refl _, Nat.le_refl _⟩ dX7_up_89)
  replace hr := ite_f hc hr
  refine r_aload_n (pc := 24) (j := 0) dX7_up_24 rfl rfl ?_
  refine gf7_3 (pc := 25) tw_2_112 hw_ dX7_up_25 ?_
  refine r_aload_n (pc := 28) (j := 0) dX7_up_28 rfl rfl ?_
  refine gf7_2 (pc := 29) tw_2_111 hw_ dX7_up_29 ?_
  refine r_iload_n (pc := 32) (j := 3) dX7_up_32 rfl rfl ?_
  obtain ⟨σ1, eσ1, hr⟩ := bnd1_inv hr
  refine kX6_takeTurned (pc := 33) eσ1 (wt_sp hw_).1 (wt_sc hw_).1 tw_3_157 ⟨nle rfl, nle rfl⟩ (nle rfl) dX7_up_33 fun hσ1 => ?_
  refine r_aload_n (pc := 36) (j := 0) dX7_up_36 rfl rfl ?_
  refine gf7_12 (pc := 37) tw_2_121 hσ1 dX7_up_37 ?_
  refine r_aload_n (pc := 40) (j := 0) dX7_up_40 rfl rfl ?_
  refine gf7_3 (pc := 41) tw_2_112 hσ1 dX7_up_41 ?_
  refine r_aload_n (pc := 44) (j := 0) dX7_up_44 rfl rfl ?_
  refine gf7_5 (pc := 45) tw_2_114 hσ1 dX7_up_45 ?_
  obtain ⟨b3, σ5, eσ5, hr⟩ := bnd_inv hr
  refine kX3_read (pc := 48) eσ5 (wt_sp hσ1).1 (wt_fo hσ1).1 tw_4_135 ⟨nle rfl, nle rfl⟩ (nle rfl) dX7_up_48 fun hσ5 => ?_
  refine r_ifB_eq (pc := 51) (tgt := 82) dX7_up_51 rfl (fun hc => ?_) (fun hc => ?_)
  · replace hr := ite_f hc hr
    refine r_iinc (pc := 82) (j := 3) (v := (v3_ + (1 : Int32))) (ls1 := [(3, .int (v3_ + (1 : Int32))), (0, .ref (ad g 1)), (1, .int v1_), (2, .int v2_)]) dX7_up_82 rfl rfl (nle rfl) rfl ?_
    refine r_goto (pc := 85) (tgt := 19) dX7_up_85 rfl ?_
    exact r_pick (ls1 := [(0, .ref (ad g 1)), (1, .int v1_), (2, .int v2_), (3, .int (v3_ + (1 : Int32)))]) [1, 2, 3, 0] rfl (ih v1_ v2_ (v3_ + (1 : Int32)) σ5 hr hσ5)
  replace hr := ite_t hc hr
  refine r_aload_n (pc := 54) (j := 0) dX7_up_54 rfl rfl ?_
  refine gf7_12 (pc := 55) tw_2_121 hσ5 dX7_up_55 ?_
  refine r_aload_n (pc := 58) (j := 0) dX7_up_58 rfl rfl ?_
  refine gf7_5 (pc := 59) tw_2_114 hσ5 dX7_up_59 ?_
  obtain ⟨v6, hv6, hr⟩ := bnd1_inv hr
  refine kX3_allGains (pc := 62) hv6 (wt_fo hσ5).1 tw_4_157 ⟨nle rfl, nle rfl⟩ (nle rfl) dX7_up_62 ?_
  refine r_istore (pc := 65) (ls1 := [(4, .int v6), (0, .ref (ad g 1)), (1, .int v1_), (2, .int v2_), (3, .int v3_)]) dX7_up_65 (nle rfl) rfl ?_
  refine r_iload_n (pc := 67) (j := 2) dX7_up_67 rfl rfl ?_
  obtain ⟨j77, ej77, hr⟩ := vth_ex hr
  have hj77 : j77 () = some r → RR g mX7_up (FinR g mX7_up (some (.int r.1)) NF r.2) zF 77 [(0, .ref (ad g 1)), (3, .int v3_), (4, .int v6)] [] σ5 := by
    intro  hr
    replace hr := (congrFun ej77 ()).symm.trans hr
    refine r_iload_n (pc := 77) (j := 1) dX7_up_77 rfl rfl ?_
    refine r_istore_n (pc := 78) (ls1 := [(1, .int v3_), (0, .ref (ad g 1)), (3, .int v3_), (4, .int v6)]) dX7_up_78 rfl (nle rfl) rfl ?_
    refine r_iload (pc := 79) (j := 3) dX7_up_79 rfl ?_
    refine r_istore_n (pc := 81) (ls1 := [(2, .int v6), (1, .int v3_), (0, .ref (ad g 1)), (3, .int v3_), (4, .int v6)]) dX7_up_81 rfl (nle rfl) rfl ?_
    refine r_iinc (pc := 82) (j := 3) (v := (v3_ + (1 : Int32))) (ls1 := [(3, .int (v3_ + (1 : Int32))), (2, .int v6), (1, .int v3_), (0, .ref (ad g 1)), (4, .int v6)]) dX7_up_82 rfl rfl (nle rfl) rfl ?_
    refine r_goto (pc := 85) (tgt := 19) dX7_up_85 rfl ?_
    exact r_pick (ls1 := [(0, .ref (ad g 1)), (1, .int v3_), (2, .int v6), (3, .int (v3_ + (1 : Int32)))]) [3, 2, 1, 0] rfl (ih v3_ v6 (v3_ + (1 : Int32)) σ5 hr hσ5)
  refine r_if_lt (pc := 68) (tgt := 77) dX7_up_68 rfl (fun hc => ?_) (fun hc => ?_)
  · replace hr := ite_t hc hr
    exact r_pick (ls1 := [(0, .ref (ad g 1)), (3, .int v3_), (4, .int v6)]) [1, 4, 0] rfl (hj77  hr)
  replace hr := ite_f hc hr
  refine r_iload (pc := 71) (j := 0) dX7_up_71 rfl ?_
  refine r_iload_n (pc := 73) (j := 3) dX7_up_73 rfl rfl ?_
  refine r_icmp_le (pc := 74) (tgt := 82) dX7_up_74 rfl (fun hc => ?_) (fun hc => ?_)
  · replace hr := ite_t hc hr
    refine r_iinc (pc := 82) (j := 4) (v := (v3_ + (1 : Int32))) (ls1 := [(3, .int (v3_ + (1 : Int32))), (4, .int v6), (0, .ref (ad g 1)), (1, .int v1_), (2, .int v2_)]) dX7_up_82 rfl rfl (nle rfl) rfl ?_
    refine r_goto (pc := 85) (tgt := 19) dX7_up_85 rfl ?_
    exact r_pick (ls1 := [(0, .ref (ad g 1)), (1, .int v1_), (2, .int v2_), (3, .int (v3_ + (1 : Int32)))]) [2, 3, 4, 0] rfl (ih v1_ v2_ (v3_ + (1 : Int32)) σ5 hr hσ5)
  replace hr := ite_f hc hr
  exact r_pick (ls1 := [(0, .ref (ad g 1)), (3, .int v3_), (4, .int v6)]) [1, 4, 0] rfl (hj77  hr)

set_option maxRecDepth 20000 in
theorem sX7_up {g : GG} {σ : SS}  {r : Int32 × SS} (hr : fX7_up σ = some r)  : Ct g mX7_up [.ref (ad g 1)] NF σ (some (.int r.1)) NF r.2 := by
  refine Ct.of (by decide +kernel) (nle rfl) fun hw0 => ?_
  have hw := hw0 rfl
  unfold fX7_up at hr
  change RR g mX7_up (FinR g mX7_up (some (.int r.1)) NF r.2) zF 0 [(0, .ref (ad g 1))] [] σ
  refine r_aload_n (pc := 0) (j := 0) dX7_up_0 rfl rfl ?_
  refine gf7_5 (pc := 1) tw_2_114 hw dX7_up_1 ?_
  refine gf1_0 (pc := 4) tw_1_61 (wt_fo hw).1 dX7_up_4 ?_
  refine r_if_ne (pc := 7) (tgt := 12) dX7_up_7 rfl (fun hc => ?_) (fun hc => ?_)
  · replace hr := ite_f hc hr
    refine r_bipush (pc := 12) (v := (-2 : Int32)) dX7_up_12 rfl ?_
    refine r_istore_n (pc := 14) (ls1 := [(1, .int (-2 : Int32)), (0, .ref (ad g 1))]) dX7_up_14 rfl (nle rfl) rfl ?_
    refine r_iconst (pc := 15) (v := (0 : Int32)) dX7_up_15 rfl ?_
    refine r_istore_n (pc := 16) (ls1 := [(2, .int (0 : Int32)), (1, .int (-2 : Int32)), (0, .ref (ad g 1))]) dX7_up_16 rfl (nle rfl) rfl ?_
    refine r_iconst (pc := 17) (v := (0 : Int32)) dX7_up_17 rfl ?_
    refine r_istore_n (pc := 18) (ls1 := [(3, .int (0 : Int32)), (2, .int (0 : Int32)), (1, .int (-2 : Int32)), (0, .ref (ad g 1))]) dX7_up_18 rfl (nle rfl) rfl ?_
    refine r_pick (ls1 := [(0, .ref (ad g 1)), (1, .int (-2 : Int32)), (2, .int (0 : Int32)), (3, .int (0 : Int32))]) [3, 2, 1, 0] rfl ?_
    refine sX7_up_L19     fuel (-2 : Int32) (0 : Int32) (0 : Int32) σ hr hw
  replace hr := ite_t hc hr
  refine r_iconst (pc := 10) (v := (-1 : Int32)) dX7_up_10 rfl ?_
  exact l_osi hr (r_iret (pc := 11) (v := (-1 : Int32)) rfl rfl ⟨Nat.le_refl _, Nat.le_refl _⟩ dX7_up_11)

theorem kX7_up {g : GG} {σ : SS}  {v : Int32} {σ2 : SS} {M : MM} {F : State → Array Value → List Frame → State → Prop} {pc index : Nat} {ls : List (Nat × Value)} {rest : List Value} (hf : fX7_up σ = some (v, σ2))  (hl : Cond.methodLink M.1.cls index yX7_up ∈ lw_gt) (hR : mX7_up.2.2.2.2.frames + 1 ≤ M.2.2.2.2.frames ∧ 8 + (mX7_up.2.2.1 + 11) + mX7_up.2.2.2.2.locals ≤ M.2.2.2.2.locals) (hrest : (rest.map fun v => v.category).sum ≤ 8) (hd : decode M.2.1 pc = .ok (.invokevirtual index, 3)) (k : WT σ2 → RR g M F zF (pc + 3) ls (.int v :: rest) σ2) : RR g M F zF pc ls (.ref (ad g 1) :: rest) σ :=
  r_callV (z := zF) (N := mX7_up) (nn := 0) (o1 := some (.int v)) (sX7_up hf ) (rfl : shp 1 = (7, 0)) (by decide) (shp_le (rfl : shp 1 = (7, 0)) (nle rfl)) (ci := 7) rfl rfl tw_5_3 tw_1_1 hl tw_5_1 tw_5_2 ⟨by decide, by decide, rfl⟩ hR rfl hrest hd ⟨Nat.zero_le _, Nat.zero_le _⟩ rfl (fun h => k (h rfl))

theorem dX8_up_0 : decode cX8_up 0 = .ok (.aload_n 0, 1) := by decide +kernel
theorem dX8_up_1 : decode cX8_up 1 = .ok (.getfield 202, 3) := by decide +kernel
theorem dX8_up_4 : decode cX8_up 4 = .ok (.ifCond .ne 5, 3) := by decide +kernel
theorem dX8_up_7 : decode cX8_up 7 = .ok (.iconst (-1), 1) := by decide +kernel
theorem dX8_up_8 : decode cX8_up 8 = .ok (.ireturn, 1) := by decide +kernel
theorem dX8_up_9 : decode cX8_up 9 = .ok (.bipush (-2), 2) := by decide +kernel
theorem dX8_up_11 : decode cX8_up 11 = .ok (.istore_n 1, 1) := by decide +kernel
theorem dX8_up_12 : decode cX8_up 12 = .ok (.iconst 0, 1) := by decide +kernel
theorem dX8_up_13 : decode cX8_up 13 = .ok (.istore_n 2, 1) := by decide +kernel
theorem dX8_up_14 : decode cX8_up 14 = .ok (.iconst 0, 1) := by decide +kernel
theorem dX8_up_15 : decode cX8_up 15 = .ok (.istore_n 3, 1) := by decide +kernel
theorem dX8_up_16 : decode cX8_up 16 = .ok (.iload_n 3, 1) := by decide +kernel
theorem dX8_up_17 : decode cX8_up 17 = .ok (.iconst 4, 1) := by decide +kernel
theorem dX8_up_18 : decode cX8_up 18 = .ok (.if_icmp .ge 42, 3) := by decide +kernel
theorem dX8_up_21 : decode cX8_up 21 = .ok (.aload_n 0, 1) := by decide +kernel
theorem dX8_up_22 : decode cX8_up 22 = .ok (.invokevirtual 373, 3) := by decide +kernel
theorem dX8_up_25 : decode cX8_up 25 = .ok (.ifCond .eq 25, 3) := by decide +kernel
theorem dX8_up_28 : decode cX8_up 28 = .ok (.aload_n 0, 1) := by decide +kernel
theorem dX8_up_29 : decode cX8_up 29 = .ok (.iconst 0, 1) := by decide +kernel
theorem dX8_up_30 : decode cX8_up 30 = .ok (.invokevirtual 410, 3) := by decide +kernel
theorem dX8_up_33 : decode cX8_up 33 = .ok (.istore 4, 2) := by decide +kernel
theorem dX8_up_35 : decode cX8_up 35 = .ok (.iload_n 1, 1) := by decide +kernel
theorem dX8_up_36 : decode cX8_up 36 = .ok (.ifCond .lt 9, 3) := by decide +kernel
theorem dX8_up_39 : decode cX8_up 39 = .ok (.iload 4, 2) := by decide +kernel
theorem dX8_up_41 : decode cX8_up 41 = .ok (.iload_n 2, 1) := by decide +kernel
theorem dX8_up_42 : decode cX8_up 42 = .ok (.if_icmp .le 8, 3) := by decide +kernel
theorem dX8_up_45 : decode cX8_up 45 = .ok (.iload_n 3, 1) := by decide +kernel
theorem dX8_up_46 : decode cX8_up 46 = .ok (.istore_n 1, 1) := by decide +kernel
theorem dX8_up_47 : decode cX8_up 47 = .ok (.iload 4, 2) := by decide +kernel
theorem dX8_up_49 : decode cX8_up 49 = .ok (.istore_n 2, 1) := by decide +kernel
theorem dX8_up_50 : decode cX8_up 50 = .ok (.aload_n 0, 1) := by decide +kernel
theorem dX8_up_51 : decode cX8_up 51 = .ok (.invokevirtual 292, 3) := by decide +kernel
theorem dX8_up_54 : decode cX8_up 54 = .ok (.iinc 3 1, 3) := by decide +kernel
theorem dX8_up_57 : decode cX8_up 57 = .ok (.goto (-41), 3) := by decide +kernel
theorem dX8_up_60 : decode cX8_up 60 = .ok (.iload_n 1, 1) := by decide +kernel
theorem dX8_up_61 : decode cX8_up 61 = .ok (.ireturn, 1) := by decide +kernel
def mX8_up : MM := (yX8_up, cX8_up, 5, Option.some Jvm.ClassFile.FieldType.int, { frames := 7, cells := 0, slots := 0, locals := 158 })
def X8_up_L16   : Nat → Int32 → Int32 → Int32 → SS → Option (Int32 × SS) :=
  lp (fun _ _ _ _ => none) fun rec v1_ v2_ v3_ σ_ =>
    if (4 : Int32) ≤ v3_ then (
      some (v1_, σ_)
      ) else (
      bnd (fX8_finds σ_) fun b2 σ4 =>
      vthen (fun (v5 : Int32) (v6 : Int32) (σ7 : SS) =>
        bnd1 (fX8_turns σ7) fun σ8 =>
        rec v5 v6 (v3_ + (1 : Int32)) σ8
        ) fun j50 =>
      if b2 = true then (
        bnd (fX8_sum σ4 (0 : Int32)) fun v9 σ12 =>
        if v1_ < 0 then (
          j50 v3_ v9 σ12
          ) else (
          if v9 ≤ v2_ then (
            j50 v1_ v2_ σ12
            ) else (
            j50 v3_ v9 σ12
            )
          )
        ) else (
        j50 v1_ v2_ σ4
        )
      )

def fX8_up (σ : SS)  : Option (Int32 × SS) :=
  if (gI σ 73 12) = 0 then (
    some ((-1 : Int32), σ)
    ) else (
    X8_up_L16
    fuel (-2 : Int32) (0 : Int32) (0 : Int32) σ
    )

set_option maxRecDepth 20000 in
theorem sX8_up_L16 {g : GG} {r : Int32 × SS}   
    (n : Nat) : ∀ (v1_ : Int32) (v2_ : Int32) (v3_ : Int32) (σ_ : SS), X8_up_L16 n v1_ v2_ v3_ σ_ = some r → WT σ_ → RR g mX8_up (FinR g mX8_up (some (.int r.1)) NF r.2) zF 16 [(0, .ref (ad g 73)), (1, .int v1_), (2, .int v2_), (3, .int v3_)] [] σ_ := by
  unfold X8_up_L16
  refine lp_ind (P := fun (rec : Int32 → Int32 → Int32 → SS → Option (Int32 × SS)) => ∀ (v1_ : Int32) (v2_ : Int32) (v3_ : Int32) (σ_ : SS), rec v1_ v2_ v3_ σ_ = some r → WT σ_ → RR g mX8_up (FinR g mX8_up (some (.int r.1)) NF r.2) zF 16 [(0, .ref (ad g 73)), (1, .int v1_), (2, .int v2_), (3, .int v3_)] [] σ_) ?_ ?_ n
  · intro v1_ v2_ v3_ σ_ hr; cases hr
  intro rec ih v1_ v2_ v3_ σ_ hr hw_
  refine r_iload_n (pc := 16) (j := 3) dX8_up_16 rfl rfl ?_
  refine r_iconst (pc := 17) (v := (4 : Int32)) dX8_up_17 rfl ?_
  refine r_icmp_ge (pc := 18) (tgt := 60) dX8_up_18 rfl (fun hc => ?_) (fun hc => ?_)
  · replace hr := ite_t hc hr
    refine r_iload_n (pc := 60) (j := 1) dX8_up_60 rfl rfl ?_
    exact l_osi hr (r_iret (pc := 61) (v := v1_) rfl rfl ⟨Nat.le_refl _, Nat.le_refl _⟩ dX8_up_61)
  replace hr := ite_f hc hr
  refine r_aload_n (pc := 21) (j := 0) dX8_up_21 rfl rfl ?_
  obtain ⟨b2, σ4, eσ4, hr⟩ := bnd_inv hr
  refine kX8_finds (pc := 22) eσ4 tw_7_94 ⟨nle rfl, nle rfl⟩ (nle rfl) dX8_up_22 fun hσ4 => ?_
  obtain ⟨j50, ej50, hr⟩ := vth_ex hr
  have hj50 : ∀ (v5 : Int32) (v6 : Int32) (σ7 : SS), j50 v5 v6 σ7 = some r → WT σ7 → RR g mX8_up (FinR g mX8_up (some (.int r.1)) NF r.2) zF 50 [(0, .ref (ad g 73)), (1, .int v5), (2, .int v6), (3, .int v3_)] [] σ7 := by
    intro v5 v6 σ7 hr hσ7
    replace hr := (congrFun (congrFun (congrFun ej50 v5) v6) σ7).symm.trans hr
    refine r_aload_n (pc := 50) (j := 0) dX8_up_50 rfl rfl ?_
    obtain ⟨σ8, eσ8, hr⟩ := bnd1_inv hr
    refine kX8_turns (pc := 51) eσ8 tw_6_199 ⟨nle rfl, nle rfl⟩ (nle rfl) dX8_up_51 fun hσ8 => ?_
    refine r_iinc (pc := 54) (j := 3) (v := (v3_ + (1 : Int32))) (ls1 := [(3, .int (v3_ + (1 : Int32))), (0, .ref (ad g 73)), (1, .int v5), (2, .int v6)]) dX8_up_54 rfl rfl (nle rfl) rfl ?_
    refine r_goto (pc := 57) (tgt := 16) dX8_up_57 rfl ?_
    exact r_pick (ls1 := [(0, .ref (ad g 73)), (1, .int v5), (2, .int v6), (3, .int (v3_ + (1 : Int32)))]) [1, 2, 3, 0] rfl (ih v5 v6 (v3_ + (1 : Int32)) σ8 hr hσ8)
  refine r_ifB_eq (pc := 25) (tgt := 50) dX8_up_25 rfl (fun hc => ?_) (fun hc => ?_)
  · replace hr := ite_f hc hr
    exact r_pick (ls1 := [(0, .ref (ad g 73)), (1, .int v1_), (2, .int v2_), (3, .int v3_)]) [0, 1, 2, 3] rfl (hj50 v1_ v2_ σ4 hr hσ4)
  replace hr := ite_t hc hr
  refine r_aload_n (pc := 28) (j := 0) dX8_up_28 rfl rfl ?_
  refine r_iconst (pc := 29) (v := (0 : Int32)) dX8_up_29 rfl ?_
  obtain ⟨v9, σ12, eσ12, hr⟩ := bnd_inv hr
  refine kX8_sum (pc := 30) eσ12 tw_7_135 ⟨nle rfl, nle rfl⟩ (nle rfl) dX8_up_30 fun hσ12 => ?_
  refine r_istore (pc := 33) (ls1 := [(4, .int v9), (0, .ref (ad g 73)), (1, .int v1_), (2, .int v2_), (3, .int v3_)]) dX8_up_33 (nle rfl) rfl ?_
  refine r_iload_n (pc := 35) (j := 2) dX8_up_35 rfl rfl ?_
  refine r_if_lt (pc := 36) (tgt := 45) dX8_up_36 rfl (fun hc => ?_) (fun hc => ?_)
  · replace hr := ite_t hc hr
    refine r_iload_n (pc := 45) (j := 4) dX8_up_45 rfl rfl ?_
    refine r_istore_n (pc := 46) (ls1 := [(1, .int v3_), (4, .int v9), (0, .ref (ad g 73)), (2, .int v2_), (3, .int v3_)]) dX8_up_46 rfl (nle rfl) rfl ?_
    refine r_iload (pc := 47) (j := 1) dX8_up_47 rfl ?_
    refine r_istore_n (pc := 49) (ls1 := [(2, .int v9), (1, .int v3_), (4, .int v9), (0, .ref (ad g 73)), (3, .int v3_)]) dX8_up_49 rfl (nle rfl) rfl ?_
    exact r_pick (ls1 := [(0, .ref (ad g 73)), (1, .int v3_), (2, .int v9), (3, .int v3_)]) [3, 1, 0, 4] rfl (hj50 v3_ v9 σ12 hr hσ12)
  replace hr := ite_f hc hr
  refine r_iload (pc := 39) (j := 0) dX8_up_39 rfl ?_
  refine r_iload_n (pc := 41) (j := 3) dX8_up_41 rfl rfl ?_
  refine r_icmp_le (pc := 42) (tgt := 50) dX8_up_42 rfl (fun hc => ?_) (fun hc => ?_)
  · replace hr := ite_t hc hr
    exact r_pick (ls1 := [(0, .ref (ad g 73)), (1, .int v1_), (2, .int v2_), (3, .int v3_)]) [1, 2, 3, 4] rfl (hj50 v1_ v2_ σ12 hr hσ12)
  replace hr := ite_f hc hr
  refine r_iload_n (pc := 45) (j := 4) dX8_up_45 rfl rfl ?_
  refine r_istore_n (pc := 46) (ls1 := [(1, .int v3_), (4, .int v9), (0, .ref (ad g 73)), (2, .int v2_), (3, .int v3_)]) dX8_up_46 rfl (nle rfl) rfl ?_
  refine r_iload (pc := 47) (j := 1) dX8_up_47 rfl ?_
  refine r_istore_n (pc := 49) (ls1 := [(2, .int v9), (1, .int v3_), (4, .int v9), (0, .ref (ad g 73)), (3, .int v3_)]) dX8_up_49 rfl (nle rfl) rfl ?_
  exact r_pick (ls1 := [(0, .ref (ad g 73)), (1, .int v3_), (2, .int v9), (3, .int v3_)]) [3, 1, 0, 4] rfl (hj50 v3_ v9 σ12 hr hσ12)

set_option maxRecDepth 20000 in
theorem sX8_up {g : GG} {σ : SS}  {r : Int32 × SS} (hr : fX8_up σ = some r)  : Ct g mX8_up [.ref (ad g 73)] NF σ (some (.int r.1)) NF r.2 := by
  refine Ct.of (by decide +kernel) (nle rfl) fun hw0 => ?_
  have hw := hw0 rfl
  unfold fX8_up at hr
  change RR g mX8_up (FinR g mX8_up (some (.int r.1)) NF r.2) zF 0 [(0, .ref (ad g 73))] [] σ
  refine r_aload_n (pc := 0) (j := 0) dX8_up_0 rfl rfl ?_
  refine gf8_12 (pc := 1) tw_5_106 rfl dX8_up_1 ?_
  refine r_if_ne (pc := 4) (tgt := 9) dX8_up_4 rfl (fun hc => ?_) (fun hc => ?_)
  · replace hr := ite_f hc hr
    refine r_bipush (pc := 9) (v := (-2 : Int32)) dX8_up_9 rfl ?_
    refine r_istore_n (pc := 11) (ls1 := [(1, .int (-2 : Int32)), (0, .ref (ad g 73))]) dX8_up_11 rfl (nle rfl) rfl ?_
    refine r_iconst (pc := 12) (v := (0 : Int32)) dX8_up_12 rfl ?_
    refine r_istore_n (pc := 13) (ls1 := [(2, .int (0 : Int32)), (1, .int (-2 : Int32)), (0, .ref (ad g 73))]) dX8_up_13 rfl (nle rfl) rfl ?_
    refine r_iconst (pc := 14) (v := (0 : Int32)) dX8_up_14 rfl ?_
    refine r_istore_n (pc := 15) (ls1 := [(3, .int (0 : Int32)), (2, .int (0 : Int32)), (1, .int (-2 : Int32)), (0, .ref (ad g 73))]) dX8_up_15 rfl (nle rfl) rfl ?_
    refine r_pick (ls1 := [(0, .ref (ad g 73)), (1, .int (-2 : Int32)), (2, .int (0 : Int32)), (3, .int (0 : Int32))]) [3, 2, 1, 0] rfl ?_
    refine sX8_up_L16     fuel (-2 : Int32) (0 : Int32) (0 : Int32) σ hr hw
  replace hr := ite_t hc hr
  refine r_iconst (pc := 7) (v := (-1 : Int32)) dX8_up_7 rfl ?_
  exact l_osi hr (r_iret (pc := 8) (v := (-1 : Int32)) rfl rfl ⟨Nat.le_refl _, Nat.le_refl _⟩ dX8_up_8)

theorem kX8_up {g : GG} {σ : SS}  {v : Int32} {σ2 : SS} {M : MM} {F : State → Array Value → List Frame → State → Prop} {pc index : Nat} {ls : List (Nat × Value)} {rest : List Value} (hf : fX8_up σ = some (v, σ2))  (hl : Cond.methodLink M.1.cls index yX8_up ∈ lw_gt) (hR : mX8_up.2.2.2.2.frames + 1 ≤ M.2.2.2.2.frames ∧ 8 + (mX8_up.2.2.1 + 11) + mX8_up.2.2.2.2.locals ≤ M.2.2.2.2.locals) (hrest : (rest.map fun v => v.category).sum ≤ 8) (hd : decode M.2.1 pc = .ok (.invokevirtual index, 3)) (k : WT σ2 → RR g M F zF (pc + 3) ls (.int v :: rest) σ2) : RR g M F zF pc ls (.ref (ad g 73) :: rest) σ :=
  r_callV (z := zF) (N := mX8_up) (nn := 0) (o1 := some (.int v)) (sX8_up hf ) (rfl : shp 73 = (8, 0)) (by decide) (shp_le (rfl : shp 73 = (8, 0)) (nle rfl)) (ci := 8) rfl rfl tw_7_178 tw_1_10 hl tw_7_176 tw_7_177 ⟨by decide, by decide, rfl⟩ hR rfl hrest hd ⟨Nat.zero_le _, Nat.zero_le _⟩ rfl (fun h => k (h rfl))

theorem dX4_add_0 : decode cX4_add 0 = .ok (.aload_n 0, 1) := by decide +kernel
theorem dX4_add_1 : decode cX4_add 1 = .ok (.getfield 27, 3) := by decide +kernel
theorem dX4_add_4 : decode cX4_add 4 = .ok (.istore_n 3, 1) := by decide +kernel
theorem dX4_add_5 : decode cX4_add 5 = .ok (.aload_n 0, 1) := by decide +kernel
theorem dX4_add_6 : decode cX4_add 6 = .ok (.dup, 1) := by decide +kernel
theorem dX4_add_7 : decode cX4_add 7 = .ok (.getfield 27, 3) := by decide +kernel
theorem dX4_add_10 : decode cX4_add 10 = .ok (.iconst 1, 1) := by decide +kernel
theorem dX4_add_11 : decode cX4_add 11 = .ok (.iadd, 1) := by decide +kernel
theorem dX4_add_12 : decode cX4_add 12 = .ok (.putfield 27, 3) := by decide +kernel
theorem dX4_add_15 : decode cX4_add 15 = .ok (.aload_n 0, 1) := by decide +kernel
theorem dX4_add_16 : decode cX4_add 16 = .ok (.getfield 9, 3) := by decide +kernel
theorem dX4_add_19 : decode cX4_add 19 = .ok (.iload_n 3, 1) := by decide +kernel
theorem dX4_add_20 : decode cX4_add 20 = .ok (.aload_n 1, 1) := by decide +kernel
theorem dX4_add_21 : decode cX4_add 21 = .ok (.aload_n 2, 1) := by decide +kernel
theorem dX4_add_22 : decode cX4_add 22 = .ok (.invokevirtual 31, 3) := by decide +kernel
theorem dX4_add_25 : decode cX4_add 25 = .ok (.iastore, 1) := by decide +kernel
theorem dX4_add_26 : decode cX4_add 26 = .ok (.aload_n 0, 1) := by decide +kernel
theorem dX4_add_27 : decode cX4_add 27 = .ok (.getfield 15, 3) := by decide +kernel
theorem dX4_add_30 : decode cX4_add 30 = .ok (.iload_n 3, 1) := by decide +kernel
theorem dX4_add_31 : decode cX4_add 31 = .ok (.iconst 0, 1) := by decide +kernel
theorem dX4_add_32 : decode cX4_add 32 = .ok (.iastore, 1) := by decide +kernel
theorem dX4_add_33 : decode cX4_add 33 = .ok (.aload_n 0, 1) := by decide +kernel
theorem dX4_add_34 : decode cX4_add 34 = .ok (.getfield 18, 3) := by decide +kernel
theorem dX4_add_37 : decode cX4_add 37 = .ok (.iload_n 3, 1) := by decide +kernel
theorem dX4_add_38 : decode cX4_add 38 = .ok (.iconst 0, 1) := by decide +kernel
theorem dX4_add_39 : decode cX4_add 39 = .ok (.iastore, 1) := by decide +kernel
theorem dX4_add_40 : decode cX4_add 40 = .ok (.iconst 0, 1) := by decide +kernel
theorem dX4_add_41 : decode cX4_add 41 = .ok (.istore 4, 2) := by decide +kernel
theorem dX4_add_43 : decode cX4_add 43 = .ok (.iload 4, 2) := by decide +kernel
theorem dX4_add_45 : decode cX4_add 45 = .ok (.aload_n 2, 1) := by decide +kernel
theorem dX4_add_46 : decode cX4_add 46 = .ok (.getfield 37, 3) := by decide +kernel
theorem dX4_add_49 : decode cX4_add 49 = .ok (.if_icmp .ge 79, 3) := by decide +kernel
theorem dX4_add_52 : decode cX4_add 52 = .ok (.aload_n 0, 1) := by decide +kernel
theorem dX4_add_53 : decode cX4_add 53 = .ok (.getfield 21, 3) := by decide +kernel
theorem dX4_add_56 : decode cX4_add 56 = .ok (.iload_n 3, 1) := by decide +kernel
theorem dX4_add_57 : decode cX4_add 57 = .ok (.bipush 12, 2) := by decide +kernel
theorem dX4_add_59 : decode cX4_add 59 = .ok (.imul, 1) := by decide +kernel
theorem dX4_add_60 : decode cX4_add 60 = .ok (.iload 4, 2) := by decide +kernel
theorem dX4_add_62 : decode cX4_add 62 = .ok (.iadd, 1) := by decide +kernel
theorem dX4_add_63 : decode cX4_add 63 = .ok (.aload_n 1, 1) := by decide +kernel
theorem dX4_add_64 : decode cX4_add 64 = .ok (.getfield 42, 3) := by decide +kernel
theorem dX4_add_67 : decode cX4_add 67 = .ok (.iload 4, 2) := by decide +kernel
theorem dX4_add_69 : decode cX4_add 69 = .ok (.iaload, 1) := by decide +kernel
theorem dX4_add_70 : decode cX4_add 70 = .ok (.iastore, 1) := by decide +kernel
theorem dX4_add_71 : decode cX4_add 71 = .ok (.aload_n 1, 1) := by decide +kernel
theorem dX4_add_72 : decode cX4_add 72 = .ok (.getfield 43, 3) := by decide +kernel
theorem dX4_add_75 : decode cX4_add 75 = .ok (.iload 4, 2) := by decide +kernel
theorem dX4_add_77 : decode cX4_add 77 = .ok (.iaload, 1) := by decide +kernel
theorem dX4_add_78 : decode cX4_add 78 = .ok (.iconst 1, 1) := by decide +kernel
theorem dX4_add_79 : decode cX4_add 79 = .ok (.if_icmp .ne 19, 3) := by decide +kernel
theorem dX4_add_82 : decode cX4_add 82 = .ok (.aload_n 0, 1) := by decide +kernel
theorem dX4_add_83 : decode cX4_add 83 = .ok (.getfield 15, 3) := by decide +kernel
theorem dX4_add_86 : decode cX4_add 86 = .ok (.iload_n 3, 1) := by decide +kernel
theorem dX4_add_87 : decode cX4_add 87 = .ok (.dup2, 1) := by decide +kernel
theorem dX4_add_88 : decode cX4_add 88 = .ok (.iaload, 1) := by decide +kernel
theorem dX4_add_89 : decode cX4_add 89 = .ok (.iconst 1, 1) := by decide +kernel
theorem dX4_add_90 : decode cX4_add 90 = .ok (.iload 4, 2) := by decide +kernel
theorem dX4_add_92 : decode cX4_add 92 = .ok (.ishl, 1) := by decide +kernel
theorem dX4_add_93 : decode cX4_add 93 = .ok (.ior, 1) := by decide +kernel
theorem dX4_add_94 : decode cX4_add 94 = .ok (.iastore, 1) := by decide +kernel
theorem dX4_add_95 : decode cX4_add 95 = .ok (.goto 27, 3) := by decide +kernel
theorem dX4_add_98 : decode cX4_add 98 = .ok (.aload_n 1, 1) := by decide +kernel
theorem dX4_add_99 : decode cX4_add 99 = .ok (.getfield 43, 3) := by decide +kernel
theorem dX4_add_102 : decode cX4_add 102 = .ok (.iload 4, 2) := by decide +kernel
theorem dX4_add_104 : decode cX4_add 104 = .ok (.iaload, 1) := by decide +kernel
theorem dX4_add_105 : decode cX4_add 105 = .ok (.iconst 2, 1) := by decide +kernel
theorem dX4_add_106 : decode cX4_add 106 = .ok (.if_icmp .ne 16, 3) := by decide +kernel
theorem dX4_add_109 : decode cX4_add 109 = .ok (.aload_n 0, 1) := by decide +kernel
theorem dX4_add_110 : decode cX4_add 110 = .ok (.getfield 18, 3) := by decide +kernel
theorem dX4_add_113 : decode cX4_add 113 = .ok (.iload_n 3, 1) := by decide +kernel
theorem dX4_add_114 : decode cX4_add 114 = .ok (.dup2, 1) := by decide +kernel
theorem dX4_add_115 : decode cX4_add 115 = .ok (.iaload, 1) := by decide +kernel
theorem dX4_add_116 : decode cX4_add 116 = .ok (.iconst 1, 1) := by decide +kernel
theorem dX4_add_117 : decode cX4_add 117 = .ok (.iload 4, 2) := by decide +kernel
theorem dX4_add_119 : decode cX4_add 119 = .ok (.ishl, 1) := by decide +kernel
theorem dX4_add_120 : decode cX4_add 120 = .ok (.ior, 1) := by decide +kernel
theorem dX4_add_121 : decode cX4_add 121 = .ok (.iastore, 1) := by decide +kernel
theorem dX4_add_122 : decode cX4_add 122 = .ok (.iinc 4 1, 3) := by decide +kernel
theorem dX4_add_125 : decode cX4_add 125 = .ok (.goto (-82), 3) := by decide +kernel
theorem dX4_add_128 : decode cX4_add 128 = .ok (.iload_n 3, 1) := by decide +kernel
theorem dX4_add_129 : decode cX4_add 129 = .ok (.ireturn, 1) := by decide +kernel
def mX4_add : MM := (yX4_add, cX4_add, 5, Option.some Jvm.ClassFile.FieldType.int, { frames := 1, cells := 0, slots := 0, locals := 23 })
def X4_add_L43 (o2_ : Nat) (u3_ : Int32)  : Nat → Int32 → SS → Option (Int32 × SS) :=
  lp (fun _ _ => none) fun rec v4_ σ_ =>
    if (gI σ_ o2_ 5) ≤ v4_ then (
      some (u3_, σ_)
      ) else (
      grd (inb v4_ 12) <|
      grd (inb ((u3_ * (12 : Int32)) + v4_) 192) <|
      vthen (sI σ_ 62 (Int32.toNatClampNeg ((u3_ * (12 : Int32)) + v4_)) (gI σ_ 53 (Int32.toNatClampNeg v4_))) fun σ12 =>
      if (gI σ12 54 (Int32.toNatClampNeg v4_)) = (1 : Int32) then (
        grd (inb u3_ 16) <|
        vthen (sI σ12 60 (Int32.toNatClampNeg u3_) ((gI σ12 60 (Int32.toNatClampNeg u3_)) ||| ((1 : Int32) <<< (v4_ &&& 31)))) fun σ16 =>
        rec (v4_ + (1 : Int32)) σ16
        ) else (
        if (gI σ12 54 (Int32.toNatClampNeg v4_)) = (2 : Int32) then (
          grd (inb u3_ 16) <|
          vthen (sI σ12 61 (Int32.toNatClampNeg u3_) ((gI σ12 61 (Int32.toNatClampNeg u3_)) ||| ((1 : Int32) <<< (v4_ &&& 31)))) fun σ14 =>
          rec (v4_ + (1 : Int32)) σ14
          ) else (
          rec (v4_ + (1 : Int32)) σ12
          )
        )
      )

def fX4_add (σ : SS) (a2 : Nat) : Option (Int32 × SS) :=
  vthen (gI σ 58 0) fun v1 =>
  vthen (sI σ 58 0 ((gI σ 58 0) + (1 : Int32))) fun σ2 =>
  bnd1 (fX3_allGains σ2 a2) fun v3 =>
  grd (inb v1 16) <|
  vthen (sI σ2 59 (Int32.toNatClampNeg v1) v3) fun σ7 =>
  vthen (sI σ7 60 (Int32.toNatClampNeg v1) (0 : Int32)) fun σ8 =>
  vthen (sI σ8 61 (Int32.toNatClampNeg v1) (0 : Int32)) fun σ9 =>
  X4_add_L43 a2 v1
  fuel (0 : Int32) σ9

set_option maxRecDepth 20000 in
theorem sX4_add_L43 {g : GG} {r : Int32 × SS} {o2_ : Nat} {u3_ : Int32}  (hs2_ : shp o2_ = (1, 0))
    (n : Nat) : ∀ (v4_ : Int32) (σ_ : SS), X4_add_L43 o2_ u3_ n v4_ σ_ = some r → WT σ_ → RR g mX4_add (FinR g mX4_add (some (.int r.1)) NF r.2) zF 43 [(0, .ref (ad g 58)), (1, .ref (ad g 31)), (2, .ref (ad g o2_)), (3, .int u3_), (4, .int v4_)] [] σ_ := by
  unfold X4_add_L43
  refine lp_ind (P := fun (rec : Int32 → SS → Option (Int32 × SS)) => ∀ (v4_ : Int32) (σ_ : SS), rec v4_ σ_ = some r → WT σ_ → RR g mX4_add (FinR g mX4_add (some (.int r.1)) NF r.2) zF 43 [(0, .ref (ad g 58)), (1, .ref (ad g 31)), (2, .ref (ad g o2_)), (3, .int u3_), (4, .int v4_)] [] σ_) ?_ ?_ n
  · intro v4_ σ_ hr; cases hr
  intro rec ih v4_ σ_ hr hw_
  refine r_iload (pc := 43) (j := 4) dX4_add_43 rfl ?_
  refine r_aload_n (pc := 45) (j := 2) dX4_add_45 rfl rfl ?_
  refine gf1_5 (pc := 46) tw_1_80 hs2_ dX4_add_46 ?_
  refine r_icmp_ge (pc := 49) (tgt := 128) dX4_add_49 rfl (fun hc => ?_) (fun hc => ?_)
  · replace hr := ite_t hc hr
    refine r_iload_n (pc := 128) (j := 3) dX4_add_128 rfl rfl ?_
    exact l_osi hr (r_iret (pc := 129) (v := u3_) rfl rfl ⟨Nat.le_refl _, Nat.le_refl _⟩ dX4_add_129)
  replace hr := ite_f hc hr
  refine r_aload_n (pc := 52) (j := 0) dX4_add_52 rfl rfl ?_
  refine gf4_4 (pc := 53) tw_2_86 hw_ dX4_add_53 ?_
  refine r_iload_n (pc := 56) (j := 3) dX4_add_56 rfl rfl ?_
  refine r_bipush (pc := 57) (v := (12 : Int32)) dX4_add_57 rfl ?_
  refine r_imul (pc := 59) dX4_add_59 ?_
  refine r_iload (pc := 60) (j := 4) dX4_add_60 rfl ?_
  refine r_iadd (pc := 62) dX4_add_62 ?_
  refine r_aload_n (pc := 63) (j := 1) dX4_add_63 rfl rfl ?_
  refine gf3_7 (pc := 64) tw_2_36 hw_ dX4_add_64 ?_
  refine r_iload (pc := 67) (j := 4) dX4_add_67 rfl ?_
  obtain ⟨h10, hr⟩ := grd_inv hr
  refine x_iald (pc := 69) (k := (Int32.toNatClampNeg v4_)) rfl h10 rfl dX4_add_69 ?_
  obtain ⟨h11, hr⟩ := grd_inv hr
  refine x_iast (pc := 70) (j := (Int32.toNatClampNeg ((u3_ * (12 : Int32)) + v4_))) rfl h11 rfl dX4_add_70 fun σ12 eσ12 => ?_
  replace hr := vthen_inv hr σ12 eσ12
  have hσ12 := wtI eσ12 hw_
  refine r_aload_n (pc := 71) (j := 1) dX4_add_71 rfl rfl ?_
  refine gf3_8 (pc := 72) tw_2_39 hσ12 dX4_add_72 ?_
  refine r_iload (pc := 75) (j := 4) dX4_add_75 rfl ?_
  refine x_iald (pc := 77) (k := (Int32.toNatClampNeg v4_)) rfl h10 rfl dX4_add_77 ?_
  refine r_iconst (pc := 78) (v := (1 : Int32)) dX4_add_78 rfl ?_
  refine r_icmp_ne (pc := 79) (tgt := 98) dX4_add_79 rfl (fun hc => ?_) (fun hc => ?_)
  · replace hr := ite_f hc hr
    refine r_aload_n (pc := 98) (j := 1) dX4_add_98 rfl rfl ?_
    refine gf3_8 (pc := 99) tw_2_39 hσ12 dX4_add_99 ?_
    refine r_iload (pc := 102) (j := 4) dX4_add_102 rfl ?_
    refine x_iald (pc := 104) (k := (Int32.toNatClampNeg v4_)) rfl h10 rfl dX4_add_104 ?_
    refine r_iconst (pc := 105) (v := (2 : Int32)) dX4_add_105 rfl ?_
    refine r_icmp_ne (pc := 106) (tgt := 122) dX4_add_106 rfl (fun hc => ?_) (fun hc => ?_)
    · replace hr := ite_f hc hr
      refine r_iinc (pc := 122) (j := 4) (v := (v4_ + (1 : Int32))) (ls1 := [(4, .int (v4_ + (1 : Int32))), (0, .ref (ad g 58)), (1, .ref (ad g 31)), (2, .ref (ad g o2_)), (3, .int u3_)]) dX4_add_122 rfl rfl (nle rfl) rfl ?_
      refine r_goto (pc := 125) (tgt := 43) dX4_add_125 rfl ?_
      exact r_pick (ls1 := [(0, .ref (ad g 58)), (1, .ref (ad g 31)), (2, .ref (ad g o2_)), (3, .int u3_), (4, .int (v4_ + (1 : Int32)))]) [1, 2, 3, 4, 0] rfl (ih (v4_ + (1 : Int32)) σ12 hr hσ12)
    replace hr := ite_t hc hr
    refine r_aload_n (pc := 109) (j := 0) dX4_add_109 rfl rfl ?_
    refine gf4_3 (pc := 110) tw_2_84 hσ12 dX4_add_110 ?_
    refine r_iload_n (pc := 113) (j := 3) dX4_add_113 rfl rfl ?_
    refine r_dup2 (pc := 114) dX4_add_114 rfl rfl ?_
    obtain ⟨h13, hr⟩ := grd_inv hr
    refine x_iald (pc := 115) (k := (Int32.toNatClampNeg u3_)) rfl h13 rfl dX4_add_115 ?_
    refine r_iconst (pc := 116) (v := (1 : Int32)) dX4_add_116 rfl ?_
    refine r_iload (pc := 117) (j := 4) dX4_add_117 rfl ?_
    refine r_ishl (pc := 119) dX4_add_119 ?_
    refine r_ior (pc := 120) dX4_add_120 ?_
    refine x_iast (pc := 121) (j := (Int32.toNatClampNeg u3_)) rfl h13 rfl dX4_add_121 fun σ14 eσ14 => ?_
    replace hr := vthen_inv hr σ14 eσ14
    have hσ14 := wtI eσ14 hσ12
    refine r_iinc (pc := 122) (j := 4) (v := (v4_ + (1 : Int32))) (ls1 := [(4, .int (v4_ + (1 : Int32))), (0, .ref (ad g 58)), (1, .ref (ad g 31)), (2, .ref (ad g o2_)), (3, .int u3_)]) dX4_add_122 rfl rfl (nle rfl) rfl ?_
    refine r_goto (pc := 125) (tgt := 43) dX4_add_125 rfl ?_
    exact r_pick (ls1 := [(0, .ref (ad g 58)), (1, .ref (ad g 31)), (2, .ref (ad g o2_)), (3, .int u3_), (4, .int (v4_ + (1 : Int32)))]) [1, 2, 3, 4, 0] rfl (ih (v4_ + (1 : Int32)) σ14 hr hσ14)
  replace hr := ite_t hc hr
  refine r_aload_n (pc := 82) (j := 0) dX4_add_82 rfl rfl ?_
  refine gf4_2 (pc := 83) tw_2_82 hσ12 dX4_add_83 ?_
  refine r_iload_n (pc := 86) (j := 3) dX4_add_86 rfl rfl ?_
  refine r_dup2 (pc := 87) dX4_add_87 rfl rfl ?_
  obtain ⟨h15, hr⟩ := grd_inv hr
  refine x_iald (pc := 88) (k := (Int32.toNatClampNeg u3_)) rfl h15 rfl dX4_add_88 ?_
  refine r_iconst (pc := 89) (v := (1 : Int32)) dX4_add_89 rfl ?_
  refine r_iload (pc := 90) (j := 4) dX4_add_90 rfl ?_
  refine r_ishl (pc := 92) dX4_add_92 ?_
  refine r_ior (pc := 93) dX4_add_93 ?_
  refine x_iast (pc := 94) (j := (Int32.toNatClampNeg u3_)) rfl h15 rfl dX4_add_94 fun σ16 eσ16 => ?_
  replace hr := vthen_inv hr σ16 eσ16
  have hσ16 := wtI eσ16 hσ12
  refine r_goto (pc := 95) (tgt := 122) dX4_add_95 rfl ?_
  refine r_iinc (pc := 122) (j := 4) (v := (v4_ + (1 : Int32))) (ls1 := [(4, .int (v4_ + (1 : Int32))), (0, .ref (ad g 58)), (1, .ref (ad g 31)), (2, .ref (ad g o2_)), (3, .int u3_)]) dX4_add_122 rfl rfl (nle rfl) rfl ?_
  refine r_goto (pc := 125) (tgt := 43) dX4_add_125 rfl ?_
  exact r_pick (ls1 := [(0, .ref (ad g 58)), (1, .ref (ad g 31)), (2, .ref (ad g o2_)), (3, .int u3_), (4, .int (v4_ + (1 : Int32)))]) [1, 2, 3, 4, 0] rfl (ih (v4_ + (1 : Int32)) σ16 hr hσ16)

set_option maxRecDepth 20000 in
theorem sX4_add {g : GG} {σ : SS} {a2 : Nat} {r : Int32 × SS} (hr : fX4_add σ a2 = some r) (hs2 : shp a2 = (1, 0)) : Ct g mX4_add [.ref (ad g 58), .ref (ad g 31), .ref (ad g a2)] NF σ (some (.int r.1)) NF r.2 := by
  refine Ct.of (by decide +kernel) (nle rfl) fun hw0 => ?_
  have hw := hw0 rfl
  unfold fX4_add at hr
  change RR g mX4_add (FinR g mX4_add (some (.int r.1)) NF r.2) zF 0 [(0, .ref (ad g 58)), (1, .ref (ad g 31)), (2, .ref (ad g a2))] [] σ
  refine r_aload_n (pc := 0) (j := 0) dX4_add_0 rfl rfl ?_
  refine gf4_0 (pc := 1) tw_2_78 rfl dX4_add_1 ?_
  refine r_topi fun v1 ev1 => ?_
  replace hr := vthen_inv hr v1 ev1
  refine r_istore_n (pc := 4) (ls1 := [(3, .int v1), (0, .ref (ad g 58)), (1, .ref (ad g 31)), (2, .ref (ad g a2))]) dX4_add_4 rfl (nle rfl) rfl ?_
  refine r_aload_n (pc := 5) (j := 1) dX4_add_5 rfl rfl ?_
  refine r_dup (pc := 6) dX4_add_6 rfl ?_
  refine gf4_0 (pc := 7) tw_2_78 rfl dX4_add_7 ?_
  refine r_iconst (pc := 10) (v := (1 : Int32)) dX4_add_10 rfl ?_
  refine r_iadd (pc := 11) dX4_add_11 ?_
  refine pf4_0 (pc := 12) tw_2_78 rfl dX4_add_12 fun σ2 eσ2 => ?_
  replace hr := vthen_inv hr σ2 eσ2
  have hσ2 := wtI eσ2 hw
  refine r_aload_n (pc := 15) (j := 1) dX4_add_15 rfl rfl ?_
  refine gf4_1 (pc := 16) tw_2_80 hσ2 dX4_add_16 ?_
  refine r_iload_n (pc := 19) (j := 0) dX4_add_19 rfl rfl ?_
  refine r_aload_n (pc := 20) (j := 2) dX4_add_20 rfl rfl ?_
  refine r_aload_n (pc := 21) (j := 3) dX4_add_21 rfl rfl ?_
  obtain ⟨v3, hv3, hr⟩ := bnd1_inv hr
  refine kX3_allGains (pc := 22) hv3 hs2 tw_5_12 ⟨nle rfl, nle rfl⟩ (nle rfl) dX4_add_22 ?_
  obtain ⟨h6, hr⟩ := grd_inv hr
  refine x_iast (pc := 25) (j := (Int32.toNatClampNeg v1)) rfl h6 rfl dX4_add_25 fun σ7 eσ7 => ?_
  replace hr := vthen_inv hr σ7 eσ7
  have hσ7 := wtI eσ7 hσ2
  refine r_aload_n (pc := 26) (j := 1) dX4_add_26 rfl rfl ?_
  refine gf4_2 (pc := 27) tw_2_82 hσ7 dX4_add_27 ?_
  refine r_iload_n (pc := 30) (j := 0) dX4_add_30 rfl rfl ?_
  refine r_iconst (pc := 31) (v := (0 : Int32)) dX4_add_31 rfl ?_
  refine x_iast (pc := 32) (j := (Int32.toNatClampNeg v1)) rfl h6 rfl dX4_add_32 fun σ8 eσ8 => ?_
  replace hr := vthen_inv hr σ8 eσ8
  have hσ8 := wtI eσ8 hσ7
  refine r_aload_n (pc := 33) (j := 1) dX4_add_33 rfl rfl ?_
  refine gf4_3 (pc := 34) tw_2_84 hσ8 dX4_add_34 ?_
  refine r_iload_n (pc := 37) (j := 0) dX4_add_37 rfl rfl ?_
  refine r_iconst (pc := 38) (v := (0 : Int32)) dX4_add_38 rfl ?_
  refine x_iast (pc := 39) (j := (Int32.toNatClampNeg v1)) rfl h6 rfl dX4_add_39 fun σ9 eσ9 => ?_
  replace hr := vthen_inv hr σ9 eσ9
  have hσ9 := wtI eσ9 hσ8
  refine r_iconst (pc := 40) (v := (0 : Int32)) dX4_add_40 rfl ?_
  refine r_istore (pc := 41) (ls1 := [(4, .int (0 : Int32)), (3, .int v1), (0, .ref (ad g 58)), (1, .ref (ad g 31)), (2, .ref (ad g a2))]) dX4_add_41 (nle rfl) rfl ?_
  refine r_pick (ls1 := [(0, .ref (ad g 58)), (1, .ref (ad g 31)), (2, .ref (ad g a2)), (3, .int v1), (4, .int (0 : Int32))]) [2, 3, 4, 1, 0] rfl ?_
  refine sX4_add_L43 hs2    fuel (0 : Int32) σ9 hr hσ9

theorem kX4_add {g : GG} {σ : SS} {a2 : Nat} {v : Int32} {σ2 : SS} {M : MM} {F : State → Array Value → List Frame → State → Prop} {pc index : Nat} {ls : List (Nat × Value)} {rest : List Value} (hf : fX4_add σ a2 = some (v, σ2)) (hs2 : shp a2 = (1, 0)) (hl : Cond.methodLink M.1.cls index yX4_add ∈ lw_gt) (hR : mX4_add.2.2.2.2.frames + 1 ≤ M.2.2.2.2.frames ∧ 8 + (mX4_add.2.2.1 + 11) + mX4_add.2.2.2.2.locals ≤ M.2.2.2.2.locals) (hrest : (rest.map fun v => v.category).sum ≤ 8) (hd : decode M.2.1 pc = .ok (.invokevirtual index, 3)) (k : WT σ2 → RR g M F zF (pc + 3) ls (.int v :: rest) σ2) : RR g M F zF pc ls (.ref (ad g a2) :: .ref (ad g 31) :: .ref (ad g 58) :: rest) σ :=
  r_callV (z := zF) (N := mX4_add) (nn := 2) (o1 := some (.int v)) (sX4_add hf hs2) (rfl : shp 58 = (4, 0)) (by decide) (shp_le (rfl : shp 58 = (4, 0)) (nle rfl)) (ci := 4) rfl rfl tw_5_11 tw_1_8 hl tw_5_9 tw_5_10 ⟨by decide, by decide, rfl⟩ hR rfl hrest hd ⟨Nat.zero_le _, Nat.zero_le _⟩ rfl (fun h => k (h rfl))

theorem dX7_lay_0 : decode cX7_lay 0 = .ok (.aload_n 0, 1) := by decide +kernel
theorem dX7_lay_1 : decode cX7_lay 1 = .ok (.getfield 32, 3) := by decide +kernel
theorem dX7_lay_4 : decode cX7_lay 4 = .ok (.getfield 274, 3) := by decide +kernel
theorem dX7_lay_7 : decode cX7_lay 7 = .ok (.ifCond .ne 5, 3) := by decide +kernel
theorem dX7_lay_10 : decode cX7_lay 10 = .ok (.iconst (-1), 1) := by decide +kernel
theorem dX7_lay_11 : decode cX7_lay 11 = .ok (.ireturn, 1) := by decide +kernel
theorem dX7_lay_12 : decode cX7_lay 12 = .ok (.aload_n 0, 1) := by decide +kernel
theorem dX7_lay_13 : decode cX7_lay 13 = .ok (.getfield 62, 3) := by decide +kernel
theorem dX7_lay_16 : decode cX7_lay 16 = .ok (.aload_n 0, 1) := by decide +kernel
theorem dX7_lay_17 : decode cX7_lay 17 = .ok (.getfield 18, 3) := by decide +kernel
theorem dX7_lay_20 : decode cX7_lay 20 = .ok (.aload_n 0, 1) := by decide +kernel
theorem dX7_lay_21 : decode cX7_lay 21 = .ok (.getfield 32, 3) := by decide +kernel
theorem dX7_lay_24 : decode cX7_lay 24 = .ok (.invokevirtual 303, 3) := by decide +kernel
theorem dX7_lay_27 : decode cX7_lay 27 = .ok (.ifCond .ne 6, 3) := by decide +kernel
theorem dX7_lay_30 : decode cX7_lay 30 = .ok (.bipush (-2), 2) := by decide +kernel
theorem dX7_lay_32 : decode cX7_lay 32 = .ok (.ireturn, 1) := by decide +kernel
theorem dX7_lay_33 : decode cX7_lay 33 = .ok (.aload_n 0, 1) := by decide +kernel
theorem dX7_lay_34 : decode cX7_lay 34 = .ok (.getfield 69, 3) := by decide +kernel
theorem dX7_lay_37 : decode cX7_lay 37 = .ok (.getfield 94, 3) := by decide +kernel
theorem dX7_lay_40 : decode cX7_lay 40 = .ok (.bipush 16, 2) := by decide +kernel
theorem dX7_lay_42 : decode cX7_lay 42 = .ok (.if_icmp .lt 6, 3) := by decide +kernel
theorem dX7_lay_45 : decode cX7_lay 45 = .ok (.bipush (-3), 2) := by decide +kernel
theorem dX7_lay_47 : decode cX7_lay 47 = .ok (.ireturn, 1) := by decide +kernel
theorem dX7_lay_48 : decode cX7_lay 48 = .ok (.aload_n 0, 1) := by decide +kernel
theorem dX7_lay_49 : decode cX7_lay 49 = .ok (.getfield 69, 3) := by decide +kernel
theorem dX7_lay_52 : decode cX7_lay 52 = .ok (.aload_n 0, 1) := by decide +kernel
theorem dX7_lay_53 : decode cX7_lay 53 = .ok (.getfield 62, 3) := by decide +kernel
theorem dX7_lay_56 : decode cX7_lay 56 = .ok (.aload_n 0, 1) := by decide +kernel
theorem dX7_lay_57 : decode cX7_lay 57 = .ok (.getfield 32, 3) := by decide +kernel
theorem dX7_lay_60 : decode cX7_lay 60 = .ok (.invokevirtual 360, 3) := by decide +kernel
theorem dX7_lay_63 : decode cX7_lay 63 = .ok (.ireturn, 1) := by decide +kernel
def mX7_lay : MM := (yX7_lay, cX7_lay, 1, Option.some Jvm.ClassFile.FieldType.int, { frames := 6, cells := 0, slots := 0, locals := 148 })
def fX7_lay (σ : SS)  : Option (Int32 × SS) :=
  if (gI σ (gR σ 1 5) 0) = 0 then (
    some ((-1 : Int32), σ)
    ) else (
    bnd (fX3_read σ (gR σ 1 2) (gR σ 1 5)) fun b2 σ4 =>
    if b2 = true then (
      if (gI σ4 58 0) < (16 : Int32) then (
        bnd (fX4_add σ4 (gR σ4 1 5)) fun v5 σ8 =>
        some (v5, σ8)
        ) else (
        some ((-3 : Int32), σ4)
        )
      ) else (
      some ((-2 : Int32), σ4)
      )
    )

set_option maxRecDepth 20000 in
theorem sX7_lay {g : GG} {σ : SS}  {r : Int32 × SS} (hr : fX7_lay σ = some r)  : Ct g mX7_lay [.ref (ad g 1)] NF σ (some (.int r.1)) NF r.2 := by
  refine Ct.of (by decide +kernel) (nle rfl) fun hw0 => ?_
  have hw := hw0 rfl
  unfold fX7_lay at hr
  change RR g mX7_lay (FinR g mX7_lay (some (.int r.1)) NF r.2) zF 0 [(0, .ref (ad g 1))] [] σ
  refine r_aload_n (pc := 0) (j := 0) dX7_lay_0 rfl rfl ?_
  refine gf7_5 (pc := 1) tw_2_114 hw dX7_lay_1 ?_
  refine gf1_0 (pc := 4) tw_1_61 (wt_fo hw).1 dX7_lay_4 ?_
  refine r_if_ne (pc := 7) (tgt := 12) dX7_lay_7 rfl (fun hc => ?_) (fun hc => ?_)
  · replace hr := ite_f hc hr
    refine r_aload_n (pc := 12) (j := 0) dX7_lay_12 rfl rfl ?_
    refine gf7_12 (pc := 13) tw_2_121 hw dX7_lay_13 ?_
    refine r_aload_n (pc := 16) (j := 0) dX7_lay_16 rfl rfl ?_
    refine gf7_2 (pc := 17) tw_2_111 hw dX7_lay_17 ?_
    refine r_aload_n (pc := 20) (j := 0) dX7_lay_20 rfl rfl ?_
    refine gf7_5 (pc := 21) tw_2_114 hw dX7_lay_21 ?_
    obtain ⟨b2, σ4, eσ4, hr⟩ := bnd_inv hr
    refine kX3_read (pc := 24) eσ4 (wt_sc hw).1 (wt_fo hw).1 tw_4_135 ⟨nle rfl, nle rfl⟩ (nle rfl) dX7_lay_24 fun hσ4 => ?_
    refine r_ifB_ne (pc := 27) (tgt := 33) dX7_lay_27 rfl (fun hc => ?_) (fun hc => ?_)
    · replace hr := ite_t hc hr
      refine r_aload_n (pc := 33) (j := 0) dX7_lay_33 rfl rfl ?_
      refine gf7_13 (pc := 34) tw_2_122 hσ4 dX7_lay_34 ?_
      refine gf4_0 (pc := 37) tw_2_79 rfl dX7_lay_37 ?_
      refine r_bipush (pc := 40) (v := (16 : Int32)) dX7_lay_40 rfl ?_
      refine r_icmp_lt (pc := 42) (tgt := 48) dX7_lay_42 rfl (fun hc => ?_) (fun hc => ?_)
      · replace hr := ite_t hc hr
        refine r_aload_n (pc := 48) (j := 0) dX7_lay_48 rfl rfl ?_
        refine gf7_13 (pc := 49) tw_2_122 hσ4 dX7_lay_49 ?_
        refine r_aload_n (pc := 52) (j := 0) dX7_lay_52 rfl rfl ?_
        refine gf7_12 (pc := 53) tw_2_121 hσ4 dX7_lay_53 ?_
        refine r_aload_n (pc := 56) (j := 0) dX7_lay_56 rfl rfl ?_
        refine gf7_5 (pc := 57) tw_2_114 hσ4 dX7_lay_57 ?_
        obtain ⟨v5, σ8, eσ8, hr⟩ := bnd_inv hr
        refine kX4_add (pc := 60) eσ8 (wt_fo hσ4).1 tw_5_8 ⟨nle rfl, nle rfl⟩ (nle rfl) dX7_lay_60 fun hσ8 => ?_
        exact l_osi hr (r_iret (pc := 63) (v := v5) rfl rfl ⟨Nat.le_refl _, Nat.le_refl _⟩ dX7_lay_63)
      replace hr := ite_f hc hr
      refine r_bipush (pc := 45) (v := (-3 : Int32)) dX7_lay_45 rfl ?_
      exact l_osi hr (r_iret (pc := 47) (v := (-3 : Int32)) rfl rfl ⟨Nat.le_refl _, Nat.le_refl _⟩ dX7_lay_47)
    replace hr := ite_f hc hr
    refine r_bipush (pc := 30) (v := (-2 : Int32)) dX7_lay_30 rfl ?_
    exact l_osi hr (r_iret (pc := 32) (v := (-2 : Int32)) rfl rfl ⟨Nat.le_refl _, Nat.le_refl _⟩ dX7_lay_32)
  replace hr := ite_t hc hr
  refine r_iconst (pc := 10) (v := (-1 : Int32)) dX7_lay_10 rfl ?_
  exact l_osi hr (r_iret (pc := 11) (v := (-1 : Int32)) rfl rfl ⟨Nat.le_refl _, Nat.le_refl _⟩ dX7_lay_11)

theorem kX7_lay {g : GG} {σ : SS}  {v : Int32} {σ2 : SS} {M : MM} {F : State → Array Value → List Frame → State → Prop} {pc index : Nat} {ls : List (Nat × Value)} {rest : List Value} (hf : fX7_lay σ = some (v, σ2))  (hl : Cond.methodLink M.1.cls index yX7_lay ∈ lw_gt) (hR : mX7_lay.2.2.2.2.frames + 1 ≤ M.2.2.2.2.frames ∧ 8 + (mX7_lay.2.2.1 + 11) + mX7_lay.2.2.2.2.locals ≤ M.2.2.2.2.locals) (hrest : (rest.map fun v => v.category).sum ≤ 8) (hd : decode M.2.1 pc = .ok (.invokevirtual index, 3)) (k : WT σ2 → RR g M F zF (pc + 3) ls (.int v :: rest) σ2) : RR g M F zF pc ls (.ref (ad g 1) :: rest) σ :=
  r_callV (z := zF) (N := mX7_lay) (nn := 0) (o1 := some (.int v)) (sX7_lay hf ) (rfl : shp 1 = (7, 0)) (by decide) (shp_le (rfl : shp 1 = (7, 0)) (nle rfl)) (ci := 7) rfl rfl tw_5_7 tw_1_1 hl tw_5_5 tw_5_6 ⟨by decide, by decide, rfl⟩ hR rfl hrest hd ⟨Nat.zero_le _, Nat.zero_le _⟩ rfl (fun h => k (h rfl))

theorem dX8_lay_0 : decode cX8_lay 0 = .ok (.aload_n 0, 1) := by decide +kernel
theorem dX8_lay_1 : decode cX8_lay 1 = .ok (.getfield 202, 3) := by decide +kernel
theorem dX8_lay_4 : decode cX8_lay 4 = .ok (.ifCond .ne 5, 3) := by decide +kernel
theorem dX8_lay_7 : decode cX8_lay 7 = .ok (.iconst (-1), 1) := by decide +kernel
theorem dX8_lay_8 : decode cX8_lay 8 = .ok (.ireturn, 1) := by decide +kernel
theorem dX8_lay_9 : decode cX8_lay 9 = .ok (.aload_n 0, 1) := by decide +kernel
theorem dX8_lay_10 : decode cX8_lay 10 = .ok (.invokevirtual 373, 3) := by decide +kernel
theorem dX8_lay_13 : decode cX8_lay 13 = .ok (.ifCond .ne 6, 3) := by decide +kernel
theorem dX8_lay_16 : decode cX8_lay 16 = .ok (.bipush (-2), 2) := by decide +kernel
theorem dX8_lay_18 : decode cX8_lay 18 = .ok (.ireturn, 1) := by decide +kernel
theorem dX8_lay_19 : decode cX8_lay 19 = .ok (.aload_n 0, 1) := by decide +kernel
theorem dX8_lay_20 : decode cX8_lay 20 = .ok (.getfield 259, 3) := by decide +kernel
theorem dX8_lay_23 : decode cX8_lay 23 = .ok (.bipush 16, 2) := by decide +kernel
theorem dX8_lay_25 : decode cX8_lay 25 = .ok (.if_icmp .ne 6, 3) := by decide +kernel
theorem dX8_lay_28 : decode cX8_lay 28 = .ok (.bipush (-3), 2) := by decide +kernel
theorem dX8_lay_30 : decode cX8_lay 30 = .ok (.ireturn, 1) := by decide +kernel
theorem dX8_lay_31 : decode cX8_lay 31 = .ok (.aload_n 0, 1) := by decide +kernel
theorem dX8_lay_32 : decode cX8_lay 32 = .ok (.getfield 259, 3) := by decide +kernel
theorem dX8_lay_35 : decode cX8_lay 35 = .ok (.istore_n 1, 1) := by decide +kernel
theorem dX8_lay_36 : decode cX8_lay 36 = .ok (.aload_n 0, 1) := by decide +kernel
theorem dX8_lay_37 : decode cX8_lay 37 = .ok (.iload_n 1, 1) := by decide +kernel
theorem dX8_lay_38 : decode cX8_lay 38 = .ok (.iconst 1, 1) := by decide +kernel
theorem dX8_lay_39 : decode cX8_lay 39 = .ok (.iadd, 1) := by decide +kernel
theorem dX8_lay_40 : decode cX8_lay 40 = .ok (.putfield 259, 3) := by decide +kernel
theorem dX8_lay_43 : decode cX8_lay 43 = .ok (.aload_n 0, 1) := by decide +kernel
theorem dX8_lay_44 : decode cX8_lay 44 = .ok (.getfield 117, 3) := by decide +kernel
theorem dX8_lay_47 : decode cX8_lay 47 = .ok (.iload_n 1, 1) := by decide +kernel
theorem dX8_lay_48 : decode cX8_lay 48 = .ok (.iconst 0, 1) := by decide +kernel
theorem dX8_lay_49 : decode cX8_lay 49 = .ok (.iastore, 1) := by decide +kernel
theorem dX8_lay_50 : decode cX8_lay 50 = .ok (.aload_n 0, 1) := by decide +kernel
theorem dX8_lay_51 : decode cX8_lay 51 = .ok (.getfield 120, 3) := by decide +kernel
theorem dX8_lay_54 : decode cX8_lay 54 = .ok (.iload_n 1, 1) := by decide +kernel
theorem dX8_lay_55 : decode cX8_lay 55 = .ok (.iconst 0, 1) := by decide +kernel
theorem dX8_lay_56 : decode cX8_lay 56 = .ok (.iastore, 1) := by decide +kernel
theorem dX8_lay_57 : decode cX8_lay 57 = .ok (.aload_n 0, 1) := by decide +kernel
theorem dX8_lay_58 : decode cX8_lay 58 = .ok (.getfield 123, 3) := by decide +kernel
theorem dX8_lay_61 : decode cX8_lay 61 = .ok (.iload_n 1, 1) := by decide +kernel
theorem dX8_lay_62 : decode cX8_lay 62 = .ok (.iconst 0, 1) := by decide +kernel
theorem dX8_lay_63 : decode cX8_lay 63 = .ok (.iastore, 1) := by decide +kernel
theorem dX8_lay_64 : decode cX8_lay 64 = .ok (.iconst 0, 1) := by decide +kernel
theorem dX8_lay_65 : decode cX8_lay 65 = .ok (.istore_n 2, 1) := by decide +kernel
theorem dX8_lay_66 : decode cX8_lay 66 = .ok (.iload_n 2, 1) := by decide +kernel
theorem dX8_lay_67 : decode cX8_lay 67 = .ok (.aload_n 0, 1) := by decide +kernel
theorem dX8_lay_68 : decode cX8_lay 68 = .ok (.invokevirtual 266, 3) := by decide +kernel
theorem dX8_lay_71 : decode cX8_lay 71 = .ok (.if_icmp .ge 109, 3) := by decide +kernel
theorem dX8_lay_74 : decode cX8_lay 74 = .ok (.aload_n 0, 1) := by decide +kernel
theorem dX8_lay_75 : decode cX8_lay 75 = .ok (.iload_n 2, 1) := by decide +kernel
theorem dX8_lay_76 : decode cX8_lay 76 = .ok (.aload_n 0, 1) := by decide +kernel
theorem dX8_lay_77 : decode cX8_lay 77 = .ok (.getfield 53, 3) := by decide +kernel
theorem dX8_lay_80 : decode cX8_lay 80 = .ok (.iconst 3, 1) := by decide +kernel
theorem dX8_lay_81 : decode cX8_lay 81 = .ok (.iaload, 1) := by decide +kernel
theorem dX8_lay_82 : decode cX8_lay 82 = .ok (.invokevirtual 401, 3) := by decide +kernel
theorem dX8_lay_85 : decode cX8_lay 85 = .ok (.aload_n 0, 1) := by decide +kernel
theorem dX8_lay_86 : decode cX8_lay 86 = .ok (.getfield 117, 3) := by decide +kernel
theorem dX8_lay_89 : decode cX8_lay 89 = .ok (.iload_n 1, 1) := by decide +kernel
theorem dX8_lay_90 : decode cX8_lay 90 = .ok (.aload_n 0, 1) := by decide +kernel
theorem dX8_lay_91 : decode cX8_lay 91 = .ok (.getfield 117, 3) := by decide +kernel
theorem dX8_lay_94 : decode cX8_lay 94 = .ok (.iload_n 1, 1) := by decide +kernel
theorem dX8_lay_95 : decode cX8_lay 95 = .ok (.iaload, 1) := by decide +kernel
theorem dX8_lay_96 : decode cX8_lay 96 = .ok (.aload_n 0, 1) := by decide +kernel
theorem dX8_lay_97 : decode cX8_lay 97 = .ok (.iload_n 2, 1) := by decide +kernel
theorem dX8_lay_98 : decode cX8_lay 98 = .ok (.invokevirtual 404, 3) := by decide +kernel
theorem dX8_lay_101 : decode cX8_lay 101 = .ok (.iadd, 1) := by decide +kernel
theorem dX8_lay_102 : decode cX8_lay 102 = .ok (.iastore, 1) := by decide +kernel
theorem dX8_lay_103 : decode cX8_lay 103 = .ok (.aload_n 0, 1) := by decide +kernel
theorem dX8_lay_104 : decode cX8_lay 104 = .ok (.getfield 120, 3) := by decide +kernel
theorem dX8_lay_107 : decode cX8_lay 107 = .ok (.iload_n 1, 1) := by decide +kernel
theorem dX8_lay_108 : decode cX8_lay 108 = .ok (.aload_n 0, 1) := by decide +kernel
theorem dX8_lay_109 : decode cX8_lay 109 = .ok (.getfield 120, 3) := by decide +kernel
theorem dX8_lay_112 : decode cX8_lay 112 = .ok (.iload_n 1, 1) := by decide +kernel
theorem dX8_lay_113 : decode cX8_lay 113 = .ok (.iaload, 1) := by decide +kernel
theorem dX8_lay_114 : decode cX8_lay 114 = .ok (.aload_n 0, 1) := by decide +kernel
theorem dX8_lay_115 : decode cX8_lay 115 = .ok (.getfield 391, 3) := by decide +kernel
theorem dX8_lay_118 : decode cX8_lay 118 = .ok (.iconst 1, 1) := by decide +kernel
theorem dX8_lay_119 : decode cX8_lay 119 = .ok (.if_icmp .ne 9, 3) := by decide +kernel
theorem dX8_lay_122 : decode cX8_lay 122 = .ok (.iconst 1, 1) := by decide +kernel
theorem dX8_lay_123 : decode cX8_lay 123 = .ok (.iload_n 2, 1) := by decide +kernel
theorem dX8_lay_124 : decode cX8_lay 124 = .ok (.ishl, 1) := by decide +kernel
theorem dX8_lay_125 : decode cX8_lay 125 = .ok (.goto 4, 3) := by decide +kernel
theorem dX8_lay_128 : decode cX8_lay 128 = .ok (.iconst 0, 1) := by decide +kernel
theorem dX8_lay_129 : decode cX8_lay 129 = .ok (.ior, 1) := by decide +kernel
theorem dX8_lay_130 : decode cX8_lay 130 = .ok (.iastore, 1) := by decide +kernel
theorem dX8_lay_131 : decode cX8_lay 131 = .ok (.aload_n 0, 1) := by decide +kernel
theorem dX8_lay_132 : decode cX8_lay 132 = .ok (.getfield 123, 3) := by decide +kernel
theorem dX8_lay_135 : decode cX8_lay 135 = .ok (.iload_n 1, 1) := by decide +kernel
theorem dX8_lay_136 : decode cX8_lay 136 = .ok (.aload_n 0, 1) := by decide +kernel
theorem dX8_lay_137 : decode cX8_lay 137 = .ok (.getfield 123, 3) := by decide +kernel
theorem dX8_lay_140 : decode cX8_lay 140 = .ok (.iload_n 1, 1) := by decide +kernel
theorem dX8_lay_141 : decode cX8_lay 141 = .ok (.iaload, 1) := by decide +kernel
theorem dX8_lay_142 : decode cX8_lay 142 = .ok (.aload_n 0, 1) := by decide +kernel
theorem dX8_lay_143 : decode cX8_lay 143 = .ok (.getfield 391, 3) := by decide +kernel
theorem dX8_lay_146 : decode cX8_lay 146 = .ok (.iconst 2, 1) := by decide +kernel
theorem dX8_lay_147 : decode cX8_lay 147 = .ok (.if_icmp .ne 9, 3) := by decide +kernel
theorem dX8_lay_150 : decode cX8_lay 150 = .ok (.iconst 1, 1) := by decide +kernel
theorem dX8_lay_151 : decode cX8_lay 151 = .ok (.iload_n 2, 1) := by decide +kernel
theorem dX8_lay_152 : decode cX8_lay 152 = .ok (.ishl, 1) := by decide +kernel
theorem dX8_lay_153 : decode cX8_lay 153 = .ok (.goto 4, 3) := by decide +kernel
theorem dX8_lay_156 : decode cX8_lay 156 = .ok (.iconst 0, 1) := by decide +kernel
theorem dX8_lay_157 : decode cX8_lay 157 = .ok (.ior, 1) := by decide +kernel
theorem dX8_lay_158 : decode cX8_lay 158 = .ok (.iastore, 1) := by decide +kernel
theorem dX8_lay_159 : decode cX8_lay 159 = .ok (.aload_n 0, 1) := by decide +kernel
theorem dX8_lay_160 : decode cX8_lay 160 = .ok (.getfield 126, 3) := by decide +kernel
theorem dX8_lay_163 : decode cX8_lay 163 = .ok (.bipush 12, 2) := by decide +kernel
theorem dX8_lay_165 : decode cX8_lay 165 = .ok (.iload_n 1, 1) := by decide +kernel
theorem dX8_lay_166 : decode cX8_lay 166 = .ok (.imul, 1) := by decide +kernel
theorem dX8_lay_167 : decode cX8_lay 167 = .ok (.iload_n 2, 1) := by decide +kernel
theorem dX8_lay_168 : decode cX8_lay 168 = .ok (.iadd, 1) := by decide +kernel
theorem dX8_lay_169 : decode cX8_lay 169 = .ok (.aload_n 0, 1) := by decide +kernel
theorem dX8_lay_170 : decode cX8_lay 170 = .ok (.getfield 385, 3) := by decide +kernel
theorem dX8_lay_173 : decode cX8_lay 173 = .ok (.iastore, 1) := by decide +kernel
theorem dX8_lay_174 : decode cX8_lay 174 = .ok (.iinc 2 1, 3) := by decide +kernel
theorem dX8_lay_177 : decode cX8_lay 177 = .ok (.goto (-111), 3) := by decide +kernel
theorem dX8_lay_180 : decode cX8_lay 180 = .ok (.iload_n 1, 1) := by decide +kernel
theorem dX8_lay_181 : decode cX8_lay 181 = .ok (.ireturn, 1) := by decide +kernel
def mX8_lay : MM := (yX8_lay, cX8_lay, 3, Option.some Jvm.ClassFile.FieldType.int, { frames := 7, cells := 0, slots := 0, locals := 158 })
def X8_lay_L66 (u1_ : Int32)  : Nat → Int32 → SS → Option (Int32 × SS) :=
  lp (fun _ _ => none) fun rec v2_ σ_ =>
    bnd1 (fX8_questions σ_) fun v11 =>
    if v11 ≤ v2_ then (
      some (u1_, σ_)
      ) else (
      bnd1 (fX8_judges σ_ v2_ (gI σ_ 88 3)) fun σ14 =>
      grd (inb u1_ 16) <|
      bnd1 (fX8_pointsOf σ14 v2_) fun v16 =>
      vthen (sI σ14 109 (Int32.toNatClampNeg u1_) ((gI σ14 109 (Int32.toNatClampNeg u1_)) + v16)) fun σ19 =>
      vthen (fun (s20 : Int32) =>
        vthen (sI σ19 110 (Int32.toNatClampNeg u1_) ((gI σ19 110 (Int32.toNatClampNeg u1_)) ||| s20)) fun σ21 =>
        vthen (fun (s22 : Int32) =>
          vthen (sI σ21 111 (Int32.toNatClampNeg u1_) ((gI σ21 111 (Int32.toNatClampNeg u1_)) ||| s22)) fun σ23 =>
          grd (inb (((12 : Int32) * u1_) + v2_) 192) <|
          vthen (sI σ23 112 (Int32.toNatClampNeg (((12 : Int32) * u1_) + v2_)) (gI σ23 73 55)) fun σ25 =>
          rec (v2_ + (1 : Int32)) σ25
          ) fun j157 =>
        if (gI σ21 73 56) = (2 : Int32) then (
          j157 ((1 : Int32) <<< (v2_ &&& 31))
          ) else (
          j157 (0 : Int32)
          )
        ) fun j129 =>
      if (gI σ19 73 56) = (1 : Int32) then (
        j129 ((1 : Int32) <<< (v2_ &&& 31))
        ) else (
        j129 (0 : Int32)
        )
      )

def fX8_lay (σ : SS)  : Option (Int32 × SS) :=
  if (gI σ 73 12) = 0 then (
    some ((-1 : Int32), σ)
    ) else (
    bnd (fX8_finds σ) fun b2 σ4 =>
    if b2 = true then (
      if (gI σ4 73 65) = (16 : Int32) then (
        some ((-3 : Int32), σ4)
        ) else (
        vthen (gI σ4 73 65) fun v5 =>
        vthen (sI σ4 73 65 (v5 + (1 : Int32))) fun σ6 =>
        grd (inb v5 16) <|
        vthen (sI σ6 109 (Int32.toNatClampNeg v5) (0 : Int32)) fun σ8 =>
        vthen (sI σ8 110 (Int32.toNatClampNeg v5) (0 : Int32)) fun σ9 =>
        vthen (sI σ9 111 (Int32.toNatClampNeg v5) (0 : Int32)) fun σ10 =>
        X8_lay_L66 v5
        fuel (0 : Int32) σ10
        )
      ) else (
      some ((-2 : Int32), σ4)
      )
    )

set_option maxRecDepth 20000 in
theorem sX8_lay_L66 {g : GG} {r : Int32 × SS} {u1_ : Int32}  
    (n : Nat) : ∀ (v2_ : Int32) (σ_ : SS), X8_lay_L66 u1_ n v2_ σ_ = some r → WT σ_ → RR g mX8_lay (FinR g mX8_lay (some (.int r.1)) NF r.2) zF 66 [(0, .ref (ad g 73)), (1, .int u1_), (2, .int v2_)] [] σ_ := by
  unfold X8_lay_L66
  refine lp_ind (P := fun (rec : Int32 → SS → Option (Int32 × SS)) => ∀ (v2_ : Int32) (σ_ : SS), rec v2_ σ_ = some r → WT σ_ → RR g mX8_lay (FinR g mX8_lay (some (.int r.1)) NF r.2) zF 66 [(0, .ref (ad g 73)), (1, .int u1_), (2, .int v2_)] [] σ_) ?_ ?_ n
  · intro v2_ σ_ hr; cases hr
  intro rec ih v2_ σ_ hr hw_
  refine r_iload_n (pc := 66) (j := 2) dX8_lay_66 rfl rfl ?_
  refine r_aload_n (pc := 67) (j := 0) dX8_lay_67 rfl rfl ?_
  obtain ⟨v11, hv11, hr⟩ := bnd1_inv hr
  refine kX8_questions (pc := 68) hv11 tw_6_145 ⟨nle rfl, nle rfl⟩ (nle rfl) dX8_lay_68 ?_
  refine r_icmp_ge (pc := 71) (tgt := 180) dX8_lay_71 rfl (fun hc => ?_) (fun hc => ?_)
  · replace hr := ite_t hc hr
    refine r_iload_n (pc := 180) (j := 1) dX8_lay_180 rfl rfl ?_
    exact l_osi hr (r_iret (pc := 181) (v := u1_) rfl rfl ⟨Nat.le_refl _, Nat.le_refl _⟩ dX8_lay_181)
  replace hr := ite_f hc hr
  refine r_aload_n (pc := 74) (j := 0) dX8_lay_74 rfl rfl ?_
  refine r_iload_n (pc := 75) (j := 2) dX8_lay_75 rfl rfl ?_
  refine r_aload_n (pc := 76) (j := 0) dX8_lay_76 rfl rfl ?_
  refine gf8_26 (pc := 77) tw_5_120 hw_ dX8_lay_77 ?_
  refine r_iconst (pc := 80) (v := (3 : Int32)) dX8_lay_80 rfl ?_
  refine x_iald (pc := 81) (k := 3) rfl (by decide) rfl dX8_lay_81 ?_
  obtain ⟨σ14, eσ14, hr⟩ := bnd1_inv hr
  refine kX8_judges (pc := 82) eσ14 tw_7_107 ⟨nle rfl, nle rfl⟩ (nle rfl) dX8_lay_82 fun hσ14 => ?_
  refine r_aload_n (pc := 85) (j := 0) dX8_lay_85 rfl rfl ?_
  refine gf8_60 (pc := 86) tw_5_154 hσ14 dX8_lay_86 ?_
  refine r_iload_n (pc := 89) (j := 1) dX8_lay_89 rfl rfl ?_
  refine r_aload_n (pc := 90) (j := 0) dX8_lay_90 rfl rfl ?_
  refine gf8_60 (pc := 91) tw_5_154 hσ14 dX8_lay_91 ?_
  refine r_iload_n (pc := 94) (j := 1) dX8_lay_94 rfl rfl ?_
  obtain ⟨h15, hr⟩ := grd_inv hr
  refine x_iald (pc := 95) (k := (Int32.toNatClampNeg u1_)) rfl h15 rfl dX8_lay_95 ?_
  refine r_aload_n (pc := 96) (j := 0) dX8_lay_96 rfl rfl ?_
  refine r_iload_n (pc := 97) (j := 2) dX8_lay_97 rfl rfl ?_
  obtain ⟨v16, hv16, hr⟩ := bnd1_inv hr
  refine kX8_pointsOf (pc := 98) hv16 tw_7_119 ⟨nle rfl, nle rfl⟩ (nle rfl) dX8_lay_98 ?_
  refine r_iadd (pc := 101) dX8_lay_101 ?_
  refine x_iast (pc := 102) (j := (Int32.toNatClampNeg u1_)) rfl h15 rfl dX8_lay_102 fun σ19 eσ19 => ?_
  replace hr := vthen_inv hr σ19 eσ19
  have hσ19 := wtI eσ19 hσ14
  refine r_aload_n (pc := 103) (j := 0) dX8_lay_103 rfl rfl ?_
  refine gf8_61 (pc := 104) tw_5_155 hσ19 dX8_lay_104 ?_
  refine r_iload_n (pc := 107) (j := 1) dX8_lay_107 rfl rfl ?_
  refine r_aload_n (pc := 108) (j := 0) dX8_lay_108 rfl rfl ?_
  refine gf8_61 (pc := 109) tw_5_155 hσ19 dX8_lay_109 ?_
  refine r_iload_n (pc := 112) (j := 1) dX8_lay_112 rfl rfl ?_
  refine x_iald (pc := 113) (k := (Int32.toNatClampNeg u1_)) rfl h15 rfl dX8_lay_113 ?_
  refine r_aload_n (pc := 114) (j := 0) dX8_lay_114 rfl rfl ?_
  refine gf8_56 (pc := 115) tw_5_150 rfl dX8_lay_115 ?_
  refine r_iconst (pc := 118) (v := (1 : Int32)) dX8_lay_118 rfl ?_
  obtain ⟨j129, ej129, hr⟩ := vth_ex hr
  have hj129 : ∀ (s20 : Int32), j129 s20 = some r → RR g mX8_lay (FinR g mX8_lay (some (.int r.1)) NF r.2) zF 129 [(0, .ref (ad g 73)), (1, .int u1_), (2, .int v2_)] [.int s20, .int (gI σ19 110 (Int32.toNatClampNeg u1_)), .int u1_, .ref (ad g 110)] σ19 := by
    intro s20 hr
    replace hr := (congrFun ej129 s20).symm.trans hr
    refine r_ior (pc := 129) dX8_lay_129 ?_
    refine x_iast (pc := 130) (j := (Int32.toNatClampNeg u1_)) rfl h15 rfl dX8_lay_130 fun σ21 eσ21 => ?_
    replace hr := vthen_inv hr σ21 eσ21
    have hσ21 := wtI eσ21 hσ19
    refine r_aload_n (pc := 131) (j := 0) dX8_lay_131 rfl rfl ?_
    refine gf8_62 (pc := 132) tw_5_156 hσ21 dX8_lay_132 ?_
    refine r_iload_n (pc := 135) (j := 1) dX8_lay_135 rfl rfl ?_
    refine r_aload_n (pc := 136) (j := 0) dX8_lay_136 rfl rfl ?_
    refine gf8_62 (pc := 137) tw_5_156 hσ21 dX8_lay_137 ?_
    refine r_iload_n (pc := 140) (j := 1) dX8_lay_140 rfl rfl ?_
    refine x_iald (pc := 141) (k := (Int32.toNatClampNeg u1_)) rfl h15 rfl dX8_lay_141 ?_
    refine r_aload_n (pc := 142) (j := 0) dX8_lay_142 rfl rfl ?_
    refine gf8_56 (pc := 143) tw_5_150 rfl dX8_lay_143 ?_
    refine r_iconst (pc := 146) (v := (2 : Int32)) dX8_lay_146 rfl ?_
    obtain ⟨j157, ej157, hr⟩ := vth_ex hr
    have hj157 : ∀ (s22 : Int32), j157 s22 = some r → RR g mX8_lay (FinR g mX8_lay (some (.int r.1)) NF r.2) zF 157 [(0, .ref (ad g 73)), (1, .int u1_), (2, .int v2_)] [.int s22, .int (gI σ21 111 (Int32.toNatClampNeg u1_)), .int u1_, .ref (ad g 111)] σ21 := by
      intro s22 hr
      replace hr := (congrFun ej157 s22).symm.trans hr
      refine r_ior (pc := 157) dX8_lay_157 ?_
      refine x_iast (pc := 158) (j := (Int32.toNatClampNeg u1_)) rfl h15 rfl dX8_lay_158 fun σ23 eσ23 => ?_
      replace hr := vthen_inv hr σ23 eσ23
      have hσ23 := wtI eσ23 hσ21
      refine r_aload_n (pc := 159) (j := 0) dX8_lay_159 rfl rfl ?_
      refine gf8_63 (pc := 160) tw_5_157 hσ23 dX8_lay_160 ?_
      refine r_bipush (pc := 163) (v := (12 : Int32)) dX8_lay_163 rfl ?_
      refine r_iload_n (pc := 165) (j := 1) dX8_lay_165 rfl rfl ?_
      refine r_imul (pc := 166) dX8_lay_166 ?_
      refine r_iload_n (pc := 167) (j := 2) dX8_lay_167 rfl rfl ?_
      refine r_iadd (pc := 168) dX8_lay_168 ?_
      refine r_aload_n (pc := 169) (j := 0) dX8_lay_169 rfl rfl ?_
      refine gf8_55 (pc := 170) tw_5_149 rfl dX8_lay_170 ?_
      obtain ⟨h24, hr⟩ := grd_inv hr
      refine x_iast (pc := 173) (j := (Int32.toNatClampNeg (((12 : Int32) * u1_) + v2_))) rfl h24 rfl dX8_lay_173 fun σ25 eσ25 => ?_
      replace hr := vthen_inv hr σ25 eσ25
      have hσ25 := wtI eσ25 hσ23
      refine r_iinc (pc := 174) (j := 2) (v := (v2_ + (1 : Int32))) (ls1 := [(2, .int (v2_ + (1 : Int32))), (0, .ref (ad g 73)), (1, .int u1_)]) dX8_lay_174 rfl rfl (nle rfl) rfl ?_
      refine r_goto (pc := 177) (tgt := 66) dX8_lay_177 rfl ?_
      exact r_pick (ls1 := [(0, .ref (ad g 73)), (1, .int u1_), (2, .int (v2_ + (1 : Int32)))]) [1, 2, 0] rfl (ih (v2_ + (1 : Int32)) σ25 hr hσ25)
    refine r_icmp_ne (pc := 147) (tgt := 156) dX8_lay_147 rfl (fun hc => ?_) (fun hc => ?_)
    · replace hr := ite_f hc hr
      refine r_iconst (pc := 156) (v := (0 : Int32)) dX8_lay_156 rfl ?_
      exact r_pick (ls1 := [(0, .ref (ad g 73)), (1, .int u1_), (2, .int v2_)]) [0, 1, 2] rfl (hj157 (0 : Int32) hr)
    replace hr := ite_t hc hr
    refine r_iconst (pc := 150) (v := (1 : Int32)) dX8_lay_150 rfl ?_
    refine r_iload_n (pc := 151) (j := 2) dX8_lay_151 rfl rfl ?_
    refine r_ishl (pc := 152) dX8_lay_152 ?_
    refine r_goto (pc := 153) (tgt := 157) dX8_lay_153 rfl ?_
    exact r_pick (ls1 := [(0, .ref (ad g 73)), (1, .int u1_), (2, .int v2_)]) [0, 1, 2] rfl (hj157 ((1 : Int32) <<< (v2_ &&& 31)) hr)
  refine r_icmp_ne (pc := 119) (tgt := 128) dX8_lay_119 rfl (fun hc => ?_) (fun hc => ?_)
  · replace hr := ite_f hc hr
    refine r_iconst (pc := 128) (v := (0 : Int32)) dX8_lay_128 rfl ?_
    exact r_pick (ls1 := [(0, .ref (ad g 73)), (1, .int u1_), (2, .int v2_)]) [0, 1, 2] rfl (hj129 (0 : Int32) hr)
  replace hr := ite_t hc hr
  refine r_iconst (pc := 122) (v := (1 : Int32)) dX8_lay_122 rfl ?_
  refine r_iload_n (pc := 123) (j := 2) dX8_lay_123 rfl rfl ?_
  refine r_ishl (pc := 124) dX8_lay_124 ?_
  refine r_goto (pc := 125) (tgt := 129) dX8_lay_125 rfl ?_
  exact r_pick (ls1 := [(0, .ref (ad g 73)), (1, .int u1_), (2, .int v2_)]) [0, 1, 2] rfl (hj129 ((1 : Int32) <<< (v2_ &&& 31)) hr)

set_option maxRecDepth 20000 in
theorem sX8_lay {g : GG} {σ : SS}  {r : Int32 × SS} (hr : fX8_lay σ = some r)  : Ct g mX8_lay [.ref (ad g 73)] NF σ (some (.int r.1)) NF r.2 := by
  refine Ct.of (by decide +kernel) (nle rfl) fun hw0 => ?_
  have hw := hw0 rfl
  unfold fX8_lay at hr
  change RR g mX8_lay (FinR g mX8_lay (some (.int r.1)) NF r.2) zF 0 [(0, .ref (ad g 73))] [] σ
  refine r_aload_n (pc := 0) (j := 0) dX8_lay_0 rfl rfl ?_
  refine gf8_12 (pc := 1) tw_5_106 rfl dX8_lay_1 ?_
  refine r_if_ne (pc := 4) (tgt := 9) dX8_lay_4 rfl (fun hc => ?_) (fun hc => ?_)
  · replace hr := ite_f hc hr
    refine r_aload_n (pc := 9) (j := 0) dX8_lay_9 rfl rfl ?_
    obtain ⟨b2, σ4, eσ4, hr⟩ := bnd_inv hr
    refine kX8_finds (pc := 10) eσ4 tw_7_94 ⟨nle rfl, nle rfl⟩ (nle rfl) dX8_lay_10 fun hσ4 => ?_
    refine r_ifB_ne (pc := 13) (tgt := 19) dX8_lay_13 rfl (fun hc => ?_) (fun hc => ?_)
    · replace hr := ite_t hc hr
      refine r_aload_n (pc := 19) (j := 0) dX8_lay_19 rfl rfl ?_
      refine gf8_65 (pc := 20) tw_5_159 rfl dX8_lay_20 ?_
      refine r_bipush (pc := 23) (v := (16 : Int32)) dX8_lay_23 rfl ?_
      refine r_icmp_ne (pc := 25) (tgt := 31) dX8_lay_25 rfl (fun hc => ?_) (fun hc => ?_)
      · replace hr := ite_f hc hr
        refine r_aload_n (pc := 31) (j := 0) dX8_lay_31 rfl rfl ?_
        refine gf8_65 (pc := 32) tw_5_159 rfl dX8_lay_32 ?_
        refine r_topi fun v5 ev5 => ?_
        replace hr := vthen_inv hr v5 ev5
        refine r_istore_n (pc := 35) (ls1 := [(1, .int v5), (0, .ref (ad g 73))]) dX8_lay_35 rfl (nle rfl) rfl ?_
        refine r_aload_n (pc := 36) (j := 1) dX8_lay_36 rfl rfl ?_
        refine r_iload_n (pc := 37) (j := 0) dX8_lay_37 rfl rfl ?_
        refine r_iconst (pc := 38) (v := (1 : Int32)) dX8_lay_38 rfl ?_
        refine r_iadd (pc := 39) dX8_lay_39 ?_
        refine pf8_65 (pc := 40) tw_5_159 rfl dX8_lay_40 fun σ6 eσ6 => ?_
        replace hr := vthen_inv hr σ6 eσ6
        have hσ6 := wtI eσ6 hσ4
        refine r_aload_n (pc := 43) (j := 1) dX8_lay_43 rfl rfl ?_
        refine gf8_60 (pc := 44) tw_5_154 hσ6 dX8_lay_44 ?_
        refine r_iload_n (pc := 47) (j := 0) dX8_lay_47 rfl rfl ?_
        refine r_iconst (pc := 48) (v := (0 : Int32)) dX8_lay_48 rfl ?_
        obtain ⟨h7, hr⟩ := grd_inv hr
        refine x_iast (pc := 49) (j := (Int32.toNatClampNeg v5)) rfl h7 rfl dX8_lay_49 fun σ8 eσ8 => ?_
        replace hr := vthen_inv hr σ8 eσ8
        have hσ8 := wtI eσ8 hσ6
        refine r_aload_n (pc := 50) (j := 1) dX8_lay_50 rfl rfl ?_
        refine gf8_61 (pc := 51) tw_5_155 hσ8 dX8_lay_51 ?_
        refine r_iload_n (pc := 54) (j := 0) dX8_lay_54 rfl rfl ?_
        refine r_iconst (pc := 55) (v := (0 : Int32)) dX8_lay_55 rfl ?_
        refine x_iast (pc := 56) (j := (Int32.toNatClampNeg v5)) rfl h7 rfl dX8_lay_56 fun σ9 eσ9 => ?_
        replace hr := vthen_inv hr σ9 eσ9
        have hσ9 := wtI eσ9 hσ8
        refine r_aload_n (pc := 57) (j := 1) dX8_lay_57 rfl rfl ?_
        refine gf8_62 (pc := 58) tw_5_156 hσ9 dX8_lay_58 ?_
        refine r_iload_n (pc := 61) (j := 0) dX8_lay_61 rfl rfl ?_
        refine r_iconst (pc := 62) (v := (0 : Int32)) dX8_lay_62 rfl ?_
        refine x_iast (pc := 63) (j := (Int32.toNatClampNeg v5)) rfl h7 rfl dX8_lay_63 fun σ10 eσ10 => ?_
        replace hr := vthen_inv hr σ10 eσ10
        have hσ10 := wtI eσ10 hσ9
        refine r_iconst (pc := 64) (v := (0 : Int32)) dX8_lay_64 rfl ?_
        refine r_istore_n (pc := 65) (ls1 := [(2, .int (0 : Int32)), (1, .int v5), (0, .ref (ad g 73))]) dX8_lay_65 rfl (nle rfl) rfl ?_
        refine r_pick (ls1 := [(0, .ref (ad g 73)), (1, .int v5), (2, .int (0 : Int32))]) [2, 1, 0] rfl ?_
        refine sX8_lay_L66     fuel (0 : Int32) σ10 hr hσ10
      replace hr := ite_t hc hr
      refine r_bipush (pc := 28) (v := (-3 : Int32)) dX8_lay_28 rfl ?_
      exact l_osi hr (r_iret (pc := 30) (v := (-3 : Int32)) rfl rfl ⟨Nat.le_refl _, Nat.le_refl _⟩ dX8_lay_30)
    replace hr := ite_f hc hr
    refine r_bipush (pc := 16) (v := (-2 : Int32)) dX8_lay_16 rfl ?_
    exact l_osi hr (r_iret (pc := 18) (v := (-2 : Int32)) rfl rfl ⟨Nat.le_refl _, Nat.le_refl _⟩ dX8_lay_18)
  replace hr := ite_t hc hr
  refine r_iconst (pc := 7) (v := (-1 : Int32)) dX8_lay_7 rfl ?_
  exact l_osi hr (r_iret (pc := 8) (v := (-1 : Int32)) rfl rfl ⟨Nat.le_refl _, Nat.le_refl _⟩ dX8_lay_8)

theorem kX8_lay {g : GG} {σ : SS}  {v : Int32} {σ2 : SS} {M : MM} {F : State → Array Value → List Frame → State → Prop} {pc index : Nat} {ls : List (Nat × Value)} {rest : List Value} (hf : fX8_lay σ = some (v, σ2))  (hl : Cond.methodLink M.1.cls index yX8_lay ∈ lw_gt) (hR : mX8_lay.2.2.2.2.frames + 1 ≤ M.2.2.2.2.frames ∧ 8 + (mX8_lay.2.2.1 + 11) + mX8_lay.2.2.2.2.locals ≤ M.2.2.2.2.locals) (hrest : (rest.map fun v => v.category).sum ≤ 8) (hd : decode M.2.1 pc = .ok (.invokevirtual index, 3)) (k : WT σ2 → RR g M F zF (pc + 3) ls (.int v :: rest) σ2) : RR g M F zF pc ls (.ref (ad g 73) :: rest) σ :=
  r_callV (z := zF) (N := mX8_lay) (nn := 0) (o1 := some (.int v)) (sX8_lay hf ) (rfl : shp 73 = (8, 0)) (by decide) (shp_le (rfl : shp 73 = (8, 0)) (nle rfl)) (ci := 8) rfl rfl tw_7_182 tw_1_10 hl tw_7_180 tw_7_181 ⟨by decide, by decide, rfl⟩ hR rfl hrest hd ⟨Nat.zero_le _, Nat.zero_le _⟩ rfl (fun h => k (h rfl))

theorem dX4_hasSheet_0 : decode cX4_hasSheet 0 = .ok (.iload_n 1, 1) := by decide +kernel
theorem dX4_hasSheet_1 : decode cX4_hasSheet 1 = .ok (.ifCond .lt 15, 3) := by decide +kernel
theorem dX4_hasSheet_4 : decode cX4_hasSheet 4 = .ok (.iload_n 1, 1) := by decide +kernel
theorem dX4_hasSheet_5 : decode cX4_hasSheet 5 = .ok (.aload_n 0, 1) := by decide +kernel
theorem dX4_hasSheet_6 : decode cX4_hasSheet 6 = .ok (.getfield 27, 3) := by decide +kernel
theorem dX4_hasSheet_9 : decode cX4_hasSheet 9 = .ok (.if_icmp .ge 7, 3) := by decide +kernel
theorem dX4_hasSheet_12 : decode cX4_hasSheet 12 = .ok (.iconst 1, 1) := by decide +kernel
theorem dX4_hasSheet_13 : decode cX4_hasSheet 13 = .ok (.goto 4, 3) := by decide +kernel
theorem dX4_hasSheet_16 : decode cX4_hasSheet 16 = .ok (.iconst 0, 1) := by decide +kernel
theorem dX4_hasSheet_17 : decode cX4_hasSheet 17 = .ok (.ireturn, 1) := by decide +kernel
def mX4_hasSheet : MM := (yX4_hasSheet, cX4_hasSheet, 2, Option.some Jvm.ClassFile.FieldType.boolean, { frames := 0, cells := 0, slots := 0, locals := 0 })
def fX4_hasSheet (σ0 : SS) (a1 : Int32) : Bool :=
  vthen (fun (_u : Unit) =>
    false
    ) fun j16 =>
  if a1 < 0 then (
    j16 ()
    ) else (
    if (gI σ0 58 0) ≤ a1 then (
      j16 ()
      ) else (
      true
      )
    )

set_option maxRecDepth 20000 in
theorem sX4_hasSheet {g : GG} {σ0 : SS} {a1 : Int32} {r : Bool} (hr : fX4_hasSheet σ0 a1 = r)  : Ct g mX4_hasSheet [.ref (ad g 58), .int a1] NF σ0 (some (.int (b2i r))) NF σ0 := by
  refine Ct.of (by decide +kernel) (nle rfl) fun hw0 => ?_
  have hw := hw0 rfl
  unfold fX4_hasSheet at hr
  change RR g mX4_hasSheet (FinR g mX4_hasSheet (some (.int (b2i r))) NF σ0) zF 0 [(0, .ref (ad g 58)), (1, .int a1)] [] σ0
  refine r_iload_n (pc := 0) (j := 1) dX4_hasSheet_0 rfl rfl ?_
  obtain ⟨j16, ej16, hr⟩ := vth_ex hr
  have hj16 : j16 () = r → RR g mX4_hasSheet (FinR g mX4_hasSheet (some (.int (b2i r))) NF σ0) zF 16 [] [] σ0 := by
    intro  hr
    replace hr := (congrFun ej16 ()).symm.trans hr
    refine r_iconst (pc := 16) (v := (0 : Int32)) dX4_hasSheet_16 rfl ?_
    exact l_pz hr (r_zret (pc := 17) (v := b2i false) (ty := .boolean) rfl (b2i_nar _) rfl ⟨Nat.le_refl _, Nat.le_refl _⟩ dX4_hasSheet_17)
  refine r_if_lt (pc := 1) (tgt := 16) dX4_hasSheet_1 rfl (fun hc => ?_) (fun hc => ?_)
  · replace hr := ite_t hc hr
    exact r_pick (ls1 := []) [] rfl (hj16  hr)
  replace hr := ite_f hc hr
  refine r_iload_n (pc := 4) (j := 1) dX4_hasSheet_4 rfl rfl ?_
  refine r_aload_n (pc := 5) (j := 0) dX4_hasSheet_5 rfl rfl ?_
  refine gf4_0 (pc := 6) tw_2_78 rfl dX4_hasSheet_6 ?_
  refine r_icmp_ge (pc := 9) (tgt := 16) dX4_hasSheet_9 rfl (fun hc => ?_) (fun hc => ?_)
  · replace hr := ite_t hc hr
    exact r_pick (ls1 := []) [] rfl (hj16  hr)
  replace hr := ite_f hc hr
  refine r_iconst (pc := 12) (v := (1 : Int32)) dX4_hasSheet_12 rfl ?_
  refine r_goto (pc := 13) (tgt := 17) dX4_hasSheet_13 rfl ?_
  exact l_pz hr (r_zret (pc := 17) (v := b2i true) (ty := .boolean) rfl (b2i_nar _) rfl ⟨Nat.le_refl _, Nat.le_refl _⟩ dX4_hasSheet_17)

theorem kX4_hasSheet {g : GG} {σ0 : SS} {a1 : Int32} {v : Bool} {M : MM} {F : State → Array Value → List Frame → State → Prop} {pc index : Nat} {ls : List (Nat × Value)} {rest : List Value} (hf : fX4_hasSheet σ0 a1 = v)  (hl : Cond.methodLink M.1.cls index yX4_hasSheet ∈ lw_gt) (hR : mX4_hasSheet.2.2.2.2.frames + 1 ≤ M.2.2.2.2.frames ∧ 8 + (mX4_hasSheet.2.2.1 + 11) + mX4_hasSheet.2.2.2.2.locals ≤ M.2.2.2.2.locals) (hrest : (rest.map fun v => v.category).sum ≤ 8) (hd : decode M.2.1 pc = .ok (.invokevirtual index, 3)) (k : RR g M F zF (pc + 3) ls (.int (b2i v) :: rest) σ0) : RR g M F zF pc ls (.int a1 :: .ref (ad g 58) :: rest) σ0 :=
  r_callV (z := zF) (N := mX4_hasSheet) (nn := 1) (o1 := some (.int (b2i v))) (sX4_hasSheet hf ) (rfl : shp 58 = (4, 0)) (by decide) (shp_le (rfl : shp 58 = (4, 0)) (nle rfl)) (ci := 4) rfl rfl tw_5_20 tw_1_8 hl tw_5_18 tw_5_19 ⟨by decide, by decide, rfl⟩ hR rfl hrest hd ⟨Nat.zero_le _, Nat.zero_le _⟩ rfl (fun h => k)

theorem dX4_rankOf_0 : decode cX4_rankOf 0 = .ok (.iconst 1, 1) := by decide +kernel
theorem dX4_rankOf_1 : decode cX4_rankOf 1 = .ok (.istore_n 2, 1) := by decide +kernel
theorem dX4_rankOf_2 : decode cX4_rankOf 2 = .ok (.iconst 0, 1) := by decide +kernel
theorem dX4_rankOf_3 : decode cX4_rankOf 3 = .ok (.istore_n 3, 1) := by decide +kernel
theorem dX4_rankOf_4 : decode cX4_rankOf 4 = .ok (.iload_n 3, 1) := by decide +kernel
theorem dX4_rankOf_5 : decode cX4_rankOf 5 = .ok (.aload_n 0, 1) := by decide +kernel
theorem dX4_rankOf_6 : decode cX4_rankOf 6 = .ok (.getfield 27, 3) := by decide +kernel
theorem dX4_rankOf_9 : decode cX4_rankOf 9 = .ok (.if_icmp .ge 27, 3) := by decide +kernel
theorem dX4_rankOf_12 : decode cX4_rankOf 12 = .ok (.aload_n 0, 1) := by decide +kernel
theorem dX4_rankOf_13 : decode cX4_rankOf 13 = .ok (.getfield 9, 3) := by decide +kernel
theorem dX4_rankOf_16 : decode cX4_rankOf 16 = .ok (.iload_n 3, 1) := by decide +kernel
theorem dX4_rankOf_17 : decode cX4_rankOf 17 = .ok (.iaload, 1) := by decide +kernel
theorem dX4_rankOf_18 : decode cX4_rankOf 18 = .ok (.aload_n 0, 1) := by decide +kernel
theorem dX4_rankOf_19 : decode cX4_rankOf 19 = .ok (.getfield 9, 3) := by decide +kernel
theorem dX4_rankOf_22 : decode cX4_rankOf 22 = .ok (.iload_n 1, 1) := by decide +kernel
theorem dX4_rankOf_23 : decode cX4_rankOf 23 = .ok (.iaload, 1) := by decide +kernel
theorem dX4_rankOf_24 : decode cX4_rankOf 24 = .ok (.if_icmp .le 6, 3) := by decide +kernel
theorem dX4_rankOf_27 : decode cX4_rankOf 27 = .ok (.iinc 2 1, 3) := by decide +kernel
theorem dX4_rankOf_30 : decode cX4_rankOf 30 = .ok (.iinc 3 1, 3) := by decide +kernel
theorem dX4_rankOf_33 : decode cX4_rankOf 33 = .ok (.goto (-29), 3) := by decide +kernel
theorem dX4_rankOf_36 : decode cX4_rankOf 36 = .ok (.iload_n 2, 1) := by decide +kernel
theorem dX4_rankOf_37 : decode cX4_rankOf 37 = .ok (.ireturn, 1) := by decide +kernel
def mX4_rankOf : MM := (yX4_rankOf, cX4_rankOf, 4, Option.some Jvm.ClassFile.FieldType.int, { frames := 0, cells := 0, slots := 0, locals := 0 })
def X4_rankOf_L4 (σ_ : SS) (u1_ : Int32)  : Nat → Int32 → Int32 → Option Int32 :=
  lp (fun _ _ => none) fun rec v2_ v3_ =>
    if (gI σ_ 58 0) ≤ v3_ then (
      some v2_
      ) else (
      grd (inb v3_ 16) <|
      grd (inb u1_ 16) <|
      if (gI σ_ 59 (Int32.toNatClampNeg v3_)) ≤ (gI σ_ 59 (Int32.toNatClampNeg u1_)) then (
        rec v2_ (v3_ + (1 : Int32))
        ) else (
        rec (v2_ + (1 : Int32)) (v3_ + (1 : Int32))
        )
      )

def fX4_rankOf (σ0 : SS) (a1 : Int32) : Option Int32 :=
  X4_rankOf_L4 σ0 a1
  fuel (1 : Int32) (0 : Int32)

set_option maxRecDepth 20000 in
theorem sX4_rankOf_L4 {g : GG} {r : Int32} {σ_ : SS} {σ0 : SS} {u1_ : Int32}  
    (hw_ : WT σ_)
    (h0_ : σ_ = σ0)
    (n : Nat) : ∀ (v2_ : Int32) (v3_ : Int32), X4_rankOf_L4 σ_ u1_ n v2_ v3_ = some r → RR g mX4_rankOf (FinR g mX4_rankOf (some (.int r)) NF σ0) zF 4 [(0, .ref (ad g 58)), (1, .int u1_), (2, .int v2_), (3, .int v3_)] [] σ_ := by
  unfold X4_rankOf_L4
  refine lp_ind (P := fun (rec : Int32 → Int32 → Option Int32) => ∀ (v2_ : Int32) (v3_ : Int32), rec v2_ v3_ = some r → RR g mX4_rankOf (FinR g mX4_rankOf (some (.int r)) NF σ0) zF 4 [(0, .ref (ad g 58)), (1, .int u1_), (2, .int v2_), (3, .int v3_)] [] σ_) ?_ ?_ n
  · intro v2_ v3_ hr; cases hr
  intro rec ih v2_ v3_ hr
  subst h0_
  refine r_iload_n (pc := 4) (j := 3) dX4_rankOf_4 rfl rfl ?_
  refine r_aload_n (pc := 5) (j := 0) dX4_rankOf_5 rfl rfl ?_
  refine gf4_0 (pc := 6) tw_2_78 rfl dX4_rankOf_6 ?_
  refine r_icmp_ge (pc := 9) (tgt := 36) dX4_rankOf_9 rfl (fun hc => ?_) (fun hc => ?_)
  · replace hr := ite_t hc hr
    refine r_iload_n (pc := 36) (j := 2) dX4_rankOf_36 rfl rfl ?_
    exact l_opi hr (r_iret (pc := 37) (v := v2_) rfl rfl ⟨Nat.le_refl _, Nat.le_refl _⟩ dX4_rankOf_37)
  replace hr := ite_f hc hr
  refine r_aload_n (pc := 12) (j := 0) dX4_rankOf_12 rfl rfl ?_
  refine gf4_1 (pc := 13) tw_2_80 hw_ dX4_rankOf_13 ?_
  refine r_iload_n (pc := 16) (j := 3) dX4_rankOf_16 rfl rfl ?_
  obtain ⟨h1, hr⟩ := grd_inv hr
  refine x_iald (pc := 17) (k := (Int32.toNatClampNeg v3_)) rfl h1 rfl dX4_rankOf_17 ?_
  refine r_aload_n (pc := 18) (j := 0) dX4_rankOf_18 rfl rfl ?_
  refine gf4_1 (pc := 19) tw_2_80 hw_ dX4_rankOf_19 ?_
  refine r_iload_n (pc := 22) (j := 1) dX4_rankOf_22 rfl rfl ?_
  obtain ⟨h2, hr⟩ := grd_inv hr
  refine x_iald (pc := 23) (k := (Int32.toNatClampNeg u1_)) rfl h2 rfl dX4_rankOf_23 ?_
  refine r_icmp_le (pc := 24) (tgt := 30) dX4_rankOf_24 rfl (fun hc => ?_) (fun hc => ?_)
  · replace hr := ite_t hc hr
    refine r_iinc (pc := 30) (j := 3) (v := (v3_ + (1 : Int32))) (ls1 := [(3, .int (v3_ + (1 : Int32))), (0, .ref (ad g 58)), (1, .int u1_), (2, .int v2_)]) dX4_rankOf_30 rfl rfl (nle rfl) rfl ?_
    refine r_goto (pc := 33) (tgt := 4) dX4_rankOf_33 rfl ?_
    exact r_pick (ls1 := [(0, .ref (ad g 58)), (1, .int u1_), (2, .int v2_), (3, .int (v3_ + (1 : Int32)))]) [1, 2, 3, 0] rfl (ih v2_ (v3_ + (1 : Int32)) hr)
  replace hr := ite_f hc hr
  refine r_iinc (pc := 27) (j := 2) (v := (v2_ + (1 : Int32))) (ls1 := [(2, .int (v2_ + (1 : Int32))), (0, .ref (ad g 58)), (1, .int u1_), (3, .int v3_)]) dX4_rankOf_27 rfl rfl (nle rfl) rfl ?_
  refine r_iinc (pc := 30) (j := 3) (v := (v3_ + (1 : Int32))) (ls1 := [(3, .int (v3_ + (1 : Int32))), (2, .int (v2_ + (1 : Int32))), (0, .ref (ad g 58)), (1, .int u1_)]) dX4_rankOf_30 rfl rfl (nle rfl) rfl ?_
  refine r_goto (pc := 33) (tgt := 4) dX4_rankOf_33 rfl ?_
  exact r_pick (ls1 := [(0, .ref (ad g 58)), (1, .int u1_), (2, .int (v2_ + (1 : Int32))), (3, .int (v3_ + (1 : Int32)))]) [2, 3, 1, 0] rfl (ih (v2_ + (1 : Int32)) (v3_ + (1 : Int32)) hr)

set_option maxRecDepth 20000 in
theorem sX4_rankOf {g : GG} {σ0 : SS} {a1 : Int32} {r : Int32} (hr : fX4_rankOf σ0 a1 = some r)  : Ct g mX4_rankOf [.ref (ad g 58), .int a1] NF σ0 (some (.int r)) NF σ0 := by
  refine Ct.of (by decide +kernel) (nle rfl) fun hw0 => ?_
  have hw := hw0 rfl
  unfold fX4_rankOf at hr
  change RR g mX4_rankOf (FinR g mX4_rankOf (some (.int r)) NF σ0) zF 0 [(0, .ref (ad g 58)), (1, .int a1)] [] σ0
  refine r_iconst (pc := 0) (v := (1 : Int32)) dX4_rankOf_0 rfl ?_
  refine r_istore_n (pc := 1) (ls1 := [(2, .int (1 : Int32)), (0, .ref (ad g 58)), (1, .int a1)]) dX4_rankOf_1 rfl (nle rfl) rfl ?_
  refine r_iconst (pc := 2) (v := (0 : Int32)) dX4_rankOf_2 rfl ?_
  refine r_istore_n (pc := 3) (ls1 := [(3, .int (0 : Int32)), (2, .int (1 : Int32)), (0, .ref (ad g 58)), (1, .int a1)]) dX4_rankOf_3 rfl (nle rfl) rfl ?_
  refine r_pick (ls1 := [(0, .ref (ad g 58)), (1, .int a1), (2, .int (1 : Int32)), (3, .int (0 : Int32))]) [2, 3, 1, 0] rfl ?_
  refine sX4_rankOf_L4  hw rfl  fuel (1 : Int32) (0 : Int32) hr

theorem kX4_rankOf {g : GG} {σ0 : SS} {a1 : Int32} {v : Int32} {M : MM} {F : State → Array Value → List Frame → State → Prop} {pc index : Nat} {ls : List (Nat × Value)} {rest : List Value} (hf : fX4_rankOf σ0 a1 = some v)  (hl : Cond.methodLink M.1.cls index yX4_rankOf ∈ lw_gt) (hR : mX4_rankOf.2.2.2.2.frames + 1 ≤ M.2.2.2.2.frames ∧ 8 + (mX4_rankOf.2.2.1 + 11) + mX4_rankOf.2.2.2.2.locals ≤ M.2.2.2.2.locals) (hrest : (rest.map fun v => v.category).sum ≤ 8) (hd : decode M.2.1 pc = .ok (.invokevirtual index, 3)) (k : RR g M F zF (pc + 3) ls (.int v :: rest) σ0) : RR g M F zF pc ls (.int a1 :: .ref (ad g 58) :: rest) σ0 :=
  r_callV (z := zF) (N := mX4_rankOf) (nn := 1) (o1 := some (.int v)) (sX4_rankOf hf ) (rfl : shp 58 = (4, 0)) (by decide) (shp_le (rfl : shp 58 = (4, 0)) (nle rfl)) (ci := 4) rfl rfl tw_5_24 tw_1_8 hl tw_5_22 tw_5_23 ⟨by decide, by decide, rfl⟩ hR rfl hrest hd ⟨Nat.zero_le _, Nat.zero_le _⟩ rfl (fun h => k)

theorem dX4_answer_0 : decode cX4_answer 0 = .ok (.aload_n 0, 1) := by decide +kernel
theorem dX4_answer_1 : decode cX4_answer 1 = .ok (.getfield 21, 3) := by decide +kernel
theorem dX4_answer_4 : decode cX4_answer 4 = .ok (.iload_n 1, 1) := by decide +kernel
theorem dX4_answer_5 : decode cX4_answer 5 = .ok (.bipush 12, 2) := by decide +kernel
theorem dX4_answer_7 : decode cX4_answer 7 = .ok (.imul, 1) := by decide +kernel
theorem dX4_answer_8 : decode cX4_answer 8 = .ok (.iload_n 2, 1) := by decide +kernel
theorem dX4_answer_9 : decode cX4_answer 9 = .ok (.iadd, 1) := by decide +kernel
theorem dX4_answer_10 : decode cX4_answer 10 = .ok (.iaload, 1) := by decide +kernel
theorem dX4_answer_11 : decode cX4_answer 11 = .ok (.ireturn, 1) := by decide +kernel
def mX4_answer : MM := (yX4_answer, cX4_answer, 3, Option.some Jvm.ClassFile.FieldType.int, { frames := 0, cells := 0, slots := 0, locals := 0 })
def fX4_answer (σ0 : SS) (a1 : Int32) (a2 : Int32) : Option Int32 :=
  grd (inb ((a1 * (12 : Int32)) + a2) 192) <|
  some (gI σ0 62 (Int32.toNatClampNeg ((a1 * (12 : Int32)) + a2)))

set_option maxRecDepth 20000 in
theorem sX4_answer {g : GG} {σ0 : SS} {a1 : Int32} {a2 : Int32} {r : Int32} (hr : fX4_answer σ0 a1 a2 = some r)  : Ct g mX4_answer [.ref (ad g 58), .int a1, .int a2] NF σ0 (some (.int r)) NF σ0 := by
  refine Ct.of (by decide +kernel) (nle rfl) fun hw0 => ?_
  have hw := hw0 rfl
  unfold fX4_answer at hr
  change RR g mX4_answer (FinR g mX4_answer (some (.int r)) NF σ0) zF 0 [(0, .ref (ad g 58)), (1, .int a1), (2, .int a2)] [] σ0
  refine r_aload_n (pc := 0) (j := 0) dX4_answer_0 rfl rfl ?_
  refine gf4_4 (pc := 1) tw_2_86 hw dX4_answer_1 ?_
  refine r_iload_n (pc := 4) (j := 1) dX4_answer_4 rfl rfl ?_
  refine r_bipush (pc := 5) (v := (12 : Int32)) dX4_answer_5 rfl ?_
  refine r_imul (pc := 7) dX4_answer_7 ?_
  refine r_iload_n (pc := 8) (j := 2) dX4_answer_8 rfl rfl ?_
  refine r_iadd (pc := 9) dX4_answer_9 ?_
  obtain ⟨h1, hr⟩ := grd_inv hr
  refine x_iald (pc := 10) (k := (Int32.toNatClampNeg ((a1 * (12 : Int32)) + a2))) rfl h1 rfl dX4_answer_10 ?_
  exact l_opi hr (r_iret (pc := 11) (v := (gI σ0 62 (Int32.toNatClampNeg ((a1 * (12 : Int32)) + a2)))) rfl rfl ⟨Nat.le_refl _, Nat.le_refl _⟩ dX4_answer_11)

theorem kX4_answer {g : GG} {σ0 : SS} {a1 : Int32} {a2 : Int32} {v : Int32} {M : MM} {F : State → Array Value → List Frame → State → Prop} {pc index : Nat} {ls : List (Nat × Value)} {rest : List Value} (hf : fX4_answer σ0 a1 a2 = some v)  (hl : Cond.methodLink M.1.cls index yX4_answer ∈ lw_gt) (hR : mX4_answer.2.2.2.2.frames + 1 ≤ M.2.2.2.2.frames ∧ 8 + (mX4_answer.2.2.1 + 11) + mX4_answer.2.2.2.2.locals ≤ M.2.2.2.2.locals) (hrest : (rest.map fun v => v.category).sum ≤ 8) (hd : decode M.2.1 pc = .ok (.invokevirtual index, 3)) (k : RR g M F zF (pc + 3) ls (.int v :: rest) σ0) : RR g M F zF pc ls (.int a2 :: .int a1 :: .ref (ad g 58) :: rest) σ0 :=
  r_callV (z := zF) (N := mX4_answer) (nn := 2) (o1 := some (.int v)) (sX4_answer hf ) (rfl : shp 58 = (4, 0)) (by decide) (shp_le (rfl : shp 58 = (4, 0)) (nle rfl)) (ci := 4) rfl rfl tw_5_28 tw_1_8 hl tw_5_26 tw_5_27 ⟨by decide, by decide, rfl⟩ hR rfl hrest hd ⟨Nat.zero_le _, Nat.zero_le _⟩ rfl (fun h => k)

theorem dX7_laid_0 : decode cX7_laid 0 = .ok (.aload_n 0, 1) := by decide +kernel
theorem dX7_laid_1 : decode cX7_laid 1 = .ok (.getfield 69, 3) := by decide +kernel
theorem dX7_laid_4 : decode cX7_laid 4 = .ok (.iload_n 1, 1) := by decide +kernel
theorem dX7_laid_5 : decode cX7_laid 5 = .ok (.invokevirtual 364, 3) := by decide +kernel
theorem dX7_laid_8 : decode cX7_laid 8 = .ok (.ifCond .ne 7, 3) := by decide +kernel
theorem dX7_laid_11 : decode cX7_laid 11 = .ok (.ldc_w 302, 3) := by decide +kernel
theorem dX7_laid_14 : decode cX7_laid 14 = .ok (.ireturn, 1) := by decide +kernel
theorem dX7_laid_15 : decode cX7_laid 15 = .ok (.iload_n 2, 1) := by decide +kernel
theorem dX7_laid_16 : decode cX7_laid 16 = .ok (.tableswitch 71 0 3 #[32, 42, 52, 62], 32) := by decide +kernel
theorem dX7_laid_48 : decode cX7_laid 48 = .ok (.aload_n 0, 1) := by decide +kernel
theorem dX7_laid_49 : decode cX7_laid 49 = .ok (.getfield 69, 3) := by decide +kernel
theorem dX7_laid_52 : decode cX7_laid 52 = .ok (.getfield 367, 3) := by decide +kernel
theorem dX7_laid_55 : decode cX7_laid 55 = .ok (.iload_n 1, 1) := by decide +kernel
theorem dX7_laid_56 : decode cX7_laid 56 = .ok (.iaload, 1) := by decide +kernel
theorem dX7_laid_57 : decode cX7_laid 57 = .ok (.ireturn, 1) := by decide +kernel
theorem dX7_laid_58 : decode cX7_laid 58 = .ok (.aload_n 0, 1) := by decide +kernel
theorem dX7_laid_59 : decode cX7_laid 59 = .ok (.getfield 69, 3) := by decide +kernel
theorem dX7_laid_62 : decode cX7_laid 62 = .ok (.getfield 368, 3) := by decide +kernel
theorem dX7_laid_65 : decode cX7_laid 65 = .ok (.iload_n 1, 1) := by decide +kernel
theorem dX7_laid_66 : decode cX7_laid 66 = .ok (.iaload, 1) := by decide +kernel
theorem dX7_laid_67 : decode cX7_laid 67 = .ok (.ireturn, 1) := by decide +kernel
theorem dX7_laid_68 : decode cX7_laid 68 = .ok (.aload_n 0, 1) := by decide +kernel
theorem dX7_laid_69 : decode cX7_laid 69 = .ok (.getfield 69, 3) := by decide +kernel
theorem dX7_laid_72 : decode cX7_laid 72 = .ok (.getfield 371, 3) := by decide +kernel
theorem dX7_laid_75 : decode cX7_laid 75 = .ok (.iload_n 1, 1) := by decide +kernel
theorem dX7_laid_76 : decode cX7_laid 76 = .ok (.iaload, 1) := by decide +kernel
theorem dX7_laid_77 : decode cX7_laid 77 = .ok (.ireturn, 1) := by decide +kernel
theorem dX7_laid_78 : decode cX7_laid 78 = .ok (.aload_n 0, 1) := by decide +kernel
theorem dX7_laid_79 : decode cX7_laid 79 = .ok (.getfield 69, 3) := by decide +kernel
theorem dX7_laid_82 : decode cX7_laid 82 = .ok (.iload_n 1, 1) := by decide +kernel
theorem dX7_laid_83 : decode cX7_laid 83 = .ok (.invokevirtual 374, 3) := by decide +kernel
theorem dX7_laid_86 : decode cX7_laid 86 = .ok (.ireturn, 1) := by decide +kernel
theorem dX7_laid_87 : decode cX7_laid 87 = .ok (.iload_n 2, 1) := by decide +kernel
theorem dX7_laid_88 : decode cX7_laid 88 = .ok (.bipush 10, 2) := by decide +kernel
theorem dX7_laid_90 : decode cX7_laid 90 = .ok (.if_icmp .lt 30, 3) := by decide +kernel
theorem dX7_laid_93 : decode cX7_laid 93 = .ok (.iload_n 2, 1) := by decide +kernel
theorem dX7_laid_94 : decode cX7_laid 94 = .ok (.bipush 10, 2) := by decide +kernel
theorem dX7_laid_96 : decode cX7_laid 96 = .ok (.aload_n 0, 1) := by decide +kernel
theorem dX7_laid_97 : decode cX7_laid 97 = .ok (.getfield 32, 3) := by decide +kernel
theorem dX7_laid_100 : decode cX7_laid 100 = .ok (.getfield 97, 3) := by decide +kernel
theorem dX7_laid_103 : decode cX7_laid 103 = .ok (.iadd, 1) := by decide +kernel
theorem dX7_laid_104 : decode cX7_laid 104 = .ok (.if_icmp .ge 16, 3) := by decide +kernel
theorem dX7_laid_107 : decode cX7_laid 107 = .ok (.aload_n 0, 1) := by decide +kernel
theorem dX7_laid_108 : decode cX7_laid 108 = .ok (.getfield 69, 3) := by decide +kernel
theorem dX7_laid_111 : decode cX7_laid 111 = .ok (.iload_n 1, 1) := by decide +kernel
theorem dX7_laid_112 : decode cX7_laid 112 = .ok (.iload_n 2, 1) := by decide +kernel
theorem dX7_laid_113 : decode cX7_laid 113 = .ok (.bipush 10, 2) := by decide +kernel
theorem dX7_laid_115 : decode cX7_laid 115 = .ok (.isub, 1) := by decide +kernel
theorem dX7_laid_116 : decode cX7_laid 116 = .ok (.invokevirtual 376, 3) := by decide +kernel
theorem dX7_laid_119 : decode cX7_laid 119 = .ok (.ireturn, 1) := by decide +kernel
theorem dX7_laid_120 : decode cX7_laid 120 = .ok (.ldc_w 302, 3) := by decide +kernel
theorem dX7_laid_123 : decode cX7_laid 123 = .ok (.ireturn, 1) := by decide +kernel
def mX7_laid : MM := (yX7_laid, cX7_laid, 3, Option.some Jvm.ClassFile.FieldType.int, { frames := 1, cells := 0, slots := 0, locals := 23 })
def fX7_laid (σ0 : SS) (a1 : Int32) (a2 : Int32) : Option Int32 :=
  if (fX4_hasSheet σ0 a1) = true then (
    if a2 = (0 : Int32) then (
      grd (inb a1 16) <|
      some (gI σ0 59 (Int32.toNatClampNeg a1))
      ) else
    if a2 = (1 : Int32) then (
      grd (inb a1 16) <|
      some (gI σ0 60 (Int32.toNatClampNeg a1))
      ) else
    if a2 = (2 : Int32) then (
      grd (inb a1 16) <|
      some (gI σ0 61 (Int32.toNatClampNeg a1))
      ) else
    if a2 = (3 : Int32) then (
      bnd1 (fX4_rankOf σ0 a1) fun v4 =>
      some v4
      ) else
    if a2 < (10 : Int32) then (
      some (-2147483648 : Int32)
      ) else (
      if ((10 : Int32) + (gI σ0 (gR σ0 1 5) 5)) ≤ a2 then (
        some (-2147483648 : Int32)
        ) else (
        bnd1 (fX4_answer σ0 a1 (a2 - (10 : Int32))) fun v7 =>
        some v7
        )
      )
    ) else (
    some (-2147483648 : Int32)
    )

set_option maxRecDepth 20000 in
theorem sX7_laid {g : GG} {σ0 : SS} {a1 : Int32} {a2 : Int32} {r : Int32} (hr : fX7_laid σ0 a1 a2 = some r)  : Ct g mX7_laid [.ref (ad g 1), .int a1, .int a2] NF σ0 (some (.int r)) NF σ0 := by
  refine Ct.of (by decide +kernel) (nle rfl) fun hw0 => ?_
  have hw := hw0 rfl
  unfold fX7_laid at hr
  change RR g mX7_laid (FinR g mX7_laid (some (.int r)) NF σ0) zF 0 [(0, .ref (ad g 1)), (1, .int a1), (2, .int a2)] [] σ0
  refine r_aload_n (pc := 0) (j := 0) dX7_laid_0 rfl rfl ?_
  refine gf7_13 (pc := 1) tw_2_122 hw dX7_laid_1 ?_
  refine r_iload_n (pc := 4) (j := 1) dX7_laid_4 rfl rfl ?_
  refine kX4_hasSheet (pc := 5) (hf := rfl) tw_5_17 ⟨nle rfl, nle rfl⟩ (nle rfl) dX7_laid_5 ?_
  refine r_ifB_ne (pc := 8) (tgt := 15) dX7_laid_8 rfl (fun hc => ?_) (fun hc => ?_)
  · replace hr := ite_t hc hr
    refine r_iload_n (pc := 15) (j := 2) dX7_laid_15 rfl rfl ?_
    by_cases hc0 : a2 = (0 : Int32)
    · replace hr := ite_t hc0 hr
      refine r_tabIn (pc := 16) (off := 32) (tgt := 48) dX7_laid_16 (by rw [hc0]; decide) (by rw [hc0]; decide) (by rw [hc0]; rfl) rfl ?_
      refine r_aload_n (pc := 48) (j := 0) dX7_laid_48 rfl rfl ?_
      refine gf7_13 (pc := 49) tw_2_122 hw dX7_laid_49 ?_
      refine gf4_1 (pc := 52) tw_2_81 hw dX7_laid_52 ?_
      refine r_iload_n (pc := 55) (j := 1) dX7_laid_55 rfl rfl ?_
      obtain ⟨h1, hr⟩ := grd_inv hr
      refine x_iald (pc := 56) (k := (Int32.toNatClampNeg a1)) rfl h1 rfl dX7_laid_56 ?_
      exact l_opi hr (r_iret (pc := 57) (v := (gI σ0 59 (Int32.toNatClampNeg a1))) rfl rfl ⟨Nat.le_refl _, Nat.le_refl _⟩ dX7_laid_57)
    replace hr := ite_f hc0 hr
    by_cases hc1 : a2 = (1 : Int32)
    · replace hr := ite_t hc1 hr
      refine r_tabIn (pc := 16) (off := 42) (tgt := 58) dX7_laid_16 (by rw [hc1]; decide) (by rw [hc1]; decide) (by rw [hc1]; rfl) rfl ?_
      refine r_aload_n (pc := 58) (j := 0) dX7_laid_58 rfl rfl ?_
      refine gf7_13 (pc := 59) tw_2_122 hw dX7_laid_59 ?_
      refine gf4_2 (pc := 62) tw_2_83 hw dX7_laid_62 ?_
      refine r_iload_n (pc := 65) (j := 1) dX7_laid_65 rfl rfl ?_
      obtain ⟨h2, hr⟩ := grd_inv hr
      refine x_iald (pc := 66) (k := (Int32.toNatClampNeg a1)) rfl h2 rfl dX7_laid_66 ?_
      exact l_opi hr (r_iret (pc := 67) (v := (gI σ0 60 (Int32.toNatClampNeg a1))) rfl rfl ⟨Nat.le_refl _, Nat.le_refl _⟩ dX7_laid_67)
    replace hr := ite_f hc1 hr
    by_cases hc2 : a2 = (2 : Int32)
    · replace hr := ite_t hc2 hr
      refine r_tabIn (pc := 16) (off := 52) (tgt := 68) dX7_laid_16 (by rw [hc2]; decide) (by rw [hc2]; decide) (by rw [hc2]; rfl) rfl ?_
      refine r_aload_n (pc := 68) (j := 0) dX7_laid_68 rfl rfl ?_
      refine gf7_13 (pc := 69) tw_2_122 hw dX7_laid_69 ?_
      refine gf4_3 (pc := 72) tw_2_85 hw dX7_laid_72 ?_
      refine r_iload_n (pc := 75) (j := 1) dX7_laid_75 rfl rfl ?_
      obtain ⟨h3, hr⟩ := grd_inv hr
      refine x_iald (pc := 76) (k := (Int32.toNatClampNeg a1)) rfl h3 rfl dX7_laid_76 ?_
      exact l_opi hr (r_iret (pc := 77) (v := (gI σ0 61 (Int32.toNatClampNeg a1))) rfl rfl ⟨Nat.le_refl _, Nat.le_refl _⟩ dX7_laid_77)
    replace hr := ite_f hc2 hr
    by_cases hc3 : a2 = (3 : Int32)
    · replace hr := ite_t hc3 hr
      refine r_tabIn (pc := 16) (off := 62) (tgt := 78) dX7_laid_16 (by rw [hc3]; decide) (by rw [hc3]; decide) (by rw [hc3]; rfl) rfl ?_
      refine r_aload_n (pc := 78) (j := 0) dX7_laid_78 rfl rfl ?_
      refine gf7_13 (pc := 79) tw_2_122 hw dX7_laid_79 ?_
      refine r_iload_n (pc := 82) (j := 1) dX7_laid_82 rfl rfl ?_
      obtain ⟨v4, hv4, hr⟩ := bnd1_inv hr
      refine kX4_rankOf (pc := 83) hv4 tw_5_21 ⟨nle rfl, nle rfl⟩ (nle rfl) dX7_laid_83 ?_
      exact l_opi hr (r_iret (pc := 86) (v := v4) rfl rfl ⟨Nat.le_refl _, Nat.le_refl _⟩ dX7_laid_86)
    replace hr := ite_f hc3 hr
    refine r_tabOut (pc := 16) (tgt := 87) dX7_laid_16 (tab_out (by decide) (by decide) fun k h1 h2 => ?_) rfl ?_
    · rcases (show k = 0 ∨ k = 1 ∨ k = 2 ∨ k = 3 by omega) with rfl | rfl | rfl | rfl
      · exact hc0
      · exact hc1
      · exact hc2
      · exact hc3
    refine r_iload_n (pc := 87) (j := 2) dX7_laid_87 rfl rfl ?_
    refine r_bipush (pc := 88) (v := (10 : Int32)) dX7_laid_88 rfl ?_
    refine r_icmp_lt (pc := 90) (tgt := 120) dX7_laid_90 rfl (fun hc => ?_) (fun hc => ?_)
    · replace hr := ite_t hc hr
      refine r_ldcw (pc := 120) (v := (-2147483648 : Int32)) dX7_laid_120 tw_4_134 ?_
      exact l_opi hr (r_iret (pc := 123) (v := (-2147483648 : Int32)) rfl rfl ⟨Nat.le_refl _, Nat.le_refl _⟩ dX7_laid_123)
    replace hr := ite_f hc hr
    refine r_iload_n (pc := 93) (j := 2) dX7_laid_93 rfl rfl ?_
    refine r_bipush (pc := 94) (v := (10 : Int32)) dX7_laid_94 rfl ?_
    refine r_aload_n (pc := 96) (j := 0) dX7_laid_96 rfl rfl ?_
    refine gf7_5 (pc := 97) tw_2_114 hw dX7_laid_97 ?_
    refine gf1_5 (pc := 100) tw_1_79 (wt_fo hw).1 dX7_laid_100 ?_
    refine r_iadd (pc := 103) dX7_laid_103 ?_
    refine r_icmp_ge (pc := 104) (tgt := 120) dX7_laid_104 rfl (fun hc => ?_) (fun hc => ?_)
    · replace hr := ite_t hc hr
      refine r_ldcw (pc := 120) (v := (-2147483648 : Int32)) dX7_laid_120 tw_4_134 ?_
      exact l_opi hr (r_iret (pc := 123) (v := (-2147483648 : Int32)) rfl rfl ⟨Nat.le_refl _, Nat.le_refl _⟩ dX7_laid_123)
    replace hr := ite_f hc hr
    refine r_aload_n (pc := 107) (j := 0) dX7_laid_107 rfl rfl ?_
    refine gf7_13 (pc := 108) tw_2_122 hw dX7_laid_108 ?_
    refine r_iload_n (pc := 111) (j := 1) dX7_laid_111 rfl rfl ?_
    refine r_iload_n (pc := 112) (j := 2) dX7_laid_112 rfl rfl ?_
    refine r_bipush (pc := 113) (v := (10 : Int32)) dX7_laid_113 rfl ?_
    refine r_isub (pc := 115) dX7_laid_115 ?_
    obtain ⟨v7, hv7, hr⟩ := bnd1_inv hr
    refine kX4_answer (pc := 116) hv7 tw_5_25 ⟨nle rfl, nle rfl⟩ (nle rfl) dX7_laid_116 ?_
    exact l_opi hr (r_iret (pc := 119) (v := v7) rfl rfl ⟨Nat.le_refl _, Nat.le_refl _⟩ dX7_laid_119)
  replace hr := ite_f hc hr
  refine r_ldcw (pc := 11) (v := (-2147483648 : Int32)) dX7_laid_11 tw_4_134 ?_
  exact l_opi hr (r_iret (pc := 14) (v := (-2147483648 : Int32)) rfl rfl ⟨Nat.le_refl _, Nat.le_refl _⟩ dX7_laid_14)

theorem kX7_laid {g : GG} {σ0 : SS} {a1 : Int32} {a2 : Int32} {v : Int32} {M : MM} {F : State → Array Value → List Frame → State → Prop} {pc index : Nat} {ls : List (Nat × Value)} {rest : List Value} (hf : fX7_laid σ0 a1 a2 = some v)  (hl : Cond.methodLink M.1.cls index yX7_laid ∈ lw_gt) (hR : mX7_laid.2.2.2.2.frames + 1 ≤ M.2.2.2.2.frames ∧ 8 + (mX7_laid.2.2.1 + 11) + mX7_laid.2.2.2.2.locals ≤ M.2.2.2.2.locals) (hrest : (rest.map fun v => v.category).sum ≤ 8) (hd : decode M.2.1 pc = .ok (.invokevirtual index, 3)) (k : RR g M F zF (pc + 3) ls (.int v :: rest) σ0) : RR g M F zF pc ls (.int a2 :: .int a1 :: .ref (ad g 1) :: rest) σ0 :=
  r_callV (z := zF) (N := mX7_laid) (nn := 2) (o1 := some (.int v)) (sX7_laid hf ) (rfl : shp 1 = (7, 0)) (by decide) (shp_le (rfl : shp 1 = (7, 0)) (nle rfl)) (ci := 7) rfl rfl tw_5_16 tw_1_1 hl tw_5_14 tw_5_15 ⟨by decide, by decide, rfl⟩ hR rfl hrest hd ⟨Nat.zero_le _, Nat.zero_le _⟩ rfl (fun h => k)

theorem dX8_laid_0 : decode cX8_laid 0 = .ok (.iload_n 1, 1) := by decide +kernel
theorem dX8_laid_1 : decode cX8_laid 1 = .ok (.iconst 0, 1) := by decide +kernel
theorem dX8_laid_2 : decode cX8_laid 2 = .ok (.aload_n 0, 1) := by decide +kernel
theorem dX8_laid_3 : decode cX8_laid 3 = .ok (.getfield 259, 3) := by decide +kernel
theorem dX8_laid_6 : decode cX8_laid 6 = .ok (.iconst 1, 1) := by decide +kernel
theorem dX8_laid_7 : decode cX8_laid 7 = .ok (.isub, 1) := by decide +kernel
theorem dX8_laid_8 : decode cX8_laid 8 = .ok (.invokestatic 165, 3) := by decide +kernel
theorem dX8_laid_11 : decode cX8_laid 11 = .ok (.ifCond .ne 7, 3) := by decide +kernel
theorem dX8_laid_14 : decode cX8_laid 14 = .ok (.ldc_w 400, 3) := by decide +kernel
theorem dX8_laid_17 : decode cX8_laid 17 = .ok (.ireturn, 1) := by decide +kernel
theorem dX8_laid_18 : decode cX8_laid 18 = .ok (.iload_n 2, 1) := by decide +kernel
theorem dX8_laid_19 : decode cX8_laid 19 = .ok (.bipush 10, 2) := by decide +kernel
theorem dX8_laid_21 : decode cX8_laid 21 = .ok (.bipush 9, 2) := by decide +kernel
theorem dX8_laid_23 : decode cX8_laid 23 = .ok (.aload_n 0, 1) := by decide +kernel
theorem dX8_laid_24 : decode cX8_laid 24 = .ok (.invokevirtual 266, 3) := by decide +kernel
theorem dX8_laid_27 : decode cX8_laid 27 = .ok (.iadd, 1) := by decide +kernel
theorem dX8_laid_28 : decode cX8_laid 28 = .ok (.invokestatic 165, 3) := by decide +kernel
theorem dX8_laid_31 : decode cX8_laid 31 = .ok (.ifCond .eq 18, 3) := by decide +kernel
theorem dX8_laid_34 : decode cX8_laid 34 = .ok (.aload_n 0, 1) := by decide +kernel
theorem dX8_laid_35 : decode cX8_laid 35 = .ok (.getfield 126, 3) := by decide +kernel
theorem dX8_laid_38 : decode cX8_laid 38 = .ok (.bipush 12, 2) := by decide +kernel
theorem dX8_laid_40 : decode cX8_laid 40 = .ok (.iload_n 1, 1) := by decide +kernel
theorem dX8_laid_41 : decode cX8_laid 41 = .ok (.imul, 1) := by decide +kernel
theorem dX8_laid_42 : decode cX8_laid 42 = .ok (.iload_n 2, 1) := by decide +kernel
theorem dX8_laid_43 : decode cX8_laid 43 = .ok (.iadd, 1) := by decide +kernel
theorem dX8_laid_44 : decode cX8_laid 44 = .ok (.bipush 10, 2) := by decide +kernel
theorem dX8_laid_46 : decode cX8_laid 46 = .ok (.isub, 1) := by decide +kernel
theorem dX8_laid_47 : decode cX8_laid 47 = .ok (.iaload, 1) := by decide +kernel
theorem dX8_laid_48 : decode cX8_laid 48 = .ok (.ireturn, 1) := by decide +kernel
theorem dX8_laid_49 : decode cX8_laid 49 = .ok (.iload_n 2, 1) := by decide +kernel
theorem dX8_laid_50 : decode cX8_laid 50 = .ok (.tableswitch 97 0 3 #[30, 37, 44, 51], 30) := by decide +kernel
theorem dX8_laid_80 : decode cX8_laid 80 = .ok (.aload_n 0, 1) := by decide +kernel
theorem dX8_laid_81 : decode cX8_laid 81 = .ok (.getfield 117, 3) := by decide +kernel
theorem dX8_laid_84 : decode cX8_laid 84 = .ok (.iload_n 1, 1) := by decide +kernel
theorem dX8_laid_85 : decode cX8_laid 85 = .ok (.iaload, 1) := by decide +kernel
theorem dX8_laid_86 : decode cX8_laid 86 = .ok (.ireturn, 1) := by decide +kernel
theorem dX8_laid_87 : decode cX8_laid 87 = .ok (.aload_n 0, 1) := by decide +kernel
theorem dX8_laid_88 : decode cX8_laid 88 = .ok (.getfield 120, 3) := by decide +kernel
theorem dX8_laid_91 : decode cX8_laid 91 = .ok (.iload_n 1, 1) := by decide +kernel
theorem dX8_laid_92 : decode cX8_laid 92 = .ok (.iaload, 1) := by decide +kernel
theorem dX8_laid_93 : decode cX8_laid 93 = .ok (.ireturn, 1) := by decide +kernel
theorem dX8_laid_94 : decode cX8_laid 94 = .ok (.aload_n 0, 1) := by decide +kernel
theorem dX8_laid_95 : decode cX8_laid 95 = .ok (.getfield 123, 3) := by decide +kernel
theorem dX8_laid_98 : decode cX8_laid 98 = .ok (.iload_n 1, 1) := by decide +kernel
theorem dX8_laid_99 : decode cX8_laid 99 = .ok (.iaload, 1) := by decide +kernel
theorem dX8_laid_100 : decode cX8_laid 100 = .ok (.ireturn, 1) := by decide +kernel
theorem dX8_laid_101 : decode cX8_laid 101 = .ok (.iconst 1, 1) := by decide +kernel
theorem dX8_laid_102 : decode cX8_laid 102 = .ok (.istore_n 3, 1) := by decide +kernel
theorem dX8_laid_103 : decode cX8_laid 103 = .ok (.iconst 0, 1) := by decide +kernel
theorem dX8_laid_104 : decode cX8_laid 104 = .ok (.istore 4, 2) := by decide +kernel
theorem dX8_laid_106 : decode cX8_laid 106 = .ok (.iload 4, 2) := by decide +kernel
theorem dX8_laid_108 : decode cX8_laid 108 = .ok (.aload_n 0, 1) := by decide +kernel
theorem dX8_laid_109 : decode cX8_laid 109 = .ok (.getfield 259, 3) := by decide +kernel
theorem dX8_laid_112 : decode cX8_laid 112 = .ok (.if_icmp .ge 33, 3) := by decide +kernel
theorem dX8_laid_115 : decode cX8_laid 115 = .ok (.iload_n 3, 1) := by decide +kernel
theorem dX8_laid_116 : decode cX8_laid 116 = .ok (.aload_n 0, 1) := by decide +kernel
theorem dX8_laid_117 : decode cX8_laid 117 = .ok (.getfield 117, 3) := by decide +kernel
theorem dX8_laid_120 : decode cX8_laid 120 = .ok (.iload 4, 2) := by decide +kernel
theorem dX8_laid_122 : decode cX8_laid 122 = .ok (.iaload, 1) := by decide +kernel
theorem dX8_laid_123 : decode cX8_laid 123 = .ok (.aload_n 0, 1) := by decide +kernel
theorem dX8_laid_124 : decode cX8_laid 124 = .ok (.getfield 117, 3) := by decide +kernel
theorem dX8_laid_127 : decode cX8_laid 127 = .ok (.iload_n 1, 1) := by decide +kernel
theorem dX8_laid_128 : decode cX8_laid 128 = .ok (.iaload, 1) := by decide +kernel
theorem dX8_laid_129 : decode cX8_laid 129 = .ok (.if_icmp .le 7, 3) := by decide +kernel
theorem dX8_laid_132 : decode cX8_laid 132 = .ok (.iconst 1, 1) := by decide +kernel
theorem dX8_laid_133 : decode cX8_laid 133 = .ok (.goto 4, 3) := by decide +kernel
theorem dX8_laid_136 : decode cX8_laid 136 = .ok (.iconst 0, 1) := by decide +kernel
theorem dX8_laid_137 : decode cX8_laid 137 = .ok (.iadd, 1) := by decide +kernel
theorem dX8_laid_138 : decode cX8_laid 138 = .ok (.istore_n 3, 1) := by decide +kernel
theorem dX8_laid_139 : decode cX8_laid 139 = .ok (.iinc 4 1, 3) := by decide +kernel
theorem dX8_laid_142 : decode cX8_laid 142 = .ok (.goto (-36), 3) := by decide +kernel
theorem dX8_laid_145 : decode cX8_laid 145 = .ok (.iload_n 3, 1) := by decide +kernel
theorem dX8_laid_146 : decode cX8_laid 146 = .ok (.ireturn, 1) := by decide +kernel
theorem dX8_laid_147 : decode cX8_laid 147 = .ok (.ldc_w 400, 3) := by decide +kernel
theorem dX8_laid_150 : decode cX8_laid 150 = .ok (.ireturn, 1) := by decide +kernel
def mX8_laid : MM := (yX8_laid, cX8_laid, 5, Option.some Jvm.ClassFile.FieldType.int, { frames := 2, cells := 0, slots := 0, locals := 41 })
def X8_laid_L106 (σ_ : SS) (u1_ : Int32)  : Nat → Int32 → Int32 → Option Int32 :=
  lp (fun _ _ => none) fun rec v3_ v4_ =>
    if (gI σ_ 73 65) ≤ v4_ then (
      some v3_
      ) else (
      grd (inb v4_ 16) <|
      grd (inb u1_ 16) <|
      if (gI σ_ 109 (Int32.toNatClampNeg v4_)) ≤ (gI σ_ 109 (Int32.toNatClampNeg u1_)) then (
        vthen (v3_ + (0 : Int32)) fun v9 =>
        rec v9 (v4_ + (1 : Int32))
        ) else (
        vthen (v3_ + (1 : Int32)) fun v10 =>
        rec v10 (v4_ + (1 : Int32))
        )
      )

def fX8_laid (σ0 : SS) (a1 : Int32) (a2 : Int32) : Option Int32 :=
  if (fX8_in σ0 a1 (0 : Int32) ((gI σ0 73 65) - (1 : Int32))) = true then (
    bnd1 (fX8_questions σ0) fun v1 =>
    if (fX8_in σ0 a2 (10 : Int32) ((9 : Int32) + v1)) = true then (
      grd (inb ((((12 : Int32) * a1) + a2) - (10 : Int32)) 192) <|
      some (gI σ0 112 (Int32.toNatClampNeg ((((12 : Int32) * a1) + a2) - (10 : Int32))))
      ) else (
      if a2 = (0 : Int32) then (
        grd (inb a1 16) <|
        some (gI σ0 109 (Int32.toNatClampNeg a1))
        ) else
      if a2 = (1 : Int32) then (
        grd (inb a1 16) <|
        some (gI σ0 110 (Int32.toNatClampNeg a1))
        ) else
      if a2 = (2 : Int32) then (
        grd (inb a1 16) <|
        some (gI σ0 111 (Int32.toNatClampNeg a1))
        ) else
      if a2 = (3 : Int32) then (
        X8_laid_L106 σ0 a1
        fuel (1 : Int32) (0 : Int32)
        ) else
      some (-2147483648 : Int32)
      )
    ) else (
    some (-2147483648 : Int32)
    )

set_option maxRecDepth 20000 in
theorem sX8_laid_L106 {g : GG} {r : Int32} {σ_ : SS} {σ0 : SS} {u1_ : Int32}  
    (hw_ : WT σ_)
    (h0_ : σ_ = σ0)
    (n : Nat) : ∀ (v3_ : Int32) (v4_ : Int32), X8_laid_L106 σ_ u1_ n v3_ v4_ = some r → RR g mX8_laid (FinR g mX8_laid (some (.int r)) NF σ0) zF 106 [(0, .ref (ad g 73)), (1, .int u1_), (3, .int v3_), (4, .int v4_)] [] σ_ := by
  unfold X8_laid_L106
  refine lp_ind (P := fun (rec : Int32 → Int32 → Option Int32) => ∀ (v3_ : Int32) (v4_ : Int32), rec v3_ v4_ = some r → RR g mX8_laid (FinR g mX8_laid (some (.int r)) NF σ0) zF 106 [(0, .ref (ad g 73)), (1, .int u1_), (3, .int v3_), (4, .int v4_)] [] σ_) ?_ ?_ n
  · intro v3_ v4_ hr; cases hr
  intro rec ih v3_ v4_ hr
  subst h0_
  refine r_iload (pc := 106) (j := 3) dX8_laid_106 rfl ?_
  refine r_aload_n (pc := 108) (j := 0) dX8_laid_108 rfl rfl ?_
  refine gf8_65 (pc := 109) tw_5_159 rfl dX8_laid_109 ?_
  refine r_icmp_ge (pc := 112) (tgt := 145) dX8_laid_112 rfl (fun hc => ?_) (fun hc => ?_)
  · replace hr := ite_t hc hr
    refine r_iload_n (pc := 145) (j := 2) dX8_laid_145 rfl rfl ?_
    exact l_opi hr (r_iret (pc := 146) (v := v3_) rfl rfl ⟨Nat.le_refl _, Nat.le_refl _⟩ dX8_laid_146)
  replace hr := ite_f hc hr
  refine r_iload_n (pc := 115) (j := 2) dX8_laid_115 rfl rfl ?_
  refine r_aload_n (pc := 116) (j := 0) dX8_laid_116 rfl rfl ?_
  refine gf8_60 (pc := 117) tw_5_154 hw_ dX8_laid_117 ?_
  refine r_iload (pc := 120) (j := 3) dX8_laid_120 rfl ?_
  obtain ⟨h7, hr⟩ := grd_inv hr
  refine x_iald (pc := 122) (k := (Int32.toNatClampNeg v4_)) rfl h7 rfl dX8_laid_122 ?_
  refine r_aload_n (pc := 123) (j := 0) dX8_laid_123 rfl rfl ?_
  refine gf8_60 (pc := 124) tw_5_154 hw_ dX8_laid_124 ?_
  refine r_iload_n (pc := 127) (j := 1) dX8_laid_127 rfl rfl ?_
  obtain ⟨h8, hr⟩ := grd_inv hr
  refine x_iald (pc := 128) (k := (Int32.toNatClampNeg u1_)) rfl h8 rfl dX8_laid_128 ?_
  refine r_icmp_le (pc := 129) (tgt := 136) dX8_laid_129 rfl (fun hc => ?_) (fun hc => ?_)
  · replace hr := ite_t hc hr
    refine r_iconst (pc := 136) (v := (0 : Int32)) dX8_laid_136 rfl ?_
    refine r_iadd (pc := 137) dX8_laid_137 ?_
    refine r_topi fun v9 ev9 => ?_
    replace hr := vthen_inv hr v9 ev9
    refine r_istore_n (pc := 138) (ls1 := [(3, .int v9), (0, .ref (ad g 73)), (1, .int u1_), (4, .int v4_)]) dX8_laid_138 rfl (nle rfl) rfl ?_
    refine r_iinc (pc := 139) (j := 3) (v := (v4_ + (1 : Int32))) (ls1 := [(4, .int (v4_ + (1 : Int32))), (3, .int v9), (0, .ref (ad g 73)), (1, .int u1_)]) dX8_laid_139 rfl rfl (nle rfl) rfl ?_
    refine r_goto (pc := 142) (tgt := 106) dX8_laid_142 rfl ?_
    exact r_pick (ls1 := [(0, .ref (ad g 73)), (1, .int u1_), (3, .int v9), (4, .int (v4_ + (1 : Int32)))]) [2, 3, 1, 0] rfl (ih v9 (v4_ + (1 : Int32)) hr)
  replace hr := ite_f hc hr
  refine r_iconst (pc := 132) (v := (1 : Int32)) dX8_laid_132 rfl ?_
  refine r_goto (pc := 133) (tgt := 137) dX8_laid_133 rfl ?_
  refine r_iadd (pc := 137) dX8_laid_137 ?_
  refine r_topi fun v10 ev10 => ?_
  replace hr := vthen_inv hr v10 ev10
  refine r_istore_n (pc := 138) (ls1 := [(3, .int v10), (0, .ref (ad g 73)), (1, .int u1_), (4, .int v4_)]) dX8_laid_138 rfl (nle rfl) rfl ?_
  refine r_iinc (pc := 139) (j := 3) (v := (v4_ + (1 : Int32))) (ls1 := [(4, .int (v4_ + (1 : Int32))), (3, .int v10), (0, .ref (ad g 73)), (1, .int u1_)]) dX8_laid_139 rfl rfl (nle rfl) rfl ?_
  refine r_goto (pc := 142) (tgt := 106) dX8_laid_142 rfl ?_
  exact r_pick (ls1 := [(0, .ref (ad g 73)), (1, .int u1_), (3, .int v10), (4, .int (v4_ + (1 : Int32)))]) [2, 3, 1, 0] rfl (ih v10 (v4_ + (1 : Int32)) hr)

set_option maxRecDepth 20000 in
theorem sX8_laid {g : GG} {σ0 : SS} {a1 : Int32} {a2 : Int32} {r : Int32} (hr : fX8_laid σ0 a1 a2 = some r)  : Ct g mX8_laid [.ref (ad g 73), .int a1, .int a2] NF σ0 (some (.int r)) NF σ0 := by
  refine Ct.of (by decide +kernel) (nle rfl) fun hw0 => ?_
  have hw := hw0 rfl
  unfold fX8_laid at hr
  change RR g mX8_laid (FinR g mX8_laid (some (.int r)) NF σ0) zF 0 [(0, .ref (ad g 73)), (1, .int a1), (2, .int a2)] [] σ0
  refine r_iload_n (pc := 0) (j := 1) dX8_laid_0 rfl rfl ?_
  refine r_iconst (pc := 1) (v := (0 : Int32)) dX8_laid_1 rfl ?_
  refine r_aload_n (pc := 2) (j := 0) dX8_laid_2 rfl rfl ?_
  refine gf8_65 (pc := 3) tw_5_159 rfl dX8_laid_3 ?_
  refine r_iconst (pc := 6) (v := (1 : Int32)) dX8_laid_6 rfl ?_
  refine r_isub (pc := 7) dX8_laid_7 ?_
  refine kX8_in (pc := 8) (hf := rfl) tw_6_65 ⟨nle rfl, nle rfl⟩ (nle rfl) dX8_laid_8 ?_
  refine r_ifB_ne (pc := 11) (tgt := 18) dX8_laid_11 rfl (fun hc => ?_) (fun hc => ?_)
  · replace hr := ite_t hc hr
    refine r_iload_n (pc := 18) (j := 2) dX8_laid_18 rfl rfl ?_
    refine r_bipush (pc := 19) (v := (10 : Int32)) dX8_laid_19 rfl ?_
    refine r_bipush (pc := 21) (v := (9 : Int32)) dX8_laid_21 rfl ?_
    refine r_aload_n (pc := 23) (j := 0) dX8_laid_23 rfl rfl ?_
    obtain ⟨v1, hv1, hr⟩ := bnd1_inv hr
    refine kX8_questions (pc := 24) hv1 tw_6_145 ⟨nle rfl, nle rfl⟩ (nle rfl) dX8_laid_24 ?_
    refine r_iadd (pc := 27) dX8_laid_27 ?_
    refine kX8_in (pc := 28) (hf := rfl) tw_6_65 ⟨nle rfl, nle rfl⟩ (nle rfl) dX8_laid_28 ?_
    refine r_ifB_eq (pc := 31) (tgt := 49) dX8_laid_31 rfl (fun hc => ?_) (fun hc => ?_)
    · replace hr := ite_f hc hr
      refine r_iload_n (pc := 49) (j := 2) dX8_laid_49 rfl rfl ?_
      by_cases hc0 : a2 = (0 : Int32)
      · replace hr := ite_t hc0 hr
        refine r_tabIn (pc := 50) (off := 30) (tgt := 80) dX8_laid_50 (by rw [hc0]; decide) (by rw [hc0]; decide) (by rw [hc0]; rfl) rfl ?_
        refine r_aload_n (pc := 80) (j := 0) dX8_laid_80 rfl rfl ?_
        refine gf8_60 (pc := 81) tw_5_154 hw dX8_laid_81 ?_
        refine r_iload_n (pc := 84) (j := 1) dX8_laid_84 rfl rfl ?_
        obtain ⟨h4, hr⟩ := grd_inv hr
        refine x_iald (pc := 85) (k := (Int32.toNatClampNeg a1)) rfl h4 rfl dX8_laid_85 ?_
        exact l_opi hr (r_iret (pc := 86) (v := (gI σ0 109 (Int32.toNatClampNeg a1))) rfl rfl ⟨Nat.le_refl _, Nat.le_refl _⟩ dX8_laid_86)
      replace hr := ite_f hc0 hr
      by_cases hc1 : a2 = (1 : Int32)
      · replace hr := ite_t hc1 hr
        refine r_tabIn (pc := 50) (off := 37) (tgt := 87) dX8_laid_50 (by rw [hc1]; decide) (by rw [hc1]; decide) (by rw [hc1]; rfl) rfl ?_
        refine r_aload_n (pc := 87) (j := 0) dX8_laid_87 rfl rfl ?_
        refine gf8_61 (pc := 88) tw_5_155 hw dX8_laid_88 ?_
        refine r_iload_n (pc := 91) (j := 1) dX8_laid_91 rfl rfl ?_
        obtain ⟨h5, hr⟩ := grd_inv hr
        refine x_iald (pc := 92) (k := (Int32.toNatClampNeg a1)) rfl h5 rfl dX8_laid_92 ?_
        exact l_opi hr (r_iret (pc := 93) (v := (gI σ0 110 (Int32.toNatClampNeg a1))) rfl rfl ⟨Nat.le_refl _, Nat.le_refl _⟩ dX8_laid_93)
      replace hr := ite_f hc1 hr
      by_cases hc2 : a2 = (2 : Int32)
      · replace hr := ite_t hc2 hr
        refine r_tabIn (pc := 50) (off := 44) (tgt := 94) dX8_laid_50 (by rw [hc2]; decide) (by rw [hc2]; decide) (by rw [hc2]; rfl) rfl ?_
        refine r_aload_n (pc := 94) (j := 0) dX8_laid_94 rfl rfl ?_
        refine gf8_62 (pc := 95) tw_5_156 hw dX8_laid_95 ?_
        refine r_iload_n (pc := 98) (j := 1) dX8_laid_98 rfl rfl ?_
        obtain ⟨h6, hr⟩ := grd_inv hr
        refine x_iald (pc := 99) (k := (Int32.toNatClampNeg a1)) rfl h6 rfl dX8_laid_99 ?_
        exact l_opi hr (r_iret (pc := 100) (v := (gI σ0 111 (Int32.toNatClampNeg a1))) rfl rfl ⟨Nat.le_refl _, Nat.le_refl _⟩ dX8_laid_100)
      replace hr := ite_f hc2 hr
      by_cases hc3 : a2 = (3 : Int32)
      · replace hr := ite_t hc3 hr
        refine r_tabIn (pc := 50) (off := 51) (tgt := 101) dX8_laid_50 (by rw [hc3]; decide) (by rw [hc3]; decide) (by rw [hc3]; rfl) rfl ?_
        refine r_iconst (pc := 101) (v := (1 : Int32)) dX8_laid_101 rfl ?_
        refine r_istore_n (pc := 102) (ls1 := [(3, .int (1 : Int32)), (0, .ref (ad g 73)), (1, .int a1), (2, .int a2)]) dX8_laid_102 rfl (nle rfl) rfl ?_
        refine r_iconst (pc := 103) (v := (0 : Int32)) dX8_laid_103 rfl ?_
        refine r_istore (pc := 104) (ls1 := [(4, .int (0 : Int32)), (3, .int (1 : Int32)), (0, .ref (ad g 73)), (1, .int a1), (2, .int a2)]) dX8_laid_104 (nle rfl) rfl ?_
        refine r_pick (ls1 := [(0, .ref (ad g 73)), (1, .int a1), (3, .int (1 : Int32)), (4, .int (0 : Int32))]) [2, 3, 1, 0] rfl ?_
        refine sX8_laid_L106  hw rfl  fuel (1 : Int32) (0 : Int32) hr
      replace hr := ite_f hc3 hr
      refine r_tabOut (pc := 50) (tgt := 147) dX8_laid_50 (tab_out (by decide) (by decide) fun k h1 h2 => ?_) rfl ?_
      · rcases (show k = 0 ∨ k = 1 ∨ k = 2 ∨ k = 3 by omega) with rfl | rfl | rfl | rfl
        · exact hc0
        · exact hc1
        · exact hc2
        · exact hc3
      refine r_ldcw (pc := 147) (v := (-2147483648 : Int32)) dX8_laid_147 tw_7_106 ?_
      exact l_opi hr (r_iret (pc := 150) (v := (-2147483648 : Int32)) rfl rfl ⟨Nat.le_refl _, Nat.le_refl _⟩ dX8_laid_150)
    replace hr := ite_t hc hr
    refine r_aload_n (pc := 34) (j := 0) dX8_laid_34 rfl rfl ?_
    refine gf8_63 (pc := 35) tw_5_157 hw dX8_laid_35 ?_
    refine r_bipush (pc := 38) (v := (12 : Int32)) dX8_laid_38 rfl ?_
    refine r_iload_n (pc := 40) (j := 1) dX8_laid_40 rfl rfl ?_
    refine r_imul (pc := 41) dX8_laid_41 ?_
    refine r_iload_n (pc := 42) (j := 2) dX8_laid_42 rfl rfl ?_
    refine r_iadd (pc := 43) dX8_laid_43 ?_
    refine r_bipush (pc := 44) (v := (10 : Int32)) dX8_laid_44 rfl ?_
    refine r_isub (pc := 46) dX8_laid_46 ?_
    obtain ⟨h11, hr⟩ := grd_inv hr
    refine x_iald (pc := 47) (k := (Int32.toNatClampNeg ((((12 : Int32) * a1) + a2) - (10 : Int32)))) rfl h11 rfl dX8_laid_47 ?_
    exact l_opi hr (r_iret (pc := 48) (v := (gI σ0 112 (Int32.toNatClampNeg ((((12 : Int32) * a1) + a2) - (10 : Int32))))) rfl rfl ⟨Nat.le_refl _, Nat.le_refl _⟩ dX8_laid_48)
  replace hr := ite_f hc hr
  refine r_ldcw (pc := 14) (v := (-2147483648 : Int32)) dX8_laid_14 tw_7_106 ?_
  exact l_opi hr (r_iret (pc := 17) (v := (-2147483648 : Int32)) rfl rfl ⟨Nat.le_refl _, Nat.le_refl _⟩ dX8_laid_17)

theorem kX8_laid {g : GG} {σ0 : SS} {a1 : Int32} {a2 : Int32} {v : Int32} {M : MM} {F : State → Array Value → List Frame → State → Prop} {pc index : Nat} {ls : List (Nat × Value)} {rest : List Value} (hf : fX8_laid σ0 a1 a2 = some v)  (hl : Cond.methodLink M.1.cls index yX8_laid ∈ lw_gt) (hR : mX8_laid.2.2.2.2.frames + 1 ≤ M.2.2.2.2.frames ∧ 8 + (mX8_laid.2.2.1 + 11) + mX8_laid.2.2.2.2.locals ≤ M.2.2.2.2.locals) (hrest : (rest.map fun v => v.category).sum ≤ 8) (hd : decode M.2.1 pc = .ok (.invokevirtual index, 3)) (k : RR g M F zF (pc + 3) ls (.int v :: rest) σ0) : RR g M F zF pc ls (.int a2 :: .int a1 :: .ref (ad g 73) :: rest) σ0 :=
  r_callV (z := zF) (N := mX8_laid) (nn := 2) (o1 := some (.int v)) (sX8_laid hf ) (rfl : shp 73 = (8, 0)) (by decide) (shp_le (rfl : shp 73 = (8, 0)) (nle rfl)) (ci := 8) rfl rfl tw_7_186 tw_1_10 hl tw_7_184 tw_7_185 ⟨by decide, by decide, rfl⟩ hR rfl hrest hd ⟨Nat.zero_le _, Nat.zero_le _⟩ rfl (fun h => k)

theorem dX4_isRight_0 : decode cX4_isRight 0 = .ok (.aload_n 1, 1) := by decide +kernel
theorem dX4_isRight_1 : decode cX4_isRight 1 = .ok (.getfield 46, 3) := by decide +kernel
theorem dX4_isRight_4 : decode cX4_isRight 4 = .ok (.iload_n 3, 1) := by decide +kernel
theorem dX4_isRight_5 : decode cX4_isRight 5 = .ok (.iaload, 1) := by decide +kernel
theorem dX4_isRight_6 : decode cX4_isRight 6 = .ok (.istore 4, 2) := by decide +kernel
theorem dX4_isRight_8 : decode cX4_isRight 8 = .ok (.iload 4, 2) := by decide +kernel
theorem dX4_isRight_10 : decode cX4_isRight 10 = .ok (.ifCond .eq 38, 3) := by decide +kernel
theorem dX4_isRight_13 : decode cX4_isRight 13 = .ok (.aload_n 0, 1) := by decide +kernel
theorem dX4_isRight_14 : decode cX4_isRight 14 = .ok (.iload_n 2, 1) := by decide +kernel
theorem dX4_isRight_15 : decode cX4_isRight 15 = .ok (.iload_n 3, 1) := by decide +kernel
theorem dX4_isRight_16 : decode cX4_isRight 16 = .ok (.invokevirtual 49, 3) := by decide +kernel
theorem dX4_isRight_19 : decode cX4_isRight 19 = .ok (.iload 4, 2) := by decide +kernel
theorem dX4_isRight_21 : decode cX4_isRight 21 = .ok (.if_icmp .ne 27, 3) := by decide +kernel
theorem dX4_isRight_24 : decode cX4_isRight 24 = .ok (.aload_n 0, 1) := by decide +kernel
theorem dX4_isRight_25 : decode cX4_isRight 25 = .ok (.getfield 15, 3) := by decide +kernel
theorem dX4_isRight_28 : decode cX4_isRight 28 = .ok (.iload_n 2, 1) := by decide +kernel
theorem dX4_isRight_29 : decode cX4_isRight 29 = .ok (.iaload, 1) := by decide +kernel
theorem dX4_isRight_30 : decode cX4_isRight 30 = .ok (.aload_n 0, 1) := by decide +kernel
theorem dX4_isRight_31 : decode cX4_isRight 31 = .ok (.getfield 18, 3) := by decide +kernel
theorem dX4_isRight_34 : decode cX4_isRight 34 = .ok (.iload_n 2, 1) := by decide +kernel
theorem dX4_isRight_35 : decode cX4_isRight 35 = .ok (.iaload, 1) := by decide +kernel
theorem dX4_isRight_36 : decode cX4_isRight 36 = .ok (.ior, 1) := by decide +kernel
theorem dX4_isRight_37 : decode cX4_isRight 37 = .ok (.iload_n 3, 1) := by decide +kernel
theorem dX4_isRight_38 : decode cX4_isRight 38 = .ok (.ishr, 1) := by decide +kernel
theorem dX4_isRight_39 : decode cX4_isRight 39 = .ok (.iconst 1, 1) := by decide +kernel
theorem dX4_isRight_40 : decode cX4_isRight 40 = .ok (.iand, 1) := by decide +kernel
theorem dX4_isRight_41 : decode cX4_isRight 41 = .ok (.ifCond .ne 7, 3) := by decide +kernel
theorem dX4_isRight_44 : decode cX4_isRight 44 = .ok (.iconst 1, 1) := by decide +kernel
theorem dX4_isRight_45 : decode cX4_isRight 45 = .ok (.goto 4, 3) := by decide +kernel
theorem dX4_isRight_48 : decode cX4_isRight 48 = .ok (.iconst 0, 1) := by decide +kernel
theorem dX4_isRight_49 : decode cX4_isRight 49 = .ok (.ireturn, 1) := by decide +kernel
def mX4_isRight : MM := (yX4_isRight, cX4_isRight, 5, Option.some Jvm.ClassFile.FieldType.boolean, { frames := 1, cells := 0, slots := 0, locals := 22 })
def fX4_isRight (σ0 : SS) (a1 : Nat) (a2 : Int32) (a3 : Int32) : Option Bool :=
  grd (inb a3 12) <|
  vthen (gI σ0 (a1 + 4) (Int32.toNatClampNeg a3)) fun v2 =>
  vthen (fun (_u : Unit) =>
    some false
    ) fun j48 =>
  if v2 = 0 then (
    j48 ()
    ) else (
    bnd1 (fX4_answer σ0 a2 a3) fun v3 =>
    if v3 = v2 then (
      grd (inb a2 16) <|
      if ((((gI σ0 60 (Int32.toNatClampNeg a2)) ||| (gI σ0 61 (Int32.toNatClampNeg a2))) >>> (a3 &&& 31)) &&& (1 : Int32)) = 0 then (
        some true
        ) else (
        j48 ()
        )
      ) else (
      j48 ()
      )
    )

set_option maxRecDepth 20000 in
theorem sX4_isRight {g : GG} {σ0 : SS} {a1 : Nat} {a2 : Int32} {a3 : Int32} {r : Bool} (hr : fX4_isRight σ0 a1 a2 a3 = some r) (hs1 : shp a1 = (1, 0)) : Ct g mX4_isRight [.ref (ad g 58), .ref (ad g a1), .int a2, .int a3] NF σ0 (some (.int (b2i r))) NF σ0 := by
  refine Ct.of (by decide +kernel) (nle rfl) fun hw0 => ?_
  have hw := hw0 rfl
  unfold fX4_isRight at hr
  change RR g mX4_isRight (FinR g mX4_isRight (some (.int (b2i r))) NF σ0) zF 0 [(0, .ref (ad g 58)), (1, .ref (ad g a1)), (2, .int a2), (3, .int a3)] [] σ0
  refine r_aload_n (pc := 0) (j := 1) dX4_isRight_0 rfl rfl ?_
  refine gf1_10 (pc := 1) tw_1_97 hw hs1 dX4_isRight_1 ?_
  refine r_iload_n (pc := 4) (j := 3) dX4_isRight_4 rfl rfl ?_
  obtain ⟨h1, hr⟩ := grd_inv hr
  refine x_iald (pc := 5) (k := (Int32.toNatClampNeg a3)) (sh1_10 hs1) h1 rfl dX4_isRight_5 ?_
  refine r_topi fun v2 ev2 => ?_
  replace hr := vthen_inv hr v2 ev2
  refine r_istore (pc := 6) (ls1 := [(4, .int v2), (0, .ref (ad g 58)), (1, .ref (ad g a1)), (2, .int a2), (3, .int a3)]) dX4_isRight_6 (nle rfl) rfl ?_
  refine r_iload (pc := 8) (j := 0) dX4_isRight_8 rfl ?_
  obtain ⟨j48, ej48, hr⟩ := vth_ex hr
  have hj48 : j48 () = some r → RR g mX4_isRight (FinR g mX4_isRight (some (.int (b2i r))) NF σ0) zF 48 [] [] σ0 := by
    intro  hr
    replace hr := (congrFun ej48 ()).symm.trans hr
    refine r_iconst (pc := 48) (v := (0 : Int32)) dX4_isRight_48 rfl ?_
    exact l_opz hr (r_zret (pc := 49) (v := b2i false) (ty := .boolean) rfl (b2i_nar _) rfl ⟨Nat.le_refl _, Nat.le_refl _⟩ dX4_isRight_49)
  refine r_if_eq (pc := 10) (tgt := 48) dX4_isRight_10 rfl (fun hc => ?_) (fun hc => ?_)
  · replace hr := ite_t hc hr
    exact r_pick (ls1 := []) [] rfl (hj48  hr)
  replace hr := ite_f hc hr
  refine r_aload_n (pc := 13) (j := 1) dX4_isRight_13 rfl rfl ?_
  refine r_iload_n (pc := 14) (j := 3) dX4_isRight_14 rfl rfl ?_
  refine r_iload_n (pc := 15) (j := 4) dX4_isRight_15 rfl rfl ?_
  obtain ⟨v3, hv3, hr⟩ := bnd1_inv hr
  refine kX4_answer (pc := 16) hv3 tw_5_41 ⟨nle rfl, nle rfl⟩ (nle rfl) dX4_isRight_16 ?_
  refine r_iload (pc := 19) (j := 0) dX4_isRight_19 rfl ?_
  refine r_icmp_ne (pc := 21) (tgt := 48) dX4_isRight_21 rfl (fun hc => ?_) (fun hc => ?_)
  · replace hr := ite_f hc hr
    exact r_pick (ls1 := []) [] rfl (hj48  hr)
  replace hr := ite_t hc hr
  refine r_aload_n (pc := 24) (j := 1) dX4_isRight_24 rfl rfl ?_
  refine gf4_2 (pc := 25) tw_2_82 hw dX4_isRight_25 ?_
  refine r_iload_n (pc := 28) (j := 3) dX4_isRight_28 rfl rfl ?_
  obtain ⟨h6, hr⟩ := grd_inv hr
  refine x_iald (pc := 29) (k := (Int32.toNatClampNeg a2)) rfl h6 rfl dX4_isRight_29 ?_
  refine r_aload_n (pc := 30) (j := 1) dX4_isRight_30 rfl rfl ?_
  refine gf4_3 (pc := 31) tw_2_84 hw dX4_isRight_31 ?_
  refine r_iload_n (pc := 34) (j := 3) dX4_isRight_34 rfl rfl ?_
  refine x_iald (pc := 35) (k := (Int32.toNatClampNeg a2)) rfl h6 rfl dX4_isRight_35 ?_
  refine r_ior (pc := 36) dX4_isRight_36 ?_
  refine r_iload_n (pc := 37) (j := 4) dX4_isRight_37 rfl rfl ?_
  refine r_ishr (pc := 38) dX4_isRight_38 ?_
  refine r_iconst (pc := 39) (v := (1 : Int32)) dX4_isRight_39 rfl ?_
  refine r_iand (pc := 40) dX4_isRight_40 ?_
  refine r_if_ne (pc := 41) (tgt := 48) dX4_isRight_41 rfl (fun hc => ?_) (fun hc => ?_)
  · replace hr := ite_f hc hr
    exact r_pick (ls1 := []) [] rfl (hj48  hr)
  replace hr := ite_t hc hr
  refine r_iconst (pc := 44) (v := (1 : Int32)) dX4_isRight_44 rfl ?_
  refine r_goto (pc := 45) (tgt := 49) dX4_isRight_45 rfl ?_
  exact l_opz hr (r_zret (pc := 49) (v := b2i true) (ty := .boolean) rfl (b2i_nar _) rfl ⟨Nat.le_refl _, Nat.le_refl _⟩ dX4_isRight_49)

theorem kX4_isRight {g : GG} {σ0 : SS} {a1 : Nat} {a2 : Int32} {a3 : Int32} {v : Bool} {M : MM} {F : State → Array Value → List Frame → State → Prop} {pc index : Nat} {ls : List (Nat × Value)} {rest : List Value} (hf : fX4_isRight σ0 a1 a2 a3 = some v) (hs1 : shp a1 = (1, 0)) (hl : Cond.methodLink M.1.cls index yX4_isRight ∈ lw_gt) (hR : mX4_isRight.2.2.2.2.frames + 1 ≤ M.2.2.2.2.frames ∧ 8 + (mX4_isRight.2.2.1 + 11) + mX4_isRight.2.2.2.2.locals ≤ M.2.2.2.2.locals) (hrest : (rest.map fun v => v.category).sum ≤ 8) (hd : decode M.2.1 pc = .ok (.invokevirtual index, 3)) (k : RR g M F zF (pc + 3) ls (.int (b2i v) :: rest) σ0) : RR g M F zF pc ls (.int a3 :: .int a2 :: .ref (ad g a1) :: .ref (ad g 58) :: rest) σ0 :=
  r_callV (z := zF) (N := mX4_isRight) (nn := 3) (o1 := some (.int (b2i v))) (sX4_isRight hf hs1) (rfl : shp 58 = (4, 0)) (by decide) (shp_le (rfl : shp 58 = (4, 0)) (nle rfl)) (ci := 4) rfl rfl tw_5_40 tw_1_8 hl tw_5_38 tw_5_39 ⟨by decide, by decide, rfl⟩ hR rfl hrest hd ⟨Nat.zero_le _, Nat.zero_le _⟩ rfl (fun h => k)

theorem dX4_rightOnes_0 : decode cX4_rightOnes 0 = .ok (.iconst 0, 1) := by decide +kernel
theorem dX4_rightOnes_1 : decode cX4_rightOnes 1 = .ok (.istore_n 3, 1) := by decide +kernel
theorem dX4_rightOnes_2 : decode cX4_rightOnes 2 = .ok (.iconst 0, 1) := by decide +kernel
theorem dX4_rightOnes_3 : decode cX4_rightOnes 3 = .ok (.istore 4, 2) := by decide +kernel
theorem dX4_rightOnes_5 : decode cX4_rightOnes 5 = .ok (.iload 4, 2) := by decide +kernel
theorem dX4_rightOnes_7 : decode cX4_rightOnes 7 = .ok (.aload_n 0, 1) := by decide +kernel
theorem dX4_rightOnes_8 : decode cX4_rightOnes 8 = .ok (.getfield 27, 3) := by decide +kernel
theorem dX4_rightOnes_11 : decode cX4_rightOnes 11 = .ok (.if_icmp .ge 23, 3) := by decide +kernel
theorem dX4_rightOnes_14 : decode cX4_rightOnes 14 = .ok (.aload_n 0, 1) := by decide +kernel
theorem dX4_rightOnes_15 : decode cX4_rightOnes 15 = .ok (.aload_n 1, 1) := by decide +kernel
theorem dX4_rightOnes_16 : decode cX4_rightOnes 16 = .ok (.iload 4, 2) := by decide +kernel
theorem dX4_rightOnes_18 : decode cX4_rightOnes 18 = .ok (.iload_n 2, 1) := by decide +kernel
theorem dX4_rightOnes_19 : decode cX4_rightOnes 19 = .ok (.invokevirtual 53, 3) := by decide +kernel
theorem dX4_rightOnes_22 : decode cX4_rightOnes 22 = .ok (.ifCond .eq 6, 3) := by decide +kernel
theorem dX4_rightOnes_25 : decode cX4_rightOnes 25 = .ok (.iinc 3 1, 3) := by decide +kernel
theorem dX4_rightOnes_28 : decode cX4_rightOnes 28 = .ok (.iinc 4 1, 3) := by decide +kernel
theorem dX4_rightOnes_31 : decode cX4_rightOnes 31 = .ok (.goto (-26), 3) := by decide +kernel
theorem dX4_rightOnes_34 : decode cX4_rightOnes 34 = .ok (.iload_n 3, 1) := by decide +kernel
theorem dX4_rightOnes_35 : decode cX4_rightOnes 35 = .ok (.ireturn, 1) := by decide +kernel
def mX4_rightOnes : MM := (yX4_rightOnes, cX4_rightOnes, 5, Option.some Jvm.ClassFile.FieldType.int, { frames := 2, cells := 0, slots := 0, locals := 46 })
def X4_rightOnes_L5 (σ_ : SS) (o1_ : Nat) (u2_ : Int32)  : Nat → Int32 → Int32 → Option Int32 :=
  lp (fun _ _ => none) fun rec v3_ v4_ =>
    if (gI σ_ 58 0) ≤ v4_ then (
      some v3_
      ) else (
      bnd1 (fX4_isRight σ_ o1_ v4_ u2_) fun b2 =>
      if b2 = true then (
        rec (v3_ + (1 : Int32)) (v4_ + (1 : Int32))
        ) else (
        rec v3_ (v4_ + (1 : Int32))
        )
      )

def fX4_rightOnes (σ0 : SS) (a1 : Nat) (a2 : Int32) : Option Int32 :=
  X4_rightOnes_L5 σ0 a1 a2
  fuel (0 : Int32) (0 : Int32)

set_option maxRecDepth 20000 in
theorem sX4_rightOnes_L5 {g : GG} {r : Int32} {σ_ : SS} {σ0 : SS} {o1_ : Nat} {u2_ : Int32}  (hs1_ : shp o1_ = (1, 0))
    (hw_ : WT σ_)
    (h0_ : σ_ = σ0)
    (n : Nat) : ∀ (v3_ : Int32) (v4_ : Int32), X4_rightOnes_L5 σ_ o1_ u2_ n v3_ v4_ = some r → RR g mX4_rightOnes (FinR g mX4_rightOnes (some (.int r)) NF σ0) zF 5 [(0, .ref (ad g 58)), (1, .ref (ad g o1_)), (2, .int u2_), (3, .int v3_), (4, .int v4_)] [] σ_ := by
  unfold X4_rightOnes_L5
  refine lp_ind (P := fun (rec : Int32 → Int32 → Option Int32) => ∀ (v3_ : Int32) (v4_ : Int32), rec v3_ v4_ = some r → RR g mX4_rightOnes (FinR g mX4_rightOnes (some (.int r)) NF σ0) zF 5 [(0, .ref (ad g 58)), (1, .ref (ad g o1_)), (2, .int u2_), (3, .int v3_), (4, .int v4_)] [] σ_) ?_ ?_ n
  · intro v3_ v4_ hr; cases hr
  intro rec ih v3_ v4_ hr
  subst h0_
  refine r_iload (pc := 5) (j := 4) dX4_rightOnes_5 rfl ?_
  refine r_aload_n (pc := 7) (j := 0) dX4_rightOnes_7 rfl rfl ?_
  refine gf4_0 (pc := 8) tw_2_78 rfl dX4_rightOnes_8 ?_
  refine r_icmp_ge (pc := 11) (tgt := 34) dX4_rightOnes_11 rfl (fun hc => ?_) (fun hc => ?_)
  · replace hr := ite_t hc hr
    refine r_iload_n (pc := 34) (j := 3) dX4_rightOnes_34 rfl rfl ?_
    exact l_opi hr (r_iret (pc := 35) (v := v3_) rfl rfl ⟨Nat.le_refl _, Nat.le_refl _⟩ dX4_rightOnes_35)
  replace hr := ite_f hc hr
  refine r_aload_n (pc := 14) (j := 0) dX4_rightOnes_14 rfl rfl ?_
  refine r_aload_n (pc := 15) (j := 1) dX4_rightOnes_15 rfl rfl ?_
  refine r_iload (pc := 16) (j := 4) dX4_rightOnes_16 rfl ?_
  refine r_iload_n (pc := 18) (j := 2) dX4_rightOnes_18 rfl rfl ?_
  obtain ⟨b2, hb2, hr⟩ := bnd1_inv hr
  refine kX4_isRight (pc := 19) hb2 hs1_ tw_5_37 ⟨nle rfl, nle rfl⟩ (nle rfl) dX4_rightOnes_19 ?_
  refine r_ifB_eq (pc := 22) (tgt := 28) dX4_rightOnes_22 rfl (fun hc => ?_) (fun hc => ?_)
  · replace hr := ite_f hc hr
    refine r_iinc (pc := 28) (j := 4) (v := (v4_ + (1 : Int32))) (ls1 := [(4, .int (v4_ + (1 : Int32))), (0, .ref (ad g 58)), (1, .ref (ad g o1_)), (2, .int u2_), (3, .int v3_)]) dX4_rightOnes_28 rfl rfl (nle rfl) rfl ?_
    refine r_goto (pc := 31) (tgt := 5) dX4_rightOnes_31 rfl ?_
    exact r_pick (ls1 := [(0, .ref (ad g 58)), (1, .ref (ad g o1_)), (2, .int u2_), (3, .int v3_), (4, .int (v4_ + (1 : Int32)))]) [1, 2, 3, 4, 0] rfl (ih v3_ (v4_ + (1 : Int32)) hr)
  replace hr := ite_t hc hr
  refine r_iinc (pc := 25) (j := 3) (v := (v3_ + (1 : Int32))) (ls1 := [(3, .int (v3_ + (1 : Int32))), (0, .ref (ad g 58)), (1, .ref (ad g o1_)), (2, .int u2_), (4, .int v4_)]) dX4_rightOnes_25 rfl rfl (nle rfl) rfl ?_
  refine r_iinc (pc := 28) (j := 4) (v := (v4_ + (1 : Int32))) (ls1 := [(4, .int (v4_ + (1 : Int32))), (3, .int (v3_ + (1 : Int32))), (0, .ref (ad g 58)), (1, .ref (ad g o1_)), (2, .int u2_)]) dX4_rightOnes_28 rfl rfl (nle rfl) rfl ?_
  refine r_goto (pc := 31) (tgt := 5) dX4_rightOnes_31 rfl ?_
  exact r_pick (ls1 := [(0, .ref (ad g 58)), (1, .ref (ad g o1_)), (2, .int u2_), (3, .int (v3_ + (1 : Int32))), (4, .int (v4_ + (1 : Int32)))]) [2, 3, 4, 1, 0] rfl (ih (v3_ + (1 : Int32)) (v4_ + (1 : Int32)) hr)

set_option maxRecDepth 20000 in
theorem sX4_rightOnes {g : GG} {σ0 : SS} {a1 : Nat} {a2 : Int32} {r : Int32} (hr : fX4_rightOnes σ0 a1 a2 = some r) (hs1 : shp a1 = (1, 0)) : Ct g mX4_rightOnes [.ref (ad g 58), .ref (ad g a1), .int a2] NF σ0 (some (.int r)) NF σ0 := by
  refine Ct.of (by decide +kernel) (nle rfl) fun hw0 => ?_
  have hw := hw0 rfl
  unfold fX4_rightOnes at hr
  change RR g mX4_rightOnes (FinR g mX4_rightOnes (some (.int r)) NF σ0) zF 0 [(0, .ref (ad g 58)), (1, .ref (ad g a1)), (2, .int a2)] [] σ0
  refine r_iconst (pc := 0) (v := (0 : Int32)) dX4_rightOnes_0 rfl ?_
  refine r_istore_n (pc := 1) (ls1 := [(3, .int (0 : Int32)), (0, .ref (ad g 58)), (1, .ref (ad g a1)), (2, .int a2)]) dX4_rightOnes_1 rfl (nle rfl) rfl ?_
  refine r_iconst (pc := 2) (v := (0 : Int32)) dX4_rightOnes_2 rfl ?_
  refine r_istore (pc := 3) (ls1 := [(4, .int (0 : Int32)), (3, .int (0 : Int32)), (0, .ref (ad g 58)), (1, .ref (ad g a1)), (2, .int a2)]) dX4_rightOnes_3 (nle rfl) rfl ?_
  refine r_pick (ls1 := [(0, .ref (ad g 58)), (1, .ref (ad g a1)), (2, .int a2), (3, .int (0 : Int32)), (4, .int (0 : Int32))]) [2, 3, 4, 1, 0] rfl ?_
  refine sX4_rightOnes_L5 hs1 hw rfl  fuel (0 : Int32) (0 : Int32) hr

theorem kX4_rightOnes {g : GG} {σ0 : SS} {a1 : Nat} {a2 : Int32} {v : Int32} {M : MM} {F : State → Array Value → List Frame → State → Prop} {pc index : Nat} {ls : List (Nat × Value)} {rest : List Value} (hf : fX4_rightOnes σ0 a1 a2 = some v) (hs1 : shp a1 = (1, 0)) (hl : Cond.methodLink M.1.cls index yX4_rightOnes ∈ lw_gt) (hR : mX4_rightOnes.2.2.2.2.frames + 1 ≤ M.2.2.2.2.frames ∧ 8 + (mX4_rightOnes.2.2.1 + 11) + mX4_rightOnes.2.2.2.2.locals ≤ M.2.2.2.2.locals) (hrest : (rest.map fun v => v.category).sum ≤ 8) (hd : decode M.2.1 pc = .ok (.invokevirtual index, 3)) (k : RR g M F zF (pc + 3) ls (.int v :: rest) σ0) : RR g M F zF pc ls (.int a2 :: .ref (ad g a1) :: .ref (ad g 58) :: rest) σ0 :=
  r_callV (z := zF) (N := mX4_rightOnes) (nn := 2) (o1 := some (.int v)) (sX4_rightOnes hf hs1) (rfl : shp 58 = (4, 0)) (by decide) (shp_le (rfl : shp 58 = (4, 0)) (nle rfl)) (ci := 4) rfl rfl tw_5_36 tw_1_8 hl tw_5_34 tw_5_35 ⟨by decide, by decide, rfl⟩ hR rfl hrest hd ⟨Nat.zero_le _, Nat.zero_le _⟩ rfl (fun h => k)

theorem dX4_choosing_0 : decode cX4_choosing 0 = .ok (.iconst 0, 1) := by decide +kernel
theorem dX4_choosing_1 : decode cX4_choosing 1 = .ok (.istore_n 3, 1) := by decide +kernel
theorem dX4_choosing_2 : decode cX4_choosing 2 = .ok (.iconst 0, 1) := by decide +kernel
theorem dX4_choosing_3 : decode cX4_choosing 3 = .ok (.istore 4, 2) := by decide +kernel
theorem dX4_choosing_5 : decode cX4_choosing 5 = .ok (.iload 4, 2) := by decide +kernel
theorem dX4_choosing_7 : decode cX4_choosing 7 = .ok (.aload_n 0, 1) := by decide +kernel
theorem dX4_choosing_8 : decode cX4_choosing 8 = .ok (.getfield 27, 3) := by decide +kernel
theorem dX4_choosing_11 : decode cX4_choosing 11 = .ok (.if_icmp .ge 23, 3) := by decide +kernel
theorem dX4_choosing_14 : decode cX4_choosing 14 = .ok (.iload_n 3, 1) := by decide +kernel
theorem dX4_choosing_15 : decode cX4_choosing 15 = .ok (.aload_n 0, 1) := by decide +kernel
theorem dX4_choosing_16 : decode cX4_choosing 16 = .ok (.iload 4, 2) := by decide +kernel
theorem dX4_choosing_18 : decode cX4_choosing 18 = .ok (.iload_n 1, 1) := by decide +kernel
theorem dX4_choosing_19 : decode cX4_choosing 19 = .ok (.invokevirtual 49, 3) := by decide +kernel
theorem dX4_choosing_22 : decode cX4_choosing 22 = .ok (.iload_n 2, 1) := by decide +kernel
theorem dX4_choosing_23 : decode cX4_choosing 23 = .ok (.ishr, 1) := by decide +kernel
theorem dX4_choosing_24 : decode cX4_choosing 24 = .ok (.iconst 1, 1) := by decide +kernel
theorem dX4_choosing_25 : decode cX4_choosing 25 = .ok (.iand, 1) := by decide +kernel
theorem dX4_choosing_26 : decode cX4_choosing 26 = .ok (.iadd, 1) := by decide +kernel
theorem dX4_choosing_27 : decode cX4_choosing 27 = .ok (.istore_n 3, 1) := by decide +kernel
theorem dX4_choosing_28 : decode cX4_choosing 28 = .ok (.iinc 4 1, 3) := by decide +kernel
theorem dX4_choosing_31 : decode cX4_choosing 31 = .ok (.goto (-26), 3) := by decide +kernel
theorem dX4_choosing_34 : decode cX4_choosing 34 = .ok (.iload_n 3, 1) := by decide +kernel
theorem dX4_choosing_35 : decode cX4_choosing 35 = .ok (.ireturn, 1) := by decide +kernel
def mX4_choosing : MM := (yX4_choosing, cX4_choosing, 5, Option.some Jvm.ClassFile.FieldType.int, { frames := 1, cells := 0, slots := 0, locals := 22 })
def X4_choosing_L5 (σ_ : SS) (u1_ : Int32) (u2_ : Int32)  : Nat → Int32 → Int32 → Option Int32 :=
  lp (fun _ _ => none) fun rec v3_ v4_ =>
    if (gI σ_ 58 0) ≤ v4_ then (
      some v3_
      ) else (
      bnd1 (fX4_answer σ_ v4_ u1_) fun v1 =>
      vthen (v3_ + ((v1 >>> (u2_ &&& 31)) &&& (1 : Int32))) fun v4 =>
      rec v4 (v4_ + (1 : Int32))
      )

def fX4_choosing (σ0 : SS) (a1 : Int32) (a2 : Int32) : Option Int32 :=
  X4_choosing_L5 σ0 a1 a2
  fuel (0 : Int32) (0 : Int32)

set_option maxRecDepth 20000 in
theorem sX4_choosing_L5 {g : GG} {r : Int32} {σ_ : SS} {σ0 : SS} {u1_ : Int32} {u2_ : Int32}  
    (hw_ : WT σ_)
    (h0_ : σ_ = σ0)
    (n : Nat) : ∀ (v3_ : Int32) (v4_ : Int32), X4_choosing_L5 σ_ u1_ u2_ n v3_ v4_ = some r → RR g mX4_choosing (FinR g mX4_choosing (some (.int r)) NF σ0) zF 5 [(0, .ref (ad g 58)), (1, .int u1_), (2, .int u2_), (3, .int v3_), (4, .int v4_)] [] σ_ := by
  unfold X4_choosing_L5
  refine lp_ind (P := fun (rec : Int32 → Int32 → Option Int32) => ∀ (v3_ : Int32) (v4_ : Int32), rec v3_ v4_ = some r → RR g mX4_choosing (FinR g mX4_choosing (some (.int r)) NF σ0) zF 5 [(0, .ref (ad g 58)), (1, .int u1_), (2, .int u2_), (3, .int v3_), (4, .int v4_)] [] σ_) ?_ ?_ n
  · intro v3_ v4_ hr; cases hr
  intro rec ih v3_ v4_ hr
  subst h0_
  refine r_iload (pc := 5) (j := 4) dX4_choosing_5 rfl ?_
  refine r_aload_n (pc := 7) (j := 0) dX4_choosing_7 rfl rfl ?_
  refine gf4_0 (pc := 8) tw_2_78 rfl dX4_choosing_8 ?_
  refine r_icmp_ge (pc := 11) (tgt := 34) dX4_choosing_11 rfl (fun hc => ?_) (fun hc => ?_)
  · replace hr := ite_t hc hr
    refine r_iload_n (pc := 34) (j := 3) dX4_choosing_34 rfl rfl ?_
    exact l_opi hr (r_iret (pc := 35) (v := v3_) rfl rfl ⟨Nat.le_refl _, Nat.le_refl _⟩ dX4_choosing_35)
  replace hr := ite_f hc hr
  refine r_iload_n (pc := 14) (j := 3) dX4_choosing_14 rfl rfl ?_
  refine r_aload_n (pc := 15) (j := 0) dX4_choosing_15 rfl rfl ?_
  refine r_iload (pc := 16) (j := 4) dX4_choosing_16 rfl ?_
  refine r_iload_n (pc := 18) (j := 1) dX4_choosing_18 rfl rfl ?_
  obtain ⟨v1, hv1, hr⟩ := bnd1_inv hr
  refine kX4_answer (pc := 19) hv1 tw_5_41 ⟨nle rfl, nle rfl⟩ (nle rfl) dX4_choosing_19 ?_
  refine r_iload_n (pc := 22) (j := 2) dX4_choosing_22 rfl rfl ?_
  refine r_ishr (pc := 23) dX4_choosing_23 ?_
  refine r_iconst (pc := 24) (v := (1 : Int32)) dX4_choosing_24 rfl ?_
  refine r_iand (pc := 25) dX4_choosing_25 ?_
  refine r_iadd (pc := 26) dX4_choosing_26 ?_
  refine r_topi fun v4 ev4 => ?_
  replace hr := vthen_inv hr v4 ev4
  refine r_istore_n (pc := 27) (ls1 := [(3, .int v4), (0, .ref (ad g 58)), (1, .int u1_), (2, .int u2_), (4, .int v4_)]) dX4_choosing_27 rfl (nle rfl) rfl ?_
  refine r_iinc (pc := 28) (j := 4) (v := (v4_ + (1 : Int32))) (ls1 := [(4, .int (v4_ + (1 : Int32))), (3, .int v4), (0, .ref (ad g 58)), (1, .int u1_), (2, .int u2_)]) dX4_choosing_28 rfl rfl (nle rfl) rfl ?_
  refine r_goto (pc := 31) (tgt := 5) dX4_choosing_31 rfl ?_
  exact r_pick (ls1 := [(0, .ref (ad g 58)), (1, .int u1_), (2, .int u2_), (3, .int v4), (4, .int (v4_ + (1 : Int32)))]) [2, 3, 4, 1, 0] rfl (ih v4 (v4_ + (1 : Int32)) hr)

set_option maxRecDepth 20000 in
theorem sX4_choosing {g : GG} {σ0 : SS} {a1 : Int32} {a2 : Int32} {r : Int32} (hr : fX4_choosing σ0 a1 a2 = some r)  : Ct g mX4_choosing [.ref (ad g 58), .int a1, .int a2] NF σ0 (some (.int r)) NF σ0 := by
  refine Ct.of (by decide +kernel) (nle rfl) fun hw0 => ?_
  have hw := hw0 rfl
  unfold fX4_choosing at hr
  change RR g mX4_choosing (FinR g mX4_choosing (some (.int r)) NF σ0) zF 0 [(0, .ref (ad g 58)), (1, .int a1), (2, .int a2)] [] σ0
  refine r_iconst (pc := 0) (v := (0 : Int32)) dX4_choosing_0 rfl ?_
  refine r_istore_n (pc := 1) (ls1 := [(3, .int (0 : Int32)), (0, .ref (ad g 58)), (1, .int a1), (2, .int a2)]) dX4_choosing_1 rfl (nle rfl) rfl ?_
  refine r_iconst (pc := 2) (v := (0 : Int32)) dX4_choosing_2 rfl ?_
  refine r_istore (pc := 3) (ls1 := [(4, .int (0 : Int32)), (3, .int (0 : Int32)), (0, .ref (ad g 58)), (1, .int a1), (2, .int a2)]) dX4_choosing_3 (nle rfl) rfl ?_
  refine r_pick (ls1 := [(0, .ref (ad g 58)), (1, .int a1), (2, .int a2), (3, .int (0 : Int32)), (4, .int (0 : Int32))]) [2, 3, 4, 1, 0] rfl ?_
  refine sX4_choosing_L5  hw rfl  fuel (0 : Int32) (0 : Int32) hr

theorem kX4_choosing {g : GG} {σ0 : SS} {a1 : Int32} {a2 : Int32} {v : Int32} {M : MM} {F : State → Array Value → List Frame → State → Prop} {pc index : Nat} {ls : List (Nat × Value)} {rest : List Value} (hf : fX4_choosing σ0 a1 a2 = some v)  (hl : Cond.methodLink M.1.cls index yX4_choosing ∈ lw_gt) (hR : mX4_choosing.2.2.2.2.frames + 1 ≤ M.2.2.2.2.frames ∧ 8 + (mX4_choosing.2.2.1 + 11) + mX4_choosing.2.2.2.2.locals ≤ M.2.2.2.2.locals) (hrest : (rest.map fun v => v.category).sum ≤ 8) (hd : decode M.2.1 pc = .ok (.invokevirtual index, 3)) (k : RR g M F zF (pc + 3) ls (.int v :: rest) σ0) : RR g M F zF pc ls (.int a2 :: .int a1 :: .ref (ad g 58) :: rest) σ0 :=
  r_callV (z := zF) (N := mX4_choosing) (nn := 2) (o1 := some (.int v)) (sX4_choosing hf ) (rfl : shp 58 = (4, 0)) (by decide) (shp_le (rfl : shp 58 = (4, 0)) (nle rfl)) (ci := 4) rfl rfl tw_5_45 tw_1_8 hl tw_5_43 tw_5_44 ⟨by decide, by decide, rfl⟩ hR rfl hrest hd ⟨Nat.zero_le _, Nat.zero_le _⟩ rfl (fun h => k)

theorem dX7_chosen_0 : decode cX7_chosen 0 = .ok (.aload_n 0, 1) := by decide +kernel
theorem dX7_chosen_1 : decode cX7_chosen 1 = .ok (.getfield 32, 3) := by decide +kernel
theorem dX7_chosen_4 : decode cX7_chosen 4 = .ok (.iload_n 1, 1) := by decide +kernel
theorem dX7_chosen_5 : decode cX7_chosen 5 = .ok (.invokevirtual 121, 3) := by decide +kernel
theorem dX7_chosen_8 : decode cX7_chosen 8 = .ok (.ifCond .ne 5, 3) := by decide +kernel
theorem dX7_chosen_11 : decode cX7_chosen 11 = .ok (.iconst (-1), 1) := by decide +kernel
theorem dX7_chosen_12 : decode cX7_chosen 12 = .ok (.ireturn, 1) := by decide +kernel
theorem dX7_chosen_13 : decode cX7_chosen 13 = .ok (.iload_n 2, 1) := by decide +kernel
theorem dX7_chosen_14 : decode cX7_chosen 14 = .ok (.iconst (-1), 1) := by decide +kernel
theorem dX7_chosen_15 : decode cX7_chosen 15 = .ok (.if_icmp .ne 16, 3) := by decide +kernel
theorem dX7_chosen_18 : decode cX7_chosen 18 = .ok (.aload_n 0, 1) := by decide +kernel
theorem dX7_chosen_19 : decode cX7_chosen 19 = .ok (.getfield 69, 3) := by decide +kernel
theorem dX7_chosen_22 : decode cX7_chosen 22 = .ok (.aload_n 0, 1) := by decide +kernel
theorem dX7_chosen_23 : decode cX7_chosen 23 = .ok (.getfield 32, 3) := by decide +kernel
theorem dX7_chosen_26 : decode cX7_chosen 26 = .ok (.iload_n 1, 1) := by decide +kernel
theorem dX7_chosen_27 : decode cX7_chosen 27 = .ok (.invokevirtual 379, 3) := by decide +kernel
theorem dX7_chosen_30 : decode cX7_chosen 30 = .ok (.ireturn, 1) := by decide +kernel
theorem dX7_chosen_31 : decode cX7_chosen 31 = .ok (.aload_n 0, 1) := by decide +kernel
theorem dX7_chosen_32 : decode cX7_chosen 32 = .ok (.getfield 32, 3) := by decide +kernel
theorem dX7_chosen_35 : decode cX7_chosen 35 = .ok (.iload_n 1, 1) := by decide +kernel
theorem dX7_chosen_36 : decode cX7_chosen 36 = .ok (.iload_n 2, 1) := by decide +kernel
theorem dX7_chosen_37 : decode cX7_chosen 37 = .ok (.invokevirtual 138, 3) := by decide +kernel
theorem dX7_chosen_40 : decode cX7_chosen 40 = .ok (.ifCond .eq 15, 3) := by decide +kernel
theorem dX7_chosen_43 : decode cX7_chosen 43 = .ok (.aload_n 0, 1) := by decide +kernel
theorem dX7_chosen_44 : decode cX7_chosen 44 = .ok (.getfield 69, 3) := by decide +kernel
theorem dX7_chosen_47 : decode cX7_chosen 47 = .ok (.iload_n 1, 1) := by decide +kernel
theorem dX7_chosen_48 : decode cX7_chosen 48 = .ok (.iload_n 2, 1) := by decide +kernel
theorem dX7_chosen_49 : decode cX7_chosen 49 = .ok (.invokevirtual 382, 3) := by decide +kernel
theorem dX7_chosen_52 : decode cX7_chosen 52 = .ok (.goto 4, 3) := by decide +kernel
theorem dX7_chosen_55 : decode cX7_chosen 55 = .ok (.iconst (-1), 1) := by decide +kernel
theorem dX7_chosen_56 : decode cX7_chosen 56 = .ok (.ireturn, 1) := by decide +kernel
def mX7_chosen : MM := (yX7_chosen, cX7_chosen, 3, Option.some Jvm.ClassFile.FieldType.int, { frames := 3, cells := 0, slots := 0, locals := 70 })
def fX7_chosen (σ0 : SS) (a1 : Int32) (a2 : Int32) : Option Int32 :=
  if (fX1_hasQuestion σ0 (gR σ0 1 5) a1) = true then (
    if a2 = (-1 : Int32) then (
      bnd1 (fX4_rightOnes σ0 (gR σ0 1 5) a1) fun v7 =>
      some v7
      ) else (
      bnd1 (fX1_hasBox σ0 (gR σ0 1 5) a1 a2) fun b2 =>
      if b2 = true then (
        bnd1 (fX4_choosing σ0 a1 a2) fun v4 =>
        some v4
        ) else (
        some (-1 : Int32)
        )
      )
    ) else (
    some (-1 : Int32)
    )

set_option maxRecDepth 20000 in
theorem sX7_chosen {g : GG} {σ0 : SS} {a1 : Int32} {a2 : Int32} {r : Int32} (hr : fX7_chosen σ0 a1 a2 = some r)  : Ct g mX7_chosen [.ref (ad g 1), .int a1, .int a2] NF σ0 (some (.int r)) NF σ0 := by
  refine Ct.of (by decide +kernel) (nle rfl) fun hw0 => ?_
  have hw := hw0 rfl
  unfold fX7_chosen at hr
  change RR g mX7_chosen (FinR g mX7_chosen (some (.int r)) NF σ0) zF 0 [(0, .ref (ad g 1)), (1, .int a1), (2, .int a2)] [] σ0
  refine r_aload_n (pc := 0) (j := 0) dX7_chosen_0 rfl rfl ?_
  refine gf7_5 (pc := 1) tw_2_114 hw dX7_chosen_1 ?_
  refine r_iload_n (pc := 4) (j := 1) dX7_chosen_4 rfl rfl ?_
  refine kX1_hasQuestion (pc := 5) (hf := rfl) (wt_fo hw).1 tw_3_87 ⟨nle rfl, nle rfl⟩ (nle rfl) dX7_chosen_5 ?_
  refine r_ifB_ne (pc := 8) (tgt := 13) dX7_chosen_8 rfl (fun hc => ?_) (fun hc => ?_)
  · replace hr := ite_t hc hr
    refine r_iload_n (pc := 13) (j := 2) dX7_chosen_13 rfl rfl ?_
    refine r_iconst (pc := 14) (v := (-1 : Int32)) dX7_chosen_14 rfl ?_
    refine r_icmp_ne (pc := 15) (tgt := 31) dX7_chosen_15 rfl (fun hc => ?_) (fun hc => ?_)
    · replace hr := ite_f hc hr
      refine r_aload_n (pc := 31) (j := 0) dX7_chosen_31 rfl rfl ?_
      refine gf7_5 (pc := 32) tw_2_114 hw dX7_chosen_32 ?_
      refine r_iload_n (pc := 35) (j := 1) dX7_chosen_35 rfl rfl ?_
      refine r_iload_n (pc := 36) (j := 2) dX7_chosen_36 rfl rfl ?_
      obtain ⟨b2, hb2, hr⟩ := bnd1_inv hr
      refine kX1_hasBox (pc := 37) hb2 (wt_fo hw).1 tw_3_91 ⟨nle rfl, nle rfl⟩ (nle rfl) dX7_chosen_37 ?_
      refine r_ifB_eq (pc := 40) (tgt := 55) dX7_chosen_40 rfl (fun hc => ?_) (fun hc => ?_)
      · replace hr := ite_f hc hr
        refine r_iconst (pc := 55) (v := (-1 : Int32)) dX7_chosen_55 rfl ?_
        exact l_opi hr (r_iret (pc := 56) (v := (-1 : Int32)) rfl rfl ⟨Nat.le_refl _, Nat.le_refl _⟩ dX7_chosen_56)
      replace hr := ite_t hc hr
      refine r_aload_n (pc := 43) (j := 0) dX7_chosen_43 rfl rfl ?_
      refine gf7_13 (pc := 44) tw_2_122 hw dX7_chosen_44 ?_
      refine r_iload_n (pc := 47) (j := 1) dX7_chosen_47 rfl rfl ?_
      refine r_iload_n (pc := 48) (j := 2) dX7_chosen_48 rfl rfl ?_
      obtain ⟨v4, hv4, hr⟩ := bnd1_inv hr
      refine kX4_choosing (pc := 49) hv4 tw_5_42 ⟨nle rfl, nle rfl⟩ (nle rfl) dX7_chosen_49 ?_
      refine r_goto (pc := 52) (tgt := 56) dX7_chosen_52 rfl ?_
      exact l_opi hr (r_iret (pc := 56) (v := v4) rfl rfl ⟨Nat.le_refl _, Nat.le_refl _⟩ dX7_chosen_56)
    replace hr := ite_t hc hr
    refine r_aload_n (pc := 18) (j := 0) dX7_chosen_18 rfl rfl ?_
    refine gf7_13 (pc := 19) tw_2_122 hw dX7_chosen_19 ?_
    refine r_aload_n (pc := 22) (j := 0) dX7_chosen_22 rfl rfl ?_
    refine gf7_5 (pc := 23) tw_2_114 hw dX7_chosen_23 ?_
    refine r_iload_n (pc := 26) (j := 1) dX7_chosen_26 rfl rfl ?_
    obtain ⟨v7, hv7, hr⟩ := bnd1_inv hr
    refine kX4_rightOnes (pc := 27) hv7 (wt_fo hw).1 tw_5_33 ⟨nle rfl, nle rfl⟩ (nle rfl) dX7_chosen_27 ?_
    exact l_opi hr (r_iret (pc := 30) (v := v7) rfl rfl ⟨Nat.le_refl _, Nat.le_refl _⟩ dX7_chosen_30)
  replace hr := ite_f hc hr
  refine r_iconst (pc := 11) (v := (-1 : Int32)) dX7_chosen_11 rfl ?_
  exact l_opi hr (r_iret (pc := 12) (v := (-1 : Int32)) rfl rfl ⟨Nat.le_refl _, Nat.le_refl _⟩ dX7_chosen_12)

theorem kX7_chosen {g : GG} {σ0 : SS} {a1 : Int32} {a2 : Int32} {v : Int32} {M : MM} {F : State → Array Value → List Frame → State → Prop} {pc index : Nat} {ls : List (Nat × Value)} {rest : List Value} (hf : fX7_chosen σ0 a1 a2 = some v)  (hl : Cond.methodLink M.1.cls index yX7_chosen ∈ lw_gt) (hR : mX7_chosen.2.2.2.2.frames + 1 ≤ M.2.2.2.2.frames ∧ 8 + (mX7_chosen.2.2.1 + 11) + mX7_chosen.2.2.2.2.locals ≤ M.2.2.2.2.locals) (hrest : (rest.map fun v => v.category).sum ≤ 8) (hd : decode M.2.1 pc = .ok (.invokevirtual index, 3)) (k : RR g M F zF (pc + 3) ls (.int v :: rest) σ0) : RR g M F zF pc ls (.int a2 :: .int a1 :: .ref (ad g 1) :: rest) σ0 :=
  r_callV (z := zF) (N := mX7_chosen) (nn := 2) (o1 := some (.int v)) (sX7_chosen hf ) (rfl : shp 1 = (7, 0)) (by decide) (shp_le (rfl : shp 1 = (7, 0)) (nle rfl)) (ci := 7) rfl rfl tw_5_32 tw_1_1 hl tw_5_30 tw_5_31 ⟨by decide, by decide, rfl⟩ hR rfl hrest hd ⟨Nat.zero_le _, Nat.zero_le _⟩ rfl (fun h => k)

theorem dX8_isRight_0 : decode cX8_isRight 0 = .ok (.aload_n 0, 1) := by decide +kernel
theorem dX8_isRight_1 : decode cX8_isRight 1 = .ok (.iload_n 2, 1) := by decide +kernel
theorem dX8_isRight_2 : decode cX8_isRight 2 = .ok (.invokevirtual 394, 3) := by decide +kernel
theorem dX8_isRight_5 : decode cX8_isRight 5 = .ok (.ifCond .eq 52, 3) := by decide +kernel
theorem dX8_isRight_8 : decode cX8_isRight 8 = .ok (.aload_n 0, 1) := by decide +kernel
theorem dX8_isRight_9 : decode cX8_isRight 9 = .ok (.getfield 126, 3) := by decide +kernel
theorem dX8_isRight_12 : decode cX8_isRight 12 = .ok (.bipush 12, 2) := by decide +kernel
theorem dX8_isRight_14 : decode cX8_isRight 14 = .ok (.iload_n 1, 1) := by decide +kernel
theorem dX8_isRight_15 : decode cX8_isRight 15 = .ok (.imul, 1) := by decide +kernel
theorem dX8_isRight_16 : decode cX8_isRight 16 = .ok (.iload_n 2, 1) := by decide +kernel
theorem dX8_isRight_17 : decode cX8_isRight 17 = .ok (.iadd, 1) := by decide +kernel
theorem dX8_isRight_18 : decode cX8_isRight 18 = .ok (.iaload, 1) := by decide +kernel
theorem dX8_isRight_19 : decode cX8_isRight 19 = .ok (.aload_n 0, 1) := by decide +kernel
theorem dX8_isRight_20 : decode cX8_isRight 20 = .ok (.iload_n 2, 1) := by decide +kernel
theorem dX8_isRight_21 : decode cX8_isRight 21 = .ok (.invokevirtual 394, 3) := by decide +kernel
theorem dX8_isRight_24 : decode cX8_isRight 24 = .ok (.if_icmp .ne 33, 3) := by decide +kernel
theorem dX8_isRight_27 : decode cX8_isRight 27 = .ok (.aload_n 0, 1) := by decide +kernel
theorem dX8_isRight_28 : decode cX8_isRight 28 = .ok (.getfield 120, 3) := by decide +kernel
theorem dX8_isRight_31 : decode cX8_isRight 31 = .ok (.iload_n 1, 1) := by decide +kernel
theorem dX8_isRight_32 : decode cX8_isRight 32 = .ok (.iaload, 1) := by decide +kernel
theorem dX8_isRight_33 : decode cX8_isRight 33 = .ok (.iload_n 2, 1) := by decide +kernel
theorem dX8_isRight_34 : decode cX8_isRight 34 = .ok (.invokestatic 228, 3) := by decide +kernel
theorem dX8_isRight_37 : decode cX8_isRight 37 = .ok (.ifCond .ne 20, 3) := by decide +kernel
theorem dX8_isRight_40 : decode cX8_isRight 40 = .ok (.aload_n 0, 1) := by decide +kernel
theorem dX8_isRight_41 : decode cX8_isRight 41 = .ok (.getfield 123, 3) := by decide +kernel
theorem dX8_isRight_44 : decode cX8_isRight 44 = .ok (.iload_n 1, 1) := by decide +kernel
theorem dX8_isRight_45 : decode cX8_isRight 45 = .ok (.iaload, 1) := by decide +kernel
theorem dX8_isRight_46 : decode cX8_isRight 46 = .ok (.iload_n 2, 1) := by decide +kernel
theorem dX8_isRight_47 : decode cX8_isRight 47 = .ok (.invokestatic 228, 3) := by decide +kernel
theorem dX8_isRight_50 : decode cX8_isRight 50 = .ok (.ifCond .ne 7, 3) := by decide +kernel
theorem dX8_isRight_53 : decode cX8_isRight 53 = .ok (.iconst 1, 1) := by decide +kernel
theorem dX8_isRight_54 : decode cX8_isRight 54 = .ok (.goto 4, 3) := by decide +kernel
theorem dX8_isRight_57 : decode cX8_isRight 57 = .ok (.iconst 0, 1) := by decide +kernel
theorem dX8_isRight_58 : decode cX8_isRight 58 = .ok (.ireturn, 1) := by decide +kernel
def mX8_isRight : MM := (yX8_isRight, cX8_isRight, 3, Option.some Jvm.ClassFile.FieldType.boolean, { frames := 1, cells := 0, slots := 0, locals := 21 })
def fX8_isRight (σ0 : SS) (a1 : Int32) (a2 : Int32) : Option Bool :=
  bnd1 (fX8_keyOf σ0 a2) fun v1 =>
  vthen (fun (_u : Unit) =>
    some false
    ) fun j57 =>
  if v1 = 0 then (
    j57 ()
    ) else (
    grd (inb (((12 : Int32) * a1) + a2) 192) <|
    bnd1 (fX8_keyOf σ0 a2) fun v5 =>
    if (gI σ0 112 (Int32.toNatClampNeg (((12 : Int32) * a1) + a2))) = v5 then (
      grd (inb a1 16) <|
      if (fX8_has σ0 (gI σ0 110 (Int32.toNatClampNeg a1)) a2) = true then (
        j57 ()
        ) else (
        if (fX8_has σ0 (gI σ0 111 (Int32.toNatClampNeg a1)) a2) = true then (
          j57 ()
          ) else (
          some true
          )
        )
      ) else (
      j57 ()
      )
    )

set_option maxRecDepth 20000 in
theorem sX8_isRight {g : GG} {σ0 : SS} {a1 : Int32} {a2 : Int32} {r : Bool} (hr : fX8_isRight σ0 a1 a2 = some r)  : Ct g mX8_isRight [.ref (ad g 73), .int a1, .int a2] NF σ0 (some (.int (b2i r))) NF σ0 := by
  refine Ct.of (by decide +kernel) (nle rfl) fun hw0 => ?_
  have hw := hw0 rfl
  unfold fX8_isRight at hr
  change RR g mX8_isRight (FinR g mX8_isRight (some (.int (b2i r))) NF σ0) zF 0 [(0, .ref (ad g 73)), (1, .int a1), (2, .int a2)] [] σ0
  refine r_aload_n (pc := 0) (j := 0) dX8_isRight_0 rfl rfl ?_
  refine r_iload_n (pc := 1) (j := 2) dX8_isRight_1 rfl rfl ?_
  obtain ⟨v1, hv1, hr⟩ := bnd1_inv hr
  refine kX8_keyOf (pc := 2) hv1 tw_7_123 ⟨nle rfl, nle rfl⟩ (nle rfl) dX8_isRight_2 ?_
  obtain ⟨j57, ej57, hr⟩ := vth_ex hr
  have hj57 : j57 () = some r → RR g mX8_isRight (FinR g mX8_isRight (some (.int (b2i r))) NF σ0) zF 57 [] [] σ0 := by
    intro  hr
    replace hr := (congrFun ej57 ()).symm.trans hr
    refine r_iconst (pc := 57) (v := (0 : Int32)) dX8_isRight_57 rfl ?_
    exact l_opz hr (r_zret (pc := 58) (v := b2i false) (ty := .boolean) rfl (b2i_nar _) rfl ⟨Nat.le_refl _, Nat.le_refl _⟩ dX8_isRight_58)
  refine r_if_eq (pc := 5) (tgt := 57) dX8_isRight_5 rfl (fun hc => ?_) (fun hc => ?_)
  · replace hr := ite_t hc hr
    exact r_pick (ls1 := []) [] rfl (hj57  hr)
  replace hr := ite_f hc hr
  refine r_aload_n (pc := 8) (j := 0) dX8_isRight_8 rfl rfl ?_
  refine gf8_63 (pc := 9) tw_5_157 hw dX8_isRight_9 ?_
  refine r_bipush (pc := 12) (v := (12 : Int32)) dX8_isRight_12 rfl ?_
  refine r_iload_n (pc := 14) (j := 1) dX8_isRight_14 rfl rfl ?_
  refine r_imul (pc := 15) dX8_isRight_15 ?_
  refine r_iload_n (pc := 16) (j := 2) dX8_isRight_16 rfl rfl ?_
  refine r_iadd (pc := 17) dX8_isRight_17 ?_
  obtain ⟨h4, hr⟩ := grd_inv hr
  refine x_iald (pc := 18) (k := (Int32.toNatClampNeg (((12 : Int32) * a1) + a2))) rfl h4 rfl dX8_isRight_18 ?_
  refine r_aload_n (pc := 19) (j := 0) dX8_isRight_19 rfl rfl ?_
  refine r_iload_n (pc := 20) (j := 2) dX8_isRight_20 rfl rfl ?_
  obtain ⟨v5, hv5, hr⟩ := bnd1_inv hr
  refine kX8_keyOf (pc := 21) hv5 tw_7_123 ⟨nle rfl, nle rfl⟩ (nle rfl) dX8_isRight_21 ?_
  refine r_icmp_ne (pc := 24) (tgt := 57) dX8_isRight_24 rfl (fun hc => ?_) (fun hc => ?_)
  · replace hr := ite_f hc hr
    exact r_pick (ls1 := []) [] rfl (hj57  hr)
  replace hr := ite_t hc hr
  refine r_aload_n (pc := 27) (j := 0) dX8_isRight_27 rfl rfl ?_
  refine gf8_61 (pc := 28) tw_5_155 hw dX8_isRight_28 ?_
  refine r_iload_n (pc := 31) (j := 1) dX8_isRight_31 rfl rfl ?_
  obtain ⟨h8, hr⟩ := grd_inv hr
  refine x_iald (pc := 32) (k := (Int32.toNatClampNeg a1)) rfl h8 rfl dX8_isRight_32 ?_
  refine r_iload_n (pc := 33) (j := 2) dX8_isRight_33 rfl rfl ?_
  refine kX8_has (pc := 34) (hf := rfl) tw_6_133 ⟨nle rfl, nle rfl⟩ (nle rfl) dX8_isRight_34 ?_
  refine r_ifB_ne (pc := 37) (tgt := 57) dX8_isRight_37 rfl (fun hc => ?_) (fun hc => ?_)
  · replace hr := ite_t hc hr
    exact r_pick (ls1 := []) [] rfl (hj57  hr)
  replace hr := ite_f hc hr
  refine r_aload_n (pc := 40) (j := 0) dX8_isRight_40 rfl rfl ?_
  refine gf8_62 (pc := 41) tw_5_156 hw dX8_isRight_41 ?_
  refine r_iload_n (pc := 44) (j := 1) dX8_isRight_44 rfl rfl ?_
  refine x_iald (pc := 45) (k := (Int32.toNatClampNeg a1)) rfl h8 rfl dX8_isRight_45 ?_
  refine r_iload_n (pc := 46) (j := 2) dX8_isRight_46 rfl rfl ?_
  refine kX8_has (pc := 47) (hf := rfl) tw_6_133 ⟨nle rfl, nle rfl⟩ (nle rfl) dX8_isRight_47 ?_
  refine r_ifB_ne (pc := 50) (tgt := 57) dX8_isRight_50 rfl (fun hc => ?_) (fun hc => ?_)
  · replace hr := ite_t hc hr
    exact r_pick (ls1 := []) [] rfl (hj57  hr)
  replace hr := ite_f hc hr
  refine r_iconst (pc := 53) (v := (1 : Int32)) dX8_isRight_53 rfl ?_
  refine r_goto (pc := 54) (tgt := 58) dX8_isRight_54 rfl ?_
  exact l_opz hr (r_zret (pc := 58) (v := b2i true) (ty := .boolean) rfl (b2i_nar _) rfl ⟨Nat.le_refl _, Nat.le_refl _⟩ dX8_isRight_58)

theorem kX8_isRight {g : GG} {σ0 : SS} {a1 : Int32} {a2 : Int32} {v : Bool} {M : MM} {F : State → Array Value → List Frame → State → Prop} {pc index : Nat} {ls : List (Nat × Value)} {rest : List Value} (hf : fX8_isRight σ0 a1 a2 = some v)  (hl : Cond.methodLink M.1.cls index yX8_isRight ∈ lw_gt) (hR : mX8_isRight.2.2.2.2.frames + 1 ≤ M.2.2.2.2.frames ∧ 8 + (mX8_isRight.2.2.1 + 11) + mX8_isRight.2.2.2.2.locals ≤ M.2.2.2.2.locals) (hrest : (rest.map fun v => v.category).sum ≤ 8) (hd : decode M.2.1 pc = .ok (.invokevirtual index, 3)) (k : RR g M F zF (pc + 3) ls (.int (b2i v) :: rest) σ0) : RR g M F zF pc ls (.int a2 :: .int a1 :: .ref (ad g 73) :: rest) σ0 :=
  r_callV (z := zF) (N := mX8_isRight) (nn := 2) (o1 := some (.int (b2i v))) (sX8_isRight hf ) (rfl : shp 73 = (8, 0)) (by decide) (shp_le (rfl : shp 73 = (8, 0)) (nle rfl)) (ci := 8) rfl rfl tw_7_194 tw_1_10 hl tw_7_193 tp_83 ⟨by decide, by decide, rfl⟩ hR rfl hrest hd ⟨Nat.zero_le _, Nat.zero_le _⟩ rfl (fun h => k)

theorem dX8_chosen_0 : decode cX8_chosen 0 = .ok (.aload_n 0, 1) := by decide +kernel
theorem dX8_chosen_1 : decode cX8_chosen 1 = .ok (.iload_n 1, 1) := by decide +kernel
theorem dX8_chosen_2 : decode cX8_chosen 2 = .ok (.invokevirtual 269, 3) := by decide +kernel
theorem dX8_chosen_5 : decode cX8_chosen 5 = .ok (.ifCond .eq 17, 3) := by decide +kernel
theorem dX8_chosen_8 : decode cX8_chosen 8 = .ok (.iload_n 2, 1) := by decide +kernel
theorem dX8_chosen_9 : decode cX8_chosen 9 = .ok (.iconst (-1), 1) := by decide +kernel
theorem dX8_chosen_10 : decode cX8_chosen 10 = .ok (.if_icmp .eq 14, 3) := by decide +kernel
theorem dX8_chosen_13 : decode cX8_chosen 13 = .ok (.aload_n 0, 1) := by decide +kernel
theorem dX8_chosen_14 : decode cX8_chosen 14 = .ok (.iload_n 1, 1) := by decide +kernel
theorem dX8_chosen_15 : decode cX8_chosen 15 = .ok (.iload_n 2, 1) := by decide +kernel
theorem dX8_chosen_16 : decode cX8_chosen 16 = .ok (.invokevirtual 370, 3) := by decide +kernel
theorem dX8_chosen_19 : decode cX8_chosen 19 = .ok (.ifCond .ne 5, 3) := by decide +kernel
theorem dX8_chosen_22 : decode cX8_chosen 22 = .ok (.iconst (-1), 1) := by decide +kernel
theorem dX8_chosen_23 : decode cX8_chosen 23 = .ok (.ireturn, 1) := by decide +kernel
theorem dX8_chosen_24 : decode cX8_chosen 24 = .ok (.iconst 0, 1) := by decide +kernel
theorem dX8_chosen_25 : decode cX8_chosen 25 = .ok (.istore_n 3, 1) := by decide +kernel
theorem dX8_chosen_26 : decode cX8_chosen 26 = .ok (.iconst 0, 1) := by decide +kernel
theorem dX8_chosen_27 : decode cX8_chosen 27 = .ok (.istore 4, 2) := by decide +kernel
theorem dX8_chosen_29 : decode cX8_chosen 29 = .ok (.iload 4, 2) := by decide +kernel
theorem dX8_chosen_31 : decode cX8_chosen 31 = .ok (.aload_n 0, 1) := by decide +kernel
theorem dX8_chosen_32 : decode cX8_chosen 32 = .ok (.getfield 259, 3) := by decide +kernel
theorem dX8_chosen_35 : decode cX8_chosen 35 = .ok (.if_icmp .ge 54, 3) := by decide +kernel
theorem dX8_chosen_38 : decode cX8_chosen 38 = .ok (.iload_n 3, 1) := by decide +kernel
theorem dX8_chosen_39 : decode cX8_chosen 39 = .ok (.iload_n 2, 1) := by decide +kernel
theorem dX8_chosen_40 : decode cX8_chosen 40 = .ok (.iconst (-1), 1) := by decide +kernel
theorem dX8_chosen_41 : decode cX8_chosen 41 = .ok (.if_icmp .ne 16, 3) := by decide +kernel
theorem dX8_chosen_44 : decode cX8_chosen 44 = .ok (.aload_n 0, 1) := by decide +kernel
theorem dX8_chosen_45 : decode cX8_chosen 45 = .ok (.iload 4, 2) := by decide +kernel
theorem dX8_chosen_47 : decode cX8_chosen 47 = .ok (.iload_n 1, 1) := by decide +kernel
theorem dX8_chosen_48 : decode cX8_chosen 48 = .ok (.invokevirtual 418, 3) := by decide +kernel
theorem dX8_chosen_51 : decode cX8_chosen 51 = .ok (.ifCond .eq 29, 3) := by decide +kernel
theorem dX8_chosen_54 : decode cX8_chosen 54 = .ok (.goto 22, 3) := by decide +kernel
theorem dX8_chosen_57 : decode cX8_chosen 57 = .ok (.aload_n 0, 1) := by decide +kernel
theorem dX8_chosen_58 : decode cX8_chosen 58 = .ok (.getfield 126, 3) := by decide +kernel
theorem dX8_chosen_61 : decode cX8_chosen 61 = .ok (.bipush 12, 2) := by decide +kernel
theorem dX8_chosen_63 : decode cX8_chosen 63 = .ok (.iload 4, 2) := by decide +kernel
theorem dX8_chosen_65 : decode cX8_chosen 65 = .ok (.imul, 1) := by decide +kernel
theorem dX8_chosen_66 : decode cX8_chosen 66 = .ok (.iload_n 1, 1) := by decide +kernel
theorem dX8_chosen_67 : decode cX8_chosen 67 = .ok (.iadd, 1) := by decide +kernel
theorem dX8_chosen_68 : decode cX8_chosen 68 = .ok (.iaload, 1) := by decide +kernel
theorem dX8_chosen_69 : decode cX8_chosen 69 = .ok (.iload_n 2, 1) := by decide +kernel
theorem dX8_chosen_70 : decode cX8_chosen 70 = .ok (.invokestatic 228, 3) := by decide +kernel
theorem dX8_chosen_73 : decode cX8_chosen 73 = .ok (.ifCond .eq 7, 3) := by decide +kernel
theorem dX8_chosen_76 : decode cX8_chosen 76 = .ok (.iconst 1, 1) := by decide +kernel
theorem dX8_chosen_77 : decode cX8_chosen 77 = .ok (.goto 4, 3) := by decide +kernel
theorem dX8_chosen_80 : decode cX8_chosen 80 = .ok (.iconst 0, 1) := by decide +kernel
theorem dX8_chosen_81 : decode cX8_chosen 81 = .ok (.iadd, 1) := by decide +kernel
theorem dX8_chosen_82 : decode cX8_chosen 82 = .ok (.istore_n 3, 1) := by decide +kernel
theorem dX8_chosen_83 : decode cX8_chosen 83 = .ok (.iinc 4 1, 3) := by decide +kernel
theorem dX8_chosen_86 : decode cX8_chosen 86 = .ok (.goto (-57), 3) := by decide +kernel
theorem dX8_chosen_89 : decode cX8_chosen 89 = .ok (.iload_n 3, 1) := by decide +kernel
theorem dX8_chosen_90 : decode cX8_chosen 90 = .ok (.ireturn, 1) := by decide +kernel
def mX8_chosen : MM := (yX8_chosen, cX8_chosen, 5, Option.some Jvm.ClassFile.FieldType.int, { frames := 4, cells := 0, slots := 0, locals := 84 })
def X8_chosen_L29 (σ_ : SS) (u1_ : Int32) (u2_ : Int32)  : Nat → Int32 → Int32 → Option Int32 :=
  lp (fun _ _ => none) fun rec v3_ v4_ =>
    if (gI σ_ 73 65) ≤ v4_ then (
      some v3_
      ) else (
      vthen (fun (_u : Unit) =>
        vthen (v3_ + (0 : Int32)) fun v4 =>
        rec v4 (v4_ + (1 : Int32))
        ) fun j80 =>
      vthen (fun (_u : Unit) =>
        vthen (v3_ + (1 : Int32)) fun v5 =>
        rec v5 (v4_ + (1 : Int32))
        ) fun j76 =>
      if u2_ = (-1 : Int32) then (
        bnd1 (fX8_isRight σ_ v4_ u1_) fun b8 =>
        if b8 = true then (
          j76 ()
          ) else (
          j80 ()
          )
        ) else (
        grd (inb (((12 : Int32) * v4_) + u1_) 192) <|
        if (fX8_has σ_ (gI σ_ 112 (Int32.toNatClampNeg (((12 : Int32) * v4_) + u1_))) u2_) = true then (
          j76 ()
          ) else (
          j80 ()
          )
        )
      )

def fX8_chosen (σ0 : SS) (a1 : Int32) (a2 : Int32) : Option Int32 :=
  bnd1 (fX8_isQuestion σ0 a1) fun b2 =>
  if b2 = true then (
    vthen (fun (_u : Unit) =>
      X8_chosen_L29 σ0 a1 a2
      fuel (0 : Int32) (0 : Int32)
      ) fun j24 =>
    if a2 = (-1 : Int32) then (
      j24 ()
      ) else (
      bnd1 (fX8_isBox σ0 a1 a2) fun b11 =>
      if b11 = true then (
        j24 ()
        ) else (
        some (-1 : Int32)
        )
      )
    ) else (
    some (-1 : Int32)
    )

set_option maxRecDepth 20000 in
theorem sX8_chosen_L29 {g : GG} {r : Int32} {σ_ : SS} {σ0 : SS} {u1_ : Int32} {u2_ : Int32}  
    (hw_ : WT σ_)
    (h0_ : σ_ = σ0)
    (n : Nat) : ∀ (v3_ : Int32) (v4_ : Int32), X8_chosen_L29 σ_ u1_ u2_ n v3_ v4_ = some r → RR g mX8_chosen (FinR g mX8_chosen (some (.int r)) NF σ0) zF 29 [(0, .ref (ad g 73)), (1, .int u1_), (2, .int u2_), (3, .int v3_), (4, .int v4_)] [] σ_ := by
  unfold X8_chosen_L29
  refine lp_ind (P := fun (rec : Int32 → Int32 → Option Int32) => ∀ (v3_ : Int32) (v4_ : Int32), rec v3_ v4_ = some r → RR g mX8_chosen (FinR g mX8_chosen (some (.int r)) NF σ0) zF 29 [(0, .ref (ad g 73)), (1, .int u1_), (2, .int u2_), (3, .int v3_), (4, .int v4_)] [] σ_) ?_ ?_ n
  · intro v3_ v4_ hr; cases hr
  intro rec ih v3_ v4_ hr
  subst h0_
  refine r_iload (pc := 29) (j := 4) dX8_chosen_29 rfl ?_
  refine r_aload_n (pc := 31) (j := 0) dX8_chosen_31 rfl rfl ?_
  refine gf8_65 (pc := 32) tw_5_159 rfl dX8_chosen_32 ?_
  refine r_icmp_ge (pc := 35) (tgt := 89) dX8_chosen_35 rfl (fun hc => ?_) (fun hc => ?_)
  · replace hr := ite_t hc hr
    refine r_iload_n (pc := 89) (j := 3) dX8_chosen_89 rfl rfl ?_
    exact l_opi hr (r_iret (pc := 90) (v := v3_) rfl rfl ⟨Nat.le_refl _, Nat.le_refl _⟩ dX8_chosen_90)
  replace hr := ite_f hc hr
  refine r_iload_n (pc := 38) (j := 3) dX8_chosen_38 rfl rfl ?_
  refine r_iload_n (pc := 39) (j := 2) dX8_chosen_39 rfl rfl ?_
  refine r_iconst (pc := 40) (v := (-1 : Int32)) dX8_chosen_40 rfl ?_
  obtain ⟨j80, ej80, hr⟩ := vth_ex hr
  have hj80 : j80 () = some r → RR g mX8_chosen (FinR g mX8_chosen (some (.int r)) NF σ_) zF 80 [(0, .ref (ad g 73)), (1, .int u1_), (2, .int u2_), (4, .int v4_)] [.int v3_] σ_ := by
    intro  hr
    replace hr := (congrFun ej80 ()).symm.trans hr
    refine r_iconst (pc := 80) (v := (0 : Int32)) dX8_chosen_80 rfl ?_
    refine r_iadd (pc := 81) dX8_chosen_81 ?_
    refine r_topi fun v4 ev4 => ?_
    replace hr := vthen_inv hr v4 ev4
    refine r_istore_n (pc := 82) (ls1 := [(3, .int v4), (0, .ref (ad g 73)), (1, .int u1_), (2, .int u2_), (4, .int v4_)]) dX8_chosen_82 rfl (nle rfl) rfl ?_
    refine r_iinc (pc := 83) (j := 4) (v := (v4_ + (1 : Int32))) (ls1 := [(4, .int (v4_ + (1 : Int32))), (3, .int v4), (0, .ref (ad g 73)), (1, .int u1_), (2, .int u2_)]) dX8_chosen_83 rfl rfl (nle rfl) rfl ?_
    refine r_goto (pc := 86) (tgt := 29) dX8_chosen_86 rfl ?_
    exact r_pick (ls1 := [(0, .ref (ad g 73)), (1, .int u1_), (2, .int u2_), (3, .int v4), (4, .int (v4_ + (1 : Int32)))]) [2, 3, 4, 1, 0] rfl (ih v4 (v4_ + (1 : Int32)) hr)
  obtain ⟨j76, ej76, hr⟩ := vth_ex hr
  have hj76 : j76 () = some r → RR g mX8_chosen (FinR g mX8_chosen (some (.int r)) NF σ_) zF 76 [(0, .ref (ad g 73)), (1, .int u1_), (2, .int u2_), (4, .int v4_)] [.int v3_] σ_ := by
    intro  hr
    replace hr := (congrFun ej76 ()).symm.trans hr
    refine r_iconst (pc := 76) (v := (1 : Int32)) dX8_chosen_76 rfl ?_
    refine r_goto (pc := 77) (tgt := 81) dX8_chosen_77 rfl ?_
    refine r_iadd (pc := 81) dX8_chosen_81 ?_
    refine r_topi fun v5 ev5 => ?_
    replace hr := vthen_inv hr v5 ev5
    refine r_istore_n (pc := 82) (ls1 := [(3, .int v5), (0, .ref (ad g 73)), (1, .int u1_), (2, .int u2_), (4, .int v4_)]) dX8_chosen_82 rfl (nle rfl) rfl ?_
    refine r_iinc (pc := 83) (j := 4) (v := (v4_ + (1 : Int32))) (ls1 := [(4, .int (v4_ + (1 : Int32))), (3, .int v5), (0, .ref (ad g 73)), (1, .int u1_), (2, .int u2_)]) dX8_chosen_83 rfl rfl (nle rfl) rfl ?_
    refine r_goto (pc := 86) (tgt := 29) dX8_chosen_86 rfl ?_
    exact r_pick (ls1 := [(0, .ref (ad g 73)), (1, .int u1_), (2, .int u2_), (3, .int v5), (4, .int (v4_ + (1 : Int32)))]) [2, 3, 4, 1, 0] rfl (ih v5 (v4_ + (1 : Int32)) hr)
  refine r_icmp_ne (pc := 41) (tgt := 57) dX8_chosen_41 rfl (fun hc => ?_) (fun hc => ?_)
  · replace hr := ite_f hc hr
    refine r_aload_n (pc := 57) (j := 0) dX8_chosen_57 rfl rfl ?_
    refine gf8_63 (pc := 58) tw_5_157 hw_ dX8_chosen_58 ?_
    refine r_bipush (pc := 61) (v := (12 : Int32)) dX8_chosen_61 rfl ?_
    refine r_iload (pc := 63) (j := 4) dX8_chosen_63 rfl ?_
    refine r_imul (pc := 65) dX8_chosen_65 ?_
    refine r_iload_n (pc := 66) (j := 1) dX8_chosen_66 rfl rfl ?_
    refine r_iadd (pc := 67) dX8_chosen_67 ?_
    obtain ⟨h6, hr⟩ := grd_inv hr
    refine x_iald (pc := 68) (k := (Int32.toNatClampNeg (((12 : Int32) * v4_) + u1_))) rfl h6 rfl dX8_chosen_68 ?_
    refine r_iload_n (pc := 69) (j := 2) dX8_chosen_69 rfl rfl ?_
    refine kX8_has (pc := 70) (hf := rfl) tw_6_133 ⟨nle rfl, nle rfl⟩ (nle rfl) dX8_chosen_70 ?_
    refine r_ifB_eq (pc := 73) (tgt := 80) dX8_chosen_73 rfl (fun hc => ?_) (fun hc => ?_)
    · replace hr := ite_f hc hr
      exact r_pick (ls1 := [(0, .ref (ad g 73)), (1, .int u1_), (2, .int u2_), (4, .int v4_)]) [0, 1, 2, 4] rfl (hj80  hr)
    replace hr := ite_t hc hr
    exact r_pick (ls1 := [(0, .ref (ad g 73)), (1, .int u1_), (2, .int u2_), (4, .int v4_)]) [0, 1, 2, 4] rfl (hj76  hr)
  replace hr := ite_t hc hr
  refine r_aload_n (pc := 44) (j := 0) dX8_chosen_44 rfl rfl ?_
  refine r_iload (pc := 45) (j := 4) dX8_chosen_45 rfl ?_
  refine r_iload_n (pc := 47) (j := 1) dX8_chosen_47 rfl rfl ?_
  obtain ⟨b8, hb8, hr⟩ := bnd1_inv hr
  refine kX8_isRight (pc := 48) hb8 tw_7_191 ⟨nle rfl, nle rfl⟩ (nle rfl) dX8_chosen_48 ?_
  refine r_ifB_eq (pc := 51) (tgt := 80) dX8_chosen_51 rfl (fun hc => ?_) (fun hc => ?_)
  · replace hr := ite_f hc hr
    exact r_pick (ls1 := [(0, .ref (ad g 73)), (1, .int u1_), (2, .int u2_), (4, .int v4_)]) [0, 1, 2, 4] rfl (hj80  hr)
  replace hr := ite_t hc hr
  refine r_goto (pc := 54) (tgt := 76) dX8_chosen_54 rfl ?_
  exact r_pick (ls1 := [(0, .ref (ad g 73)), (1, .int u1_), (2, .int u2_), (4, .int v4_)]) [0, 1, 2, 4] rfl (hj76  hr)

set_option maxRecDepth 20000 in
theorem sX8_chosen {g : GG} {σ0 : SS} {a1 : Int32} {a2 : Int32} {r : Int32} (hr : fX8_chosen σ0 a1 a2 = some r)  : Ct g mX8_chosen [.ref (ad g 73), .int a1, .int a2] NF σ0 (some (.int r)) NF σ0 := by
  refine Ct.of (by decide +kernel) (nle rfl) fun hw0 => ?_
  have hw := hw0 rfl
  unfold fX8_chosen at hr
  change RR g mX8_chosen (FinR g mX8_chosen (some (.int r)) NF σ0) zF 0 [(0, .ref (ad g 73)), (1, .int a1), (2, .int a2)] [] σ0
  refine r_aload_n (pc := 0) (j := 0) dX8_chosen_0 rfl rfl ?_
  refine r_iload_n (pc := 1) (j := 1) dX8_chosen_1 rfl rfl ?_
  obtain ⟨b2, hb2, hr⟩ := bnd1_inv hr
  refine kX8_isQuestion (pc := 2) hb2 tw_6_141 ⟨nle rfl, nle rfl⟩ (nle rfl) dX8_chosen_2 ?_
  refine r_ifB_eq (pc := 5) (tgt := 22) dX8_chosen_5 rfl (fun hc => ?_) (fun hc => ?_)
  · replace hr := ite_f hc hr
    refine r_iconst (pc := 22) (v := (-1 : Int32)) dX8_chosen_22 rfl ?_
    exact l_opi hr (r_iret (pc := 23) (v := (-1 : Int32)) rfl rfl ⟨Nat.le_refl _, Nat.le_refl _⟩ dX8_chosen_23)
  replace hr := ite_t hc hr
  refine r_iload_n (pc := 8) (j := 2) dX8_chosen_8 rfl rfl ?_
  refine r_iconst (pc := 9) (v := (-1 : Int32)) dX8_chosen_9 rfl ?_
  obtain ⟨j24, ej24, hr⟩ := vth_ex hr
  have hj24 : j24 () = some r → RR g mX8_chosen (FinR g mX8_chosen (some (.int r)) NF σ0) zF 24 [(0, .ref (ad g 73)), (1, .int a1), (2, .int a2)] [] σ0 := by
    intro  hr
    replace hr := (congrFun ej24 ()).symm.trans hr
    refine r_iconst (pc := 24) (v := (0 : Int32)) dX8_chosen_24 rfl ?_
    refine r_istore_n (pc := 25) (ls1 := [(3, .int (0 : Int32)), (0, .ref (ad g 73)), (1, .int a1), (2, .int a2)]) dX8_chosen_25 rfl (nle rfl) rfl ?_
    refine r_iconst (pc := 26) (v := (0 : Int32)) dX8_chosen_26 rfl ?_
    refine r_istore (pc := 27) (ls1 := [(4, .int (0 : Int32)), (3, .int (0 : Int32)), (0, .ref (ad g 73)), (1, .int a1), (2, .int a2)]) dX8_chosen_27 (nle rfl) rfl ?_
    refine r_pick (ls1 := [(0, .ref (ad g 73)), (1, .int a1), (2, .int a2), (3, .int (0 : Int32)), (4, .int (0 : Int32))]) [2, 3, 4, 1, 0] rfl ?_
    refine sX8_chosen_L29  hw rfl  fuel (0 : Int32) (0 : Int32) hr
  refine r_icmp_eq (pc := 10) (tgt := 24) dX8_chosen_10 rfl (fun hc => ?_) (fun hc => ?_)
  · replace hr := ite_t hc hr
    exact r_pick (ls1 := [(0, .ref (ad g 73)), (1, .int a1), (2, .int a2)]) [0, 1, 2] rfl (hj24  hr)
  replace hr := ite_f hc hr
  refine r_aload_n (pc := 13) (j := 0) dX8_chosen_13 rfl rfl ?_
  refine r_iload_n (pc := 14) (j := 1) dX8_chosen_14 rfl rfl ?_
  refine r_iload_n (pc := 15) (j := 2) dX8_chosen_15 rfl rfl ?_
  obtain ⟨b11, hb11, hr⟩ := bnd1_inv hr
  refine kX8_isBox (pc := 16) hb11 tw_7_90 ⟨nle rfl, nle rfl⟩ (nle rfl) dX8_chosen_16 ?_
  refine r_ifB_ne (pc := 19) (tgt := 24) dX8_chosen_19 rfl (fun hc => ?_) (fun hc => ?_)
  · replace hr := ite_t hc hr
    exact r_pick (ls1 := [(0, .ref (ad g 73)), (1, .int a1), (2, .int a2)]) [0, 1, 2] rfl (hj24  hr)
  replace hr := ite_f hc hr
  refine r_iconst (pc := 22) (v := (-1 : Int32)) dX8_chosen_22 rfl ?_
  exact l_opi hr (r_iret (pc := 23) (v := (-1 : Int32)) rfl rfl ⟨Nat.le_refl _, Nat.le_refl _⟩ dX8_chosen_23)

theorem kX8_chosen {g : GG} {σ0 : SS} {a1 : Int32} {a2 : Int32} {v : Int32} {M : MM} {F : State → Array Value → List Frame → State → Prop} {pc index : Nat} {ls : List (Nat × Value)} {rest : List Value} (hf : fX8_chosen σ0 a1 a2 = some v)  (hl : Cond.methodLink M.1.cls index yX8_chosen ∈ lw_gt) (hR : mX8_chosen.2.2.2.2.frames + 1 ≤ M.2.2.2.2.frames ∧ 8 + (mX8_chosen.2.2.1 + 11) + mX8_chosen.2.2.2.2.locals ≤ M.2.2.2.2.locals) (hrest : (rest.map fun v => v.category).sum ≤ 8) (hd : decode M.2.1 pc = .ok (.invokevirtual index, 3)) (k : RR g M F zF (pc + 3) ls (.int v :: rest) σ0) : RR g M F zF pc ls (.int a2 :: .int a1 :: .ref (ad g 73) :: rest) σ0 :=
  r_callV (z := zF) (N := mX8_chosen) (nn := 2) (o1 := some (.int v)) (sX8_chosen hf ) (rfl : shp 73 = (8, 0)) (by decide) (shp_le (rfl : shp 73 = (8, 0)) (nle rfl)) (ci := 8) rfl rfl tw_7_190 tw_1_10 hl tw_7_188 tw_7_189 ⟨by decide, by decide, rfl⟩ hR rfl hrest hd ⟨Nat.zero_le _, Nat.zero_le _⟩ rfl (fun h => k)

theorem dX4_sharedFaults_0 : decode cX4_sharedFaults 0 = .ok (.iconst 0, 1) := by decide +kernel
theorem dX4_sharedFaults_1 : decode cX4_sharedFaults 1 = .ok (.istore 4, 2) := by decide +kernel
theorem dX4_sharedFaults_3 : decode cX4_sharedFaults 3 = .ok (.iconst 0, 1) := by decide +kernel
theorem dX4_sharedFaults_4 : decode cX4_sharedFaults 4 = .ok (.istore 5, 2) := by decide +kernel
theorem dX4_sharedFaults_6 : decode cX4_sharedFaults 6 = .ok (.iload 5, 2) := by decide +kernel
theorem dX4_sharedFaults_8 : decode cX4_sharedFaults 8 = .ok (.aload_n 1, 1) := by decide +kernel
theorem dX4_sharedFaults_9 : decode cX4_sharedFaults 9 = .ok (.getfield 37, 3) := by decide +kernel
theorem dX4_sharedFaults_12 : decode cX4_sharedFaults 12 = .ok (.if_icmp .ge 60, 3) := by decide +kernel
theorem dX4_sharedFaults_15 : decode cX4_sharedFaults 15 = .ok (.aload_n 0, 1) := by decide +kernel
theorem dX4_sharedFaults_16 : decode cX4_sharedFaults 16 = .ok (.iload_n 2, 1) := by decide +kernel
theorem dX4_sharedFaults_17 : decode cX4_sharedFaults 17 = .ok (.iload 5, 2) := by decide +kernel
theorem dX4_sharedFaults_19 : decode cX4_sharedFaults 19 = .ok (.invokevirtual 49, 3) := by decide +kernel
theorem dX4_sharedFaults_22 : decode cX4_sharedFaults 22 = .ok (.istore 6, 2) := by decide +kernel
theorem dX4_sharedFaults_24 : decode cX4_sharedFaults 24 = .ok (.aload_n 1, 1) := by decide +kernel
theorem dX4_sharedFaults_25 : decode cX4_sharedFaults 25 = .ok (.getfield 46, 3) := by decide +kernel
theorem dX4_sharedFaults_28 : decode cX4_sharedFaults 28 = .ok (.iload 5, 2) := by decide +kernel
theorem dX4_sharedFaults_30 : decode cX4_sharedFaults 30 = .ok (.iaload, 1) := by decide +kernel
theorem dX4_sharedFaults_31 : decode cX4_sharedFaults 31 = .ok (.ifCond .eq 35, 3) := by decide +kernel
theorem dX4_sharedFaults_34 : decode cX4_sharedFaults 34 = .ok (.iload 6, 2) := by decide +kernel
theorem dX4_sharedFaults_36 : decode cX4_sharedFaults 36 = .ok (.ifCond .eq 30, 3) := by decide +kernel
theorem dX4_sharedFaults_39 : decode cX4_sharedFaults 39 = .ok (.iload 6, 2) := by decide +kernel
theorem dX4_sharedFaults_41 : decode cX4_sharedFaults 41 = .ok (.aload_n 1, 1) := by decide +kernel
theorem dX4_sharedFaults_42 : decode cX4_sharedFaults 42 = .ok (.getfield 46, 3) := by decide +kernel
theorem dX4_sharedFaults_45 : decode cX4_sharedFaults 45 = .ok (.iload 5, 2) := by decide +kernel
theorem dX4_sharedFaults_47 : decode cX4_sharedFaults 47 = .ok (.iaload, 1) := by decide +kernel
theorem dX4_sharedFaults_48 : decode cX4_sharedFaults 48 = .ok (.if_icmp .eq 18, 3) := by decide +kernel
theorem dX4_sharedFaults_51 : decode cX4_sharedFaults 51 = .ok (.iload 6, 2) := by decide +kernel
theorem dX4_sharedFaults_53 : decode cX4_sharedFaults 53 = .ok (.aload_n 0, 1) := by decide +kernel
theorem dX4_sharedFaults_54 : decode cX4_sharedFaults 54 = .ok (.iload_n 3, 1) := by decide +kernel
theorem dX4_sharedFaults_55 : decode cX4_sharedFaults 55 = .ok (.iload 5, 2) := by decide +kernel
theorem dX4_sharedFaults_57 : decode cX4_sharedFaults 57 = .ok (.invokevirtual 49, 3) := by decide +kernel
theorem dX4_sharedFaults_60 : decode cX4_sharedFaults 60 = .ok (.if_icmp .ne 6, 3) := by decide +kernel
theorem dX4_sharedFaults_63 : decode cX4_sharedFaults 63 = .ok (.iinc 4 1, 3) := by decide +kernel
theorem dX4_sharedFaults_66 : decode cX4_sharedFaults 66 = .ok (.iinc 5 1, 3) := by decide +kernel
theorem dX4_sharedFaults_69 : decode cX4_sharedFaults 69 = .ok (.goto (-63), 3) := by decide +kernel
theorem dX4_sharedFaults_72 : decode cX4_sharedFaults 72 = .ok (.iload 4, 2) := by decide +kernel
theorem dX4_sharedFaults_74 : decode cX4_sharedFaults 74 = .ok (.ireturn, 1) := by decide +kernel
def mX4_sharedFaults : MM := (yX4_sharedFaults, cX4_sharedFaults, 7, Option.some Jvm.ClassFile.FieldType.int, { frames := 1, cells := 0, slots := 0, locals := 22 })
def X4_sharedFaults_L6 (σ_ : SS) (o1_ : Nat) (u2_ : Int32) (u3_ : Int32)  : Nat → Int32 → Int32 → Option Int32 :=
  lp (fun _ _ => none) fun rec v4_ v5_ =>
    if (gI σ_ o1_ 5) ≤ v5_ then (
      some v4_
      ) else (
      bnd1 (fX4_answer σ_ u2_ v5_) fun v1 =>
      grd (inb v5_ 12) <|
      if (gI σ_ (o1_ + 4) (Int32.toNatClampNeg v5_)) = 0 then (
        rec v4_ (v5_ + (1 : Int32))
        ) else (
        if v1 = 0 then (
          rec v4_ (v5_ + (1 : Int32))
          ) else (
          if v1 = (gI σ_ (o1_ + 4) (Int32.toNatClampNeg v5_)) then (
            rec v4_ (v5_ + (1 : Int32))
            ) else (
            bnd1 (fX4_answer σ_ u3_ v5_) fun v5 =>
            if v1 = v5 then (
              rec (v4_ + (1 : Int32)) (v5_ + (1 : Int32))
              ) else (
              rec v4_ (v5_ + (1 : Int32))
              )
            )
          )
        )
      )

def fX4_sharedFaults (σ0 : SS) (a1 : Nat) (a2 : Int32) (a3 : Int32) : Option Int32 :=
  X4_sharedFaults_L6 σ0 a1 a2 a3
  fuel (0 : Int32) (0 : Int32)

set_option maxRecDepth 20000 in
theorem sX4_sharedFaults_L6 {g : GG} {r : Int32} {σ_ : SS} {σ0 : SS} {o1_ : Nat} {u2_ : Int32} {u3_ : Int32}  (hs1_ : shp o1_ = (1, 0))
    (hw_ : WT σ_)
    (h0_ : σ_ = σ0)
    (n : Nat) : ∀ (v4_ : Int32) (v5_ : Int32), X4_sharedFaults_L6 σ_ o1_ u2_ u3_ n v4_ v5_ = some r → RR g mX4_sharedFaults (FinR g mX4_sharedFaults (some (.int r)) NF σ0) zF 6 [(0, .ref (ad g 58)), (1, .ref (ad g o1_)), (2, .int u2_), (3, .int u3_), (4, .int v4_), (5, .int v5_)] [] σ_ := by
  unfold X4_sharedFaults_L6
  refine lp_ind (P := fun (rec : Int32 → Int32 → Option Int32) => ∀ (v4_ : Int32) (v5_ : Int32), rec v4_ v5_ = some r → RR g mX4_sharedFaults (FinR g mX4_sharedFaults (some (.int r)) NF σ0) zF 6 [(0, .ref (ad g 58)), (1, .ref (ad g o1_)), (2, .int u2_), (3, .int u3_), (4, .int v4_), (5, .int v5_)] [] σ_) ?_ ?_ n
  · intro v4_ v5_ hr; cases hr
  intro rec ih v4_ v5_ hr
  subst h0_
  refine r_iload (pc := 6) (j := 5) dX4_sharedFaults_6 rfl ?_
  refine r_aload_n (pc := 8) (j := 1) dX4_sharedFaults_8 rfl rfl ?_
  refine gf1_5 (pc := 9) tw_1_80 hs1_ dX4_sharedFaults_9 ?_
  refine r_icmp_ge (pc := 12) (tgt := 72) dX4_sharedFaults_12 rfl (fun hc => ?_) (fun hc => ?_)
  · replace hr := ite_t hc hr
    refine r_iload (pc := 72) (j := 4) dX4_sharedFaults_72 rfl ?_
    exact l_opi hr (r_iret (pc := 74) (v := v4_) rfl rfl ⟨Nat.le_refl _, Nat.le_refl _⟩ dX4_sharedFaults_74)
  replace hr := ite_f hc hr
  refine r_aload_n (pc := 15) (j := 0) dX4_sharedFaults_15 rfl rfl ?_
  refine r_iload_n (pc := 16) (j := 2) dX4_sharedFaults_16 rfl rfl ?_
  refine r_iload (pc := 17) (j := 5) dX4_sharedFaults_17 rfl ?_
  obtain ⟨v1, hv1, hr⟩ := bnd1_inv hr
  refine kX4_answer (pc := 19) hv1 tw_5_41 ⟨nle rfl, nle rfl⟩ (nle rfl) dX4_sharedFaults_19 ?_
  refine r_istore (pc := 22) (ls1 := [(6, .int v1), (0, .ref (ad g 58)), (1, .ref (ad g o1_)), (2, .int u2_), (3, .int u3_), (4, .int v4_), (5, .int v5_)]) dX4_sharedFaults_22 (nle rfl) rfl ?_
  refine r_aload_n (pc := 24) (j := 2) dX4_sharedFaults_24 rfl rfl ?_
  refine gf1_10 (pc := 25) tw_1_97 hw_ hs1_ dX4_sharedFaults_25 ?_
  refine r_iload (pc := 28) (j := 6) dX4_sharedFaults_28 rfl ?_
  obtain ⟨h4, hr⟩ := grd_inv hr
  refine x_iald (pc := 30) (k := (Int32.toNatClampNeg v5_)) (sh1_10 hs1_) h4 rfl dX4_sharedFaults_30 ?_
  refine r_if_eq (pc := 31) (tgt := 66) dX4_sharedFaults_31 rfl (fun hc => ?_) (fun hc => ?_)
  · replace hr := ite_t hc hr
    refine r_iinc (pc := 66) (j := 6) (v := (v5_ + (1 : Int32))) (ls1 := [(5, .int (v5_ + (1 : Int32))), (6, .int v1), (0, .ref (ad g 58)), (1, .ref (ad g o1_)), (2, .int u2_), (3, .int u3_), (4, .int v4_)]) dX4_sharedFaults_66 rfl rfl (nle rfl) rfl ?_
    refine r_goto (pc := 69) (tgt := 6) dX4_sharedFaults_69 rfl ?_
    exact r_pick (ls1 := [(0, .ref (ad g 58)), (1, .ref (ad g o1_)), (2, .int u2_), (3, .int u3_), (4, .int v4_), (5, .int (v5_ + (1 : Int32)))]) [2, 3, 4, 5, 6, 0] rfl (ih v4_ (v5_ + (1 : Int32)) hr)
  replace hr := ite_f hc hr
  refine r_iload (pc := 34) (j := 0) dX4_sharedFaults_34 rfl ?_
  refine r_if_eq (pc := 36) (tgt := 66) dX4_sharedFaults_36 rfl (fun hc => ?_) (fun hc => ?_)
  · replace hr := ite_t hc hr
    refine r_iinc (pc := 66) (j := 6) (v := (v5_ + (1 : Int32))) (ls1 := [(5, .int (v5_ + (1 : Int32))), (6, .int v1), (0, .ref (ad g 58)), (1, .ref (ad g o1_)), (2, .int u2_), (3, .int u3_), (4, .int v4_)]) dX4_sharedFaults_66 rfl rfl (nle rfl) rfl ?_
    refine r_goto (pc := 69) (tgt := 6) dX4_sharedFaults_69 rfl ?_
    exact r_pick (ls1 := [(0, .ref (ad g 58)), (1, .ref (ad g o1_)), (2, .int u2_), (3, .int u3_), (4, .int v4_), (5, .int (v5_ + (1 : Int32)))]) [2, 3, 4, 5, 6, 0] rfl (ih v4_ (v5_ + (1 : Int32)) hr)
  replace hr := ite_f hc hr
  refine r_iload (pc := 39) (j := 0) dX4_sharedFaults_39 rfl ?_
  refine r_aload_n (pc := 41) (j := 2) dX4_sharedFaults_41 rfl rfl ?_
  refine gf1_10 (pc := 42) tw_1_97 hw_ hs1_ dX4_sharedFaults_42 ?_
  refine r_iload (pc := 45) (j := 6) dX4_sharedFaults_45 rfl ?_
  refine x_iald (pc := 47) (k := (Int32.toNatClampNeg v5_)) (sh1_10 hs1_) h4 rfl dX4_sharedFaults_47 ?_
  refine r_icmp_eq (pc := 48) (tgt := 66) dX4_sharedFaults_48 rfl (fun hc => ?_) (fun hc => ?_)
  · replace hr := ite_t hc hr
    refine r_iinc (pc := 66) (j := 6) (v := (v5_ + (1 : Int32))) (ls1 := [(5, .int (v5_ + (1 : Int32))), (6, .int v1), (0, .ref (ad g 58)), (1, .ref (ad g o1_)), (2, .int u2_), (3, .int u3_), (4, .int v4_)]) dX4_sharedFaults_66 rfl rfl (nle rfl) rfl ?_
    refine r_goto (pc := 69) (tgt := 6) dX4_sharedFaults_69 rfl ?_
    exact r_pick (ls1 := [(0, .ref (ad g 58)), (1, .ref (ad g o1_)), (2, .int u2_), (3, .int u3_), (4, .int v4_), (5, .int (v5_ + (1 : Int32)))]) [2, 3, 4, 5, 6, 0] rfl (ih v4_ (v5_ + (1 : Int32)) hr)
  replace hr := ite_f hc hr
  refine r_iload (pc := 51) (j := 0) dX4_sharedFaults_51 rfl ?_
  refine r_aload_n (pc := 53) (j := 1) dX4_sharedFaults_53 rfl rfl ?_
  refine r_iload_n (pc := 54) (j := 4) dX4_sharedFaults_54 rfl rfl ?_
  refine r_iload (pc := 55) (j := 6) dX4_sharedFaults_55 rfl ?_
  obtain ⟨v5, hv5, hr⟩ := bnd1_inv hr
  refine kX4_answer (pc := 57) hv5 tw_5_41 ⟨nle rfl, nle rfl⟩ (nle rfl) dX4_sharedFaults_57 ?_
  refine r_icmp_ne (pc := 60) (tgt := 66) dX4_sharedFaults_60 rfl (fun hc => ?_) (fun hc => ?_)
  · replace hr := ite_f hc hr
    refine r_iinc (pc := 66) (j := 6) (v := (v5_ + (1 : Int32))) (ls1 := [(5, .int (v5_ + (1 : Int32))), (6, .int v1), (0, .ref (ad g 58)), (1, .ref (ad g o1_)), (2, .int u2_), (3, .int u3_), (4, .int v4_)]) dX4_sharedFaults_66 rfl rfl (nle rfl) rfl ?_
    refine r_goto (pc := 69) (tgt := 6) dX4_sharedFaults_69 rfl ?_
    exact r_pick (ls1 := [(0, .ref (ad g 58)), (1, .ref (ad g o1_)), (2, .int u2_), (3, .int u3_), (4, .int v4_), (5, .int (v5_ + (1 : Int32)))]) [2, 3, 4, 5, 6, 0] rfl (ih v4_ (v5_ + (1 : Int32)) hr)
  replace hr := ite_t hc hr
  refine r_iinc (pc := 63) (j := 5) (v := (v4_ + (1 : Int32))) (ls1 := [(4, .int (v4_ + (1 : Int32))), (6, .int v1), (0, .ref (ad g 58)), (1, .ref (ad g o1_)), (2, .int u2_), (3, .int u3_), (5, .int v5_)]) dX4_sharedFaults_63 rfl rfl (nle rfl) rfl ?_
  refine r_iinc (pc := 66) (j := 6) (v := (v5_ + (1 : Int32))) (ls1 := [(5, .int (v5_ + (1 : Int32))), (4, .int (v4_ + (1 : Int32))), (6, .int v1), (0, .ref (ad g 58)), (1, .ref (ad g o1_)), (2, .int u2_), (3, .int u3_)]) dX4_sharedFaults_66 rfl rfl (nle rfl) rfl ?_
  refine r_goto (pc := 69) (tgt := 6) dX4_sharedFaults_69 rfl ?_
  exact r_pick (ls1 := [(0, .ref (ad g 58)), (1, .ref (ad g o1_)), (2, .int u2_), (3, .int u3_), (4, .int (v4_ + (1 : Int32))), (5, .int (v5_ + (1 : Int32)))]) [3, 4, 5, 6, 1, 0] rfl (ih (v4_ + (1 : Int32)) (v5_ + (1 : Int32)) hr)

set_option maxRecDepth 20000 in
theorem sX4_sharedFaults {g : GG} {σ0 : SS} {a1 : Nat} {a2 : Int32} {a3 : Int32} {r : Int32} (hr : fX4_sharedFaults σ0 a1 a2 a3 = some r) (hs1 : shp a1 = (1, 0)) : Ct g mX4_sharedFaults [.ref (ad g 58), .ref (ad g a1), .int a2, .int a3] NF σ0 (some (.int r)) NF σ0 := by
  refine Ct.of (by decide +kernel) (nle rfl) fun hw0 => ?_
  have hw := hw0 rfl
  unfold fX4_sharedFaults at hr
  change RR g mX4_sharedFaults (FinR g mX4_sharedFaults (some (.int r)) NF σ0) zF 0 [(0, .ref (ad g 58)), (1, .ref (ad g a1)), (2, .int a2), (3, .int a3)] [] σ0
  refine r_iconst (pc := 0) (v := (0 : Int32)) dX4_sharedFaults_0 rfl ?_
  refine r_istore (pc := 1) (ls1 := [(4, .int (0 : Int32)), (0, .ref (ad g 58)), (1, .ref (ad g a1)), (2, .int a2), (3, .int a3)]) dX4_sharedFaults_1 (nle rfl) rfl ?_
  refine r_iconst (pc := 3) (v := (0 : Int32)) dX4_sharedFaults_3 rfl ?_
  refine r_istore (pc := 4) (ls1 := [(5, .int (0 : Int32)), (4, .int (0 : Int32)), (0, .ref (ad g 58)), (1, .ref (ad g a1)), (2, .int a2), (3, .int a3)]) dX4_sharedFaults_4 (nle rfl) rfl ?_
  refine r_pick (ls1 := [(0, .ref (ad g 58)), (1, .ref (ad g a1)), (2, .int a2), (3, .int a3), (4, .int (0 : Int32)), (5, .int (0 : Int32))]) [2, 3, 4, 5, 1, 0] rfl ?_
  refine sX4_sharedFaults_L6 hs1 hw rfl  fuel (0 : Int32) (0 : Int32) hr

theorem kX4_sharedFaults {g : GG} {σ0 : SS} {a1 : Nat} {a2 : Int32} {a3 : Int32} {v : Int32} {M : MM} {F : State → Array Value → List Frame → State → Prop} {pc index : Nat} {ls : List (Nat × Value)} {rest : List Value} (hf : fX4_sharedFaults σ0 a1 a2 a3 = some v) (hs1 : shp a1 = (1, 0)) (hl : Cond.methodLink M.1.cls index yX4_sharedFaults ∈ lw_gt) (hR : mX4_sharedFaults.2.2.2.2.frames + 1 ≤ M.2.2.2.2.frames ∧ 8 + (mX4_sharedFaults.2.2.1 + 11) + mX4_sharedFaults.2.2.2.2.locals ≤ M.2.2.2.2.locals) (hrest : (rest.map fun v => v.category).sum ≤ 8) (hd : decode M.2.1 pc = .ok (.invokevirtual index, 3)) (k : RR g M F zF (pc + 3) ls (.int v :: rest) σ0) : RR g M F zF pc ls (.int a3 :: .int a2 :: .ref (ad g a1) :: .ref (ad g 58) :: rest) σ0 :=
  r_callV (z := zF) (N := mX4_sharedFaults) (nn := 3) (o1 := some (.int v)) (sX4_sharedFaults hf hs1) (rfl : shp 58 = (4, 0)) (by decide) (shp_le (rfl : shp 58 = (4, 0)) (nle rfl)) (ci := 4) rfl rfl tw_5_53 tw_1_8 hl tw_5_51 tw_5_52 ⟨by decide, by decide, rfl⟩ hR rfl hrest hd ⟨Nat.zero_le _, Nat.zero_le _⟩ rfl (fun h => k)

theorem dX7_copied_0 : decode cX7_copied 0 = .ok (.iload_n 1, 1) := by decide +kernel
theorem dX7_copied_1 : decode cX7_copied 1 = .ok (.iconst 1, 1) := by decide +kernel
theorem dX7_copied_2 : decode cX7_copied 2 = .ok (.if_icmp .lt 14, 3) := by decide +kernel
theorem dX7_copied_5 : decode cX7_copied 5 = .ok (.iload_n 1, 1) := by decide +kernel
theorem dX7_copied_6 : decode cX7_copied 6 = .ok (.bipush 12, 2) := by decide +kernel
theorem dX7_copied_8 : decode cX7_copied 8 = .ok (.if_icmp .gt 8, 3) := by decide +kernel
theorem dX7_copied_11 : decode cX7_copied 11 = .ok (.iload_n 2, 1) := by decide +kernel
theorem dX7_copied_12 : decode cX7_copied 12 = .ok (.iconst (-1), 1) := by decide +kernel
theorem dX7_copied_13 : decode cX7_copied 13 = .ok (.if_icmp .ge 5, 3) := by decide +kernel
theorem dX7_copied_16 : decode cX7_copied 16 = .ok (.iconst (-1), 1) := by decide +kernel
theorem dX7_copied_17 : decode cX7_copied 17 = .ok (.ireturn, 1) := by decide +kernel
theorem dX7_copied_18 : decode cX7_copied 18 = .ok (.iconst 0, 1) := by decide +kernel
theorem dX7_copied_19 : decode cX7_copied 19 = .ok (.istore_n 3, 1) := by decide +kernel
theorem dX7_copied_20 : decode cX7_copied 20 = .ok (.iconst 0, 1) := by decide +kernel
theorem dX7_copied_21 : decode cX7_copied 21 = .ok (.istore 4, 2) := by decide +kernel
theorem dX7_copied_23 : decode cX7_copied 23 = .ok (.iload 4, 2) := by decide +kernel
theorem dX7_copied_25 : decode cX7_copied 25 = .ok (.aload_n 0, 1) := by decide +kernel
theorem dX7_copied_26 : decode cX7_copied 26 = .ok (.getfield 69, 3) := by decide +kernel
theorem dX7_copied_29 : decode cX7_copied 29 = .ok (.getfield 94, 3) := by decide +kernel
theorem dX7_copied_32 : decode cX7_copied 32 = .ok (.if_icmp .ge 69, 3) := by decide +kernel
theorem dX7_copied_35 : decode cX7_copied 35 = .ok (.iload 4, 2) := by decide +kernel
theorem dX7_copied_37 : decode cX7_copied 37 = .ok (.iconst 1, 1) := by decide +kernel
theorem dX7_copied_38 : decode cX7_copied 38 = .ok (.iadd, 1) := by decide +kernel
theorem dX7_copied_39 : decode cX7_copied 39 = .ok (.istore 5, 2) := by decide +kernel
theorem dX7_copied_41 : decode cX7_copied 41 = .ok (.iload 5, 2) := by decide +kernel
theorem dX7_copied_43 : decode cX7_copied 43 = .ok (.aload_n 0, 1) := by decide +kernel
theorem dX7_copied_44 : decode cX7_copied 44 = .ok (.getfield 69, 3) := by decide +kernel
theorem dX7_copied_47 : decode cX7_copied 47 = .ok (.getfield 94, 3) := by decide +kernel
theorem dX7_copied_50 : decode cX7_copied 50 = .ok (.if_icmp .ge 45, 3) := by decide +kernel
theorem dX7_copied_53 : decode cX7_copied 53 = .ok (.aload_n 0, 1) := by decide +kernel
theorem dX7_copied_54 : decode cX7_copied 54 = .ok (.getfield 69, 3) := by decide +kernel
theorem dX7_copied_57 : decode cX7_copied 57 = .ok (.aload_n 0, 1) := by decide +kernel
theorem dX7_copied_58 : decode cX7_copied 58 = .ok (.getfield 32, 3) := by decide +kernel
theorem dX7_copied_61 : decode cX7_copied 61 = .ok (.iload 4, 2) := by decide +kernel
theorem dX7_copied_63 : decode cX7_copied 63 = .ok (.iload 5, 2) := by decide +kernel
theorem dX7_copied_65 : decode cX7_copied 65 = .ok (.invokevirtual 385, 3) := by decide +kernel
theorem dX7_copied_68 : decode cX7_copied 68 = .ok (.iload_n 1, 1) := by decide +kernel
theorem dX7_copied_69 : decode cX7_copied 69 = .ok (.if_icmp .lt 20, 3) := by decide +kernel
theorem dX7_copied_72 : decode cX7_copied 72 = .ok (.iload_n 3, 1) := by decide +kernel
theorem dX7_copied_73 : decode cX7_copied 73 = .ok (.iload_n 2, 1) := by decide +kernel
theorem dX7_copied_74 : decode cX7_copied 74 = .ok (.if_icmp .ne 12, 3) := by decide +kernel
theorem dX7_copied_77 : decode cX7_copied 77 = .ok (.bipush 100, 2) := by decide +kernel
theorem dX7_copied_79 : decode cX7_copied 79 = .ok (.iload 4, 2) := by decide +kernel
theorem dX7_copied_81 : decode cX7_copied 81 = .ok (.imul, 1) := by decide +kernel
theorem dX7_copied_82 : decode cX7_copied 82 = .ok (.iload 5, 2) := by decide +kernel
theorem dX7_copied_84 : decode cX7_copied 84 = .ok (.iadd, 1) := by decide +kernel
theorem dX7_copied_85 : decode cX7_copied 85 = .ok (.ireturn, 1) := by decide +kernel
theorem dX7_copied_86 : decode cX7_copied 86 = .ok (.iinc 3 1, 3) := by decide +kernel
theorem dX7_copied_89 : decode cX7_copied 89 = .ok (.iinc 5 1, 3) := by decide +kernel
theorem dX7_copied_92 : decode cX7_copied 92 = .ok (.goto (-51), 3) := by decide +kernel
theorem dX7_copied_95 : decode cX7_copied 95 = .ok (.iinc 4 1, 3) := by decide +kernel
theorem dX7_copied_98 : decode cX7_copied 98 = .ok (.goto (-75), 3) := by decide +kernel
theorem dX7_copied_101 : decode cX7_copied 101 = .ok (.iload_n 2, 1) := by decide +kernel
theorem dX7_copied_102 : decode cX7_copied 102 = .ok (.iconst (-1), 1) := by decide +kernel
theorem dX7_copied_103 : decode cX7_copied 103 = .ok (.if_icmp .ne 7, 3) := by decide +kernel
theorem dX7_copied_106 : decode cX7_copied 106 = .ok (.iload_n 3, 1) := by decide +kernel
theorem dX7_copied_107 : decode cX7_copied 107 = .ok (.goto 5, 3) := by decide +kernel
theorem dX7_copied_110 : decode cX7_copied 110 = .ok (.bipush (-2), 2) := by decide +kernel
theorem dX7_copied_112 : decode cX7_copied 112 = .ok (.ireturn, 1) := by decide +kernel
def mX7_copied : MM := (yX7_copied, cX7_copied, 6, Option.some Jvm.ClassFile.FieldType.int, { frames := 2, cells := 0, slots := 0, locals := 48 })
def X7_copied_L41 (σ_ : SS) (u1_ : Int32) (u2_ : Int32) (u4_ : Int32) (k95 : Int32 → Option Int32) : Nat → Int32 → Int32 → Option Int32 :=
  lp (fun _ _ => none) fun rec v3_ v5_ =>
    if (gI σ_ 58 0) ≤ v5_ then (
      k95 v3_
      ) else (
      bnd1 (fX4_sharedFaults σ_ (gR σ_ 1 5) u4_ v5_) fun v2 =>
      if v2 < u1_ then (
        rec v3_ (v5_ + (1 : Int32))
        ) else (
        if v3_ = u2_ then (
          some (((100 : Int32) * u4_) + v5_)
          ) else (
          rec (v3_ + (1 : Int32)) (v5_ + (1 : Int32))
          )
        )
      )

def X7_copied_L23 (σ_ : SS) (u1_ : Int32) (u2_ : Int32) (k101 : Int32 → Option Int32) : Nat → Int32 → Int32 → Option Int32 :=
  lp (fun _ _ => none) fun rec v3_ v4_ =>
    if (gI σ_ 58 0) ≤ v4_ then (
      k101 v3_
      ) else (
      vthen (v4_ + (1 : Int32)) fun v1 =>
      X7_copied_L41 σ_ u1_ u2_ v4_
      (fun v5 =>
        rec v5 (v4_ + (1 : Int32))
        )
      fuel v3_ v1
      )

def fX7_copied (σ0 : SS) (a1 : Int32) (a2 : Int32) : Option Int32 :=
  if a1 < (1 : Int32) then (
    some (-1 : Int32)
    ) else (
    if (12 : Int32) < a1 then (
      some (-1 : Int32)
      ) else (
      if (-1 : Int32) ≤ a2 then (
        X7_copied_L23 σ0 a1 a2
        (fun v6 =>
          if a2 = (-1 : Int32) then (
            some v6
            ) else (
            some (-2 : Int32)
            )
          )
        fuel (0 : Int32) (0 : Int32)
        ) else (
        some (-1 : Int32)
        )
      )
    )

set_option maxRecDepth 20000 in
theorem sX7_copied_L41 {g : GG} {r : Int32} {σ_ : SS} {σ0 : SS} {u1_ : Int32} {u2_ : Int32} {u4_ : Int32} {k95 : Int32 → Option Int32} 
    (hw_ : WT σ_)
    (h0_ : σ_ = σ0)
    (hk95 : ∀ (y3 : Int32), k95 y3 = some r → RR g mX7_copied (FinR g mX7_copied (some (.int r)) NF σ0) zF 95 [(0, .ref (ad g 1)), (1, .int u1_), (2, .int u2_), (3, .int y3), (4, .int u4_)] [] σ_)
    (n : Nat) : ∀ (v3_ : Int32) (v5_ : Int32), X7_copied_L41 σ_ u1_ u2_ u4_ k95 n v3_ v5_ = some r → RR g mX7_copied (FinR g mX7_copied (some (.int r)) NF σ0) zF 41 [(0, .ref (ad g 1)), (1, .int u1_), (2, .int u2_), (3, .int v3_), (4, .int u4_), (5, .int v5_)] [] σ_ := by
  unfold X7_copied_L41
  refine lp_ind (P := fun (rec : Int32 → Int32 → Option Int32) => ∀ (v3_ : Int32) (v5_ : Int32), rec v3_ v5_ = some r → RR g mX7_copied (FinR g mX7_copied (some (.int r)) NF σ0) zF 41 [(0, .ref (ad g 1)), (1, .int u1_), (2, .int u2_), (3, .int v3_), (4, .int u4_), (5, .int v5_)] [] σ_) ?_ ?_ n
  · intro v3_ v5_ hr; cases hr
  intro rec ih v3_ v5_ hr
  subst h0_
  refine r_iload (pc := 41) (j := 5) dX7_copied_41 rfl ?_
  refine r_aload_n (pc := 43) (j := 0) dX7_copied_43 rfl rfl ?_
  refine gf7_13 (pc := 44) tw_2_122 hw_ dX7_copied_44 ?_
  refine gf4_0 (pc := 47) tw_2_79 rfl dX7_copied_47 ?_
  refine r_icmp_ge (pc := 50) (tgt := 95) dX7_copied_50 rfl (fun hc => ?_) (fun hc => ?_)
  · replace hr := ite_t hc hr
    exact r_pick (ls1 := [(0, .ref (ad g 1)), (1, .int u1_), (2, .int u2_), (3, .int v3_), (4, .int u4_)]) [0, 1, 2, 3, 4] rfl (hk95 v3_ hr)
  replace hr := ite_f hc hr
  refine r_aload_n (pc := 53) (j := 0) dX7_copied_53 rfl rfl ?_
  refine gf7_13 (pc := 54) tw_2_122 hw_ dX7_copied_54 ?_
  refine r_aload_n (pc := 57) (j := 0) dX7_copied_57 rfl rfl ?_
  refine gf7_5 (pc := 58) tw_2_114 hw_ dX7_copied_58 ?_
  refine r_iload (pc := 61) (j := 4) dX7_copied_61 rfl ?_
  refine r_iload (pc := 63) (j := 5) dX7_copied_63 rfl ?_
  obtain ⟨v2, hv2, hr⟩ := bnd1_inv hr
  refine kX4_sharedFaults (pc := 65) hv2 (wt_fo hw_).1 tw_5_50 ⟨nle rfl, nle rfl⟩ (nle rfl) dX7_copied_65 ?_
  refine r_iload_n (pc := 68) (j := 1) dX7_copied_68 rfl rfl ?_
  refine r_icmp_lt (pc := 69) (tgt := 89) dX7_copied_69 rfl (fun hc => ?_) (fun hc => ?_)
  · replace hr := ite_t hc hr
    refine r_iinc (pc := 89) (j := 5) (v := (v5_ + (1 : Int32))) (ls1 := [(5, .int (v5_ + (1 : Int32))), (0, .ref (ad g 1)), (1, .int u1_), (2, .int u2_), (3, .int v3_), (4, .int u4_)]) dX7_copied_89 rfl rfl (nle rfl) rfl ?_
    refine r_goto (pc := 92) (tgt := 41) dX7_copied_92 rfl ?_
    exact r_pick (ls1 := [(0, .ref (ad g 1)), (1, .int u1_), (2, .int u2_), (3, .int v3_), (4, .int u4_), (5, .int (v5_ + (1 : Int32)))]) [1, 2, 3, 4, 5, 0] rfl (ih v3_ (v5_ + (1 : Int32)) hr)
  replace hr := ite_f hc hr
  refine r_iload_n (pc := 72) (j := 3) dX7_copied_72 rfl rfl ?_
  refine r_iload_n (pc := 73) (j := 2) dX7_copied_73 rfl rfl ?_
  refine r_icmp_ne (pc := 74) (tgt := 86) dX7_copied_74 rfl (fun hc => ?_) (fun hc => ?_)
  · replace hr := ite_f hc hr
    refine r_iinc (pc := 86) (j := 3) (v := (v3_ + (1 : Int32))) (ls1 := [(3, .int (v3_ + (1 : Int32))), (0, .ref (ad g 1)), (1, .int u1_), (2, .int u2_), (4, .int u4_), (5, .int v5_)]) dX7_copied_86 rfl rfl (nle rfl) rfl ?_
    refine r_iinc (pc := 89) (j := 5) (v := (v5_ + (1 : Int32))) (ls1 := [(5, .int (v5_ + (1 : Int32))), (3, .int (v3_ + (1 : Int32))), (0, .ref (ad g 1)), (1, .int u1_), (2, .int u2_), (4, .int u4_)]) dX7_copied_89 rfl rfl (nle rfl) rfl ?_
    refine r_goto (pc := 92) (tgt := 41) dX7_copied_92 rfl ?_
    exact r_pick (ls1 := [(0, .ref (ad g 1)), (1, .int u1_), (2, .int u2_), (3, .int (v3_ + (1 : Int32))), (4, .int u4_), (5, .int (v5_ + (1 : Int32)))]) [2, 3, 4, 1, 5, 0] rfl (ih (v3_ + (1 : Int32)) (v5_ + (1 : Int32)) hr)
  replace hr := ite_t hc hr
  refine r_bipush (pc := 77) (v := (100 : Int32)) dX7_copied_77 rfl ?_
  refine r_iload (pc := 79) (j := 4) dX7_copied_79 rfl ?_
  refine r_imul (pc := 81) dX7_copied_81 ?_
  refine r_iload (pc := 82) (j := 5) dX7_copied_82 rfl ?_
  refine r_iadd (pc := 84) dX7_copied_84 ?_
  exact l_opi hr (r_iret (pc := 85) (v := (((100 : Int32) * u4_) + v5_)) rfl rfl ⟨Nat.le_refl _, Nat.le_refl _⟩ dX7_copied_85)

set_option maxRecDepth 20000 in
theorem sX7_copied_L23 {g : GG} {r : Int32} {σ_ : SS} {σ0 : SS} {u1_ : Int32} {u2_ : Int32} {k101 : Int32 → Option Int32} 
    (hw_ : WT σ_)
    (h0_ : σ_ = σ0)
    (hk101 : ∀ (y3 : Int32), k101 y3 = some r → RR g mX7_copied (FinR g mX7_copied (some (.int r)) NF σ0) zF 101 [(2, .int u2_), (3, .int y3)] [] σ_)
    (n : Nat) : ∀ (v3_ : Int32) (v4_ : Int32), X7_copied_L23 σ_ u1_ u2_ k101 n v3_ v4_ = some r → RR g mX7_copied (FinR g mX7_copied (some (.int r)) NF σ0) zF 23 [(0, .ref (ad g 1)), (1, .int u1_), (2, .int u2_), (3, .int v3_), (4, .int v4_)] [] σ_ := by
  unfold X7_copied_L23
  refine lp_ind (P := fun (rec : Int32 → Int32 → Option Int32) => ∀ (v3_ : Int32) (v4_ : Int32), rec v3_ v4_ = some r → RR g mX7_copied (FinR g mX7_copied (some (.int r)) NF σ0) zF 23 [(0, .ref (ad g 1)), (1, .int u1_), (2, .int u2_), (3, .int v3_), (4, .int v4_)] [] σ_) ?_ ?_ n
  · intro v3_ v4_ hr; cases hr
  intro rec ih v3_ v4_ hr
  subst h0_
  refine r_iload (pc := 23) (j := 4) dX7_copied_23 rfl ?_
  refine r_aload_n (pc := 25) (j := 0) dX7_copied_25 rfl rfl ?_
  refine gf7_13 (pc := 26) tw_2_122 hw_ dX7_copied_26 ?_
  refine gf4_0 (pc := 29) tw_2_79 rfl dX7_copied_29 ?_
  refine r_icmp_ge (pc := 32) (tgt := 101) dX7_copied_32 rfl (fun hc => ?_) (fun hc => ?_)
  · replace hr := ite_t hc hr
    exact r_pick (ls1 := [(2, .int u2_), (3, .int v3_)]) [2, 3] rfl (hk101 v3_ hr)
  replace hr := ite_f hc hr
  refine r_iload (pc := 35) (j := 4) dX7_copied_35 rfl ?_
  refine r_iconst (pc := 37) (v := (1 : Int32)) dX7_copied_37 rfl ?_
  refine r_iadd (pc := 38) dX7_copied_38 ?_
  refine r_topi fun v1 ev1 => ?_
  replace hr := vthen_inv hr v1 ev1
  refine r_istore (pc := 39) (ls1 := [(5, .int v1), (0, .ref (ad g 1)), (1, .int u1_), (2, .int u2_), (3, .int v3_), (4, .int v4_)]) dX7_copied_39 (nle rfl) rfl ?_
  refine r_pick (ls1 := [(0, .ref (ad g 1)), (1, .int u1_), (2, .int u2_), (3, .int v3_), (4, .int v4_), (5, .int v1)]) [1, 2, 3, 4, 5, 0] rfl ?_
  refine sX7_copied_L41  hw_ rfl (fun v5 hr => ?_) fuel v3_ v1 hr
  refine r_iinc (pc := 95) (j := 4) (v := (v4_ + (1 : Int32))) (ls1 := [(4, .int (v4_ + (1 : Int32))), (0, .ref (ad g 1)), (1, .int u1_), (2, .int u2_), (3, .int v5)]) dX7_copied_95 rfl rfl (nle rfl) rfl ?_
  refine r_goto (pc := 98) (tgt := 23) dX7_copied_98 rfl ?_
  exact r_pick (ls1 := [(0, .ref (ad g 1)), (1, .int u1_), (2, .int u2_), (3, .int v5), (4, .int (v4_ + (1 : Int32)))]) [1, 2, 3, 4, 0] rfl (ih v5 (v4_ + (1 : Int32)) hr)

set_option maxRecDepth 20000 in
theorem sX7_copied {g : GG} {σ0 : SS} {a1 : Int32} {a2 : Int32} {r : Int32} (hr : fX7_copied σ0 a1 a2 = some r)  : Ct g mX7_copied [.ref (ad g 1), .int a1, .int a2] NF σ0 (some (.int r)) NF σ0 := by
  refine Ct.of (by decide +kernel) (nle rfl) fun hw0 => ?_
  have hw := hw0 rfl
  unfold fX7_copied at hr
  change RR g mX7_copied (FinR g mX7_copied (some (.int r)) NF σ0) zF 0 [(0, .ref (ad g 1)), (1, .int a1), (2, .int a2)] [] σ0
  refine r_iload_n (pc := 0) (j := 1) dX7_copied_0 rfl rfl ?_
  refine r_iconst (pc := 1) (v := (1 : Int32)) dX7_copied_1 rfl ?_
  refine r_icmp_lt (pc := 2) (tgt := 16) dX7_copied_2 rfl (fun hc => ?_) (fun hc => ?_)
  · replace hr := ite_t hc hr
    refine r_iconst (pc := 16) (v := (-1 : Int32)) dX7_copied_16 rfl ?_
    exact l_opi hr (r_iret (pc := 17) (v := (-1 : Int32)) rfl rfl ⟨Nat.le_refl _, Nat.le_refl _⟩ dX7_copied_17)
  replace hr := ite_f hc hr
  refine r_iload_n (pc := 5) (j := 1) dX7_copied_5 rfl rfl ?_
  refine r_bipush (pc := 6) (v := (12 : Int32)) dX7_copied_6 rfl ?_
  refine r_icmp_gt (pc := 8) (tgt := 16) dX7_copied_8 rfl (fun hc => ?_) (fun hc => ?_)
  · replace hr := ite_t hc hr
    refine r_iconst (pc := 16) (v := (-1 : Int32)) dX7_copied_16 rfl ?_
    exact l_opi hr (r_iret (pc := 17) (v := (-1 : Int32)) rfl rfl ⟨Nat.le_refl _, Nat.le_refl _⟩ dX7_copied_17)
  replace hr := ite_f hc hr
  refine r_iload_n (pc := 11) (j := 2) dX7_copied_11 rfl rfl ?_
  refine r_iconst (pc := 12) (v := (-1 : Int32)) dX7_copied_12 rfl ?_
  refine r_icmp_ge (pc := 13) (tgt := 18) dX7_copied_13 rfl (fun hc => ?_) (fun hc => ?_)
  · replace hr := ite_t hc hr
    refine r_iconst (pc := 18) (v := (0 : Int32)) dX7_copied_18 rfl ?_
    refine r_istore_n (pc := 19) (ls1 := [(3, .int (0 : Int32)), (0, .ref (ad g 1)), (1, .int a1), (2, .int a2)]) dX7_copied_19 rfl (nle rfl) rfl ?_
    refine r_iconst (pc := 20) (v := (0 : Int32)) dX7_copied_20 rfl ?_
    refine r_istore (pc := 21) (ls1 := [(4, .int (0 : Int32)), (3, .int (0 : Int32)), (0, .ref (ad g 1)), (1, .int a1), (2, .int a2)]) dX7_copied_21 (nle rfl) rfl ?_
    refine r_pick (ls1 := [(0, .ref (ad g 1)), (1, .int a1), (2, .int a2), (3, .int (0 : Int32)), (4, .int (0 : Int32))]) [2, 3, 4, 1, 0] rfl ?_
    refine sX7_copied_L23  hw rfl (fun v6 hr => ?_) fuel (0 : Int32) (0 : Int32) hr
    refine r_iload_n (pc := 101) (j := 0) dX7_copied_101 rfl rfl ?_
    refine r_iconst (pc := 102) (v := (-1 : Int32)) dX7_copied_102 rfl ?_
    refine r_icmp_ne (pc := 103) (tgt := 110) dX7_copied_103 rfl (fun hc => ?_) (fun hc => ?_)
    · replace hr := ite_f hc hr
      refine r_bipush (pc := 110) (v := (-2 : Int32)) dX7_copied_110 rfl ?_
      exact l_opi hr (r_iret (pc := 112) (v := (-2 : Int32)) rfl rfl ⟨Nat.le_refl _, Nat.le_refl _⟩ dX7_copied_112)
    replace hr := ite_t hc hr
    refine r_iload_n (pc := 106) (j := 1) dX7_copied_106 rfl rfl ?_
    refine r_goto (pc := 107) (tgt := 112) dX7_copied_107 rfl ?_
    exact l_opi hr (r_iret (pc := 112) (v := v6) rfl rfl ⟨Nat.le_refl _, Nat.le_refl _⟩ dX7_copied_112)
  replace hr := ite_f hc hr
  refine r_iconst (pc := 16) (v := (-1 : Int32)) dX7_copied_16 rfl ?_
  exact l_opi hr (r_iret (pc := 17) (v := (-1 : Int32)) rfl rfl ⟨Nat.le_refl _, Nat.le_refl _⟩ dX7_copied_17)

theorem kX7_copied {g : GG} {σ0 : SS} {a1 : Int32} {a2 : Int32} {v : Int32} {M : MM} {F : State → Array Value → List Frame → State → Prop} {pc index : Nat} {ls : List (Nat × Value)} {rest : List Value} (hf : fX7_copied σ0 a1 a2 = some v)  (hl : Cond.methodLink M.1.cls index yX7_copied ∈ lw_gt) (hR : mX7_copied.2.2.2.2.frames + 1 ≤ M.2.2.2.2.frames ∧ 8 + (mX7_copied.2.2.1 + 11) + mX7_copied.2.2.2.2.locals ≤ M.2.2.2.2.locals) (hrest : (rest.map fun v => v.category).sum ≤ 8) (hd : decode M.2.1 pc = .ok (.invokevirtual index, 3)) (k : RR g M F zF (pc + 3) ls (.int v :: rest) σ0) : RR g M F zF pc ls (.int a2 :: .int a1 :: .ref (ad g 1) :: rest) σ0 :=
  r_callV (z := zF) (N := mX7_copied) (nn := 2) (o1 := some (.int v)) (sX7_copied hf ) (rfl : shp 1 = (7, 0)) (by decide) (shp_le (rfl : shp 1 = (7, 0)) (nle rfl)) (ci := 7) rfl rfl tw_5_49 tw_1_1 hl tw_5_47 tw_5_48 ⟨by decide, by decide, rfl⟩ hR rfl hrest hd ⟨Nat.zero_le _, Nat.zero_le _⟩ rfl (fun h => k)

theorem dX8_alikeIn_0 : decode cX8_alikeIn 0 = .ok (.iconst 0, 1) := by decide +kernel
theorem dX8_alikeIn_1 : decode cX8_alikeIn 1 = .ok (.istore_n 3, 1) := by decide +kernel
theorem dX8_alikeIn_2 : decode cX8_alikeIn 2 = .ok (.iconst 0, 1) := by decide +kernel
theorem dX8_alikeIn_3 : decode cX8_alikeIn 3 = .ok (.istore 4, 2) := by decide +kernel
theorem dX8_alikeIn_5 : decode cX8_alikeIn 5 = .ok (.iload 4, 2) := by decide +kernel
theorem dX8_alikeIn_7 : decode cX8_alikeIn 7 = .ok (.aload_n 0, 1) := by decide +kernel
theorem dX8_alikeIn_8 : decode cX8_alikeIn 8 = .ok (.invokevirtual 266, 3) := by decide +kernel
theorem dX8_alikeIn_11 : decode cX8_alikeIn 11 = .ok (.if_icmp .ge 73, 3) := by decide +kernel
theorem dX8_alikeIn_14 : decode cX8_alikeIn 14 = .ok (.aload_n 0, 1) := by decide +kernel
theorem dX8_alikeIn_15 : decode cX8_alikeIn 15 = .ok (.getfield 126, 3) := by decide +kernel
theorem dX8_alikeIn_18 : decode cX8_alikeIn 18 = .ok (.bipush 12, 2) := by decide +kernel
theorem dX8_alikeIn_20 : decode cX8_alikeIn 20 = .ok (.iload_n 1, 1) := by decide +kernel
theorem dX8_alikeIn_21 : decode cX8_alikeIn 21 = .ok (.imul, 1) := by decide +kernel
theorem dX8_alikeIn_22 : decode cX8_alikeIn 22 = .ok (.iload 4, 2) := by decide +kernel
theorem dX8_alikeIn_24 : decode cX8_alikeIn 24 = .ok (.iadd, 1) := by decide +kernel
theorem dX8_alikeIn_25 : decode cX8_alikeIn 25 = .ok (.iaload, 1) := by decide +kernel
theorem dX8_alikeIn_26 : decode cX8_alikeIn 26 = .ok (.istore 5, 2) := by decide +kernel
theorem dX8_alikeIn_28 : decode cX8_alikeIn 28 = .ok (.iload_n 3, 1) := by decide +kernel
theorem dX8_alikeIn_29 : decode cX8_alikeIn 29 = .ok (.aload_n 0, 1) := by decide +kernel
theorem dX8_alikeIn_30 : decode cX8_alikeIn 30 = .ok (.iload 4, 2) := by decide +kernel
theorem dX8_alikeIn_32 : decode cX8_alikeIn 32 = .ok (.invokevirtual 394, 3) := by decide +kernel
theorem dX8_alikeIn_35 : decode cX8_alikeIn 35 = .ok (.ifCond .eq 40, 3) := by decide +kernel
theorem dX8_alikeIn_38 : decode cX8_alikeIn 38 = .ok (.iload 5, 2) := by decide +kernel
theorem dX8_alikeIn_40 : decode cX8_alikeIn 40 = .ok (.ifCond .eq 35, 3) := by decide +kernel
theorem dX8_alikeIn_43 : decode cX8_alikeIn 43 = .ok (.iload 5, 2) := by decide +kernel
theorem dX8_alikeIn_45 : decode cX8_alikeIn 45 = .ok (.aload_n 0, 1) := by decide +kernel
theorem dX8_alikeIn_46 : decode cX8_alikeIn 46 = .ok (.iload 4, 2) := by decide +kernel
theorem dX8_alikeIn_48 : decode cX8_alikeIn 48 = .ok (.invokevirtual 394, 3) := by decide +kernel
theorem dX8_alikeIn_51 : decode cX8_alikeIn 51 = .ok (.if_icmp .eq 24, 3) := by decide +kernel
theorem dX8_alikeIn_54 : decode cX8_alikeIn 54 = .ok (.iload 5, 2) := by decide +kernel
theorem dX8_alikeIn_56 : decode cX8_alikeIn 56 = .ok (.aload_n 0, 1) := by decide +kernel
theorem dX8_alikeIn_57 : decode cX8_alikeIn 57 = .ok (.getfield 126, 3) := by decide +kernel
theorem dX8_alikeIn_60 : decode cX8_alikeIn 60 = .ok (.bipush 12, 2) := by decide +kernel
theorem dX8_alikeIn_62 : decode cX8_alikeIn 62 = .ok (.iload_n 2, 1) := by decide +kernel
theorem dX8_alikeIn_63 : decode cX8_alikeIn 63 = .ok (.imul, 1) := by decide +kernel
theorem dX8_alikeIn_64 : decode cX8_alikeIn 64 = .ok (.iload 4, 2) := by decide +kernel
theorem dX8_alikeIn_66 : decode cX8_alikeIn 66 = .ok (.iadd, 1) := by decide +kernel
theorem dX8_alikeIn_67 : decode cX8_alikeIn 67 = .ok (.iaload, 1) := by decide +kernel
theorem dX8_alikeIn_68 : decode cX8_alikeIn 68 = .ok (.if_icmp .ne 7, 3) := by decide +kernel
theorem dX8_alikeIn_71 : decode cX8_alikeIn 71 = .ok (.iconst 1, 1) := by decide +kernel
theorem dX8_alikeIn_72 : decode cX8_alikeIn 72 = .ok (.goto 4, 3) := by decide +kernel
theorem dX8_alikeIn_75 : decode cX8_alikeIn 75 = .ok (.iconst 0, 1) := by decide +kernel
theorem dX8_alikeIn_76 : decode cX8_alikeIn 76 = .ok (.iadd, 1) := by decide +kernel
theorem dX8_alikeIn_77 : decode cX8_alikeIn 77 = .ok (.istore_n 3, 1) := by decide +kernel
theorem dX8_alikeIn_78 : decode cX8_alikeIn 78 = .ok (.iinc 4 1, 3) := by decide +kernel
theorem dX8_alikeIn_81 : decode cX8_alikeIn 81 = .ok (.goto (-76), 3) := by decide +kernel
theorem dX8_alikeIn_84 : decode cX8_alikeIn 84 = .ok (.iload_n 3, 1) := by decide +kernel
theorem dX8_alikeIn_85 : decode cX8_alikeIn 85 = .ok (.ireturn, 1) := by decide +kernel
def mX8_alikeIn : MM := (yX8_alikeIn, cX8_alikeIn, 6, Option.some Jvm.ClassFile.FieldType.int, { frames := 2, cells := 0, slots := 0, locals := 41 })
def X8_alikeIn_L5 (σ_ : SS) (u1_ : Int32) (u2_ : Int32)  : Nat → Int32 → Int32 → Option Int32 :=
  lp (fun _ _ => none) fun rec v3_ v4_ =>
    bnd1 (fX8_questions σ_) fun v1 =>
    if v1 ≤ v4_ then (
      some v3_
      ) else (
      grd (inb (((12 : Int32) * u1_) + v4_) 192) <|
      vthen (gI σ_ 112 (Int32.toNatClampNeg (((12 : Int32) * u1_) + v4_))) fun v5 =>
      bnd1 (fX8_keyOf σ_ v4_) fun v6 =>
      vthen (fun (_u : Unit) =>
        vthen (v3_ + (0 : Int32)) fun v9 =>
        rec v9 (v4_ + (1 : Int32))
        ) fun j75 =>
      if v6 = 0 then (
        j75 ()
        ) else (
        if v5 = 0 then (
          j75 ()
          ) else (
          bnd1 (fX8_keyOf σ_ v4_) fun v10 =>
          if v5 = v10 then (
            j75 ()
            ) else (
            grd (inb (((12 : Int32) * u2_) + v4_) 192) <|
            if v5 = (gI σ_ 112 (Int32.toNatClampNeg (((12 : Int32) * u2_) + v4_))) then (
              vthen (v3_ + (1 : Int32)) fun v14 =>
              rec v14 (v4_ + (1 : Int32))
              ) else (
              j75 ()
              )
            )
          )
        )
      )

def fX8_alikeIn (σ0 : SS) (a1 : Int32) (a2 : Int32) : Option Int32 :=
  X8_alikeIn_L5 σ0 a1 a2
  fuel (0 : Int32) (0 : Int32)

set_option maxRecDepth 20000 in
theorem sX8_alikeIn_L5 {g : GG} {r : Int32} {σ_ : SS} {σ0 : SS} {u1_ : Int32} {u2_ : Int32}  
    (hw_ : WT σ_)
    (h0_ : σ_ = σ0)
    (n : Nat) : ∀ (v3_ : Int32) (v4_ : Int32), X8_alikeIn_L5 σ_ u1_ u2_ n v3_ v4_ = some r → RR g mX8_alikeIn (FinR g mX8_alikeIn (some (.int r)) NF σ0) zF 5 [(0, .ref (ad g 73)), (1, .int u1_), (2, .int u2_), (3, .int v3_), (4, .int v4_)] [] σ_ := by
  unfold X8_alikeIn_L5
  refine lp_ind (P := fun (rec : Int32 → Int32 → Option Int32) => ∀ (v3_ : Int32) (v4_ : Int32), rec v3_ v4_ = some r → RR g mX8_alikeIn (FinR g mX8_alikeIn (some (.int r)) NF σ0) zF 5 [(0, .ref (ad g 73)), (1, .int u1_), (2, .int u2_), (3, .int v3_), (4, .int v4_)] [] σ_) ?_ ?_ n
  · intro v3_ v4_ hr; cases hr
  intro rec ih v3_ v4_ hr
  subst h0_
  refine r_iload (pc := 5) (j := 4) dX8_alikeIn_5 rfl ?_
  refine r_aload_n (pc := 7) (j := 0) dX8_alikeIn_7 rfl rfl ?_
  obtain ⟨v1, hv1, hr⟩ := bnd1_inv hr
  refine kX8_questions (pc := 8) hv1 tw_6_145 ⟨nle rfl, nle rfl⟩ (nle rfl) dX8_alikeIn_8 ?_
  refine r_icmp_ge (pc := 11) (tgt := 84) dX8_alikeIn_11 rfl (fun hc => ?_) (fun hc => ?_)
  · replace hr := ite_t hc hr
    refine r_iload_n (pc := 84) (j := 3) dX8_alikeIn_84 rfl rfl ?_
    exact l_opi hr (r_iret (pc := 85) (v := v3_) rfl rfl ⟨Nat.le_refl _, Nat.le_refl _⟩ dX8_alikeIn_85)
  replace hr := ite_f hc hr
  refine r_aload_n (pc := 14) (j := 0) dX8_alikeIn_14 rfl rfl ?_
  refine gf8_63 (pc := 15) tw_5_157 hw_ dX8_alikeIn_15 ?_
  refine r_bipush (pc := 18) (v := (12 : Int32)) dX8_alikeIn_18 rfl ?_
  refine r_iload_n (pc := 20) (j := 1) dX8_alikeIn_20 rfl rfl ?_
  refine r_imul (pc := 21) dX8_alikeIn_21 ?_
  refine r_iload (pc := 22) (j := 4) dX8_alikeIn_22 rfl ?_
  refine r_iadd (pc := 24) dX8_alikeIn_24 ?_
  obtain ⟨h4, hr⟩ := grd_inv hr
  refine x_iald (pc := 25) (k := (Int32.toNatClampNeg (((12 : Int32) * u1_) + v4_))) rfl h4 rfl dX8_alikeIn_25 ?_
  refine r_topi fun v5 ev5 => ?_
  replace hr := vthen_inv hr v5 ev5
  refine r_istore (pc := 26) (ls1 := [(5, .int v5), (0, .ref (ad g 73)), (1, .int u1_), (2, .int u2_), (3, .int v3_), (4, .int v4_)]) dX8_alikeIn_26 (nle rfl) rfl ?_
  refine r_iload_n (pc := 28) (j := 4) dX8_alikeIn_28 rfl rfl ?_
  refine r_aload_n (pc := 29) (j := 1) dX8_alikeIn_29 rfl rfl ?_
  refine r_iload (pc := 30) (j := 5) dX8_alikeIn_30 rfl ?_
  obtain ⟨v6, hv6, hr⟩ := bnd1_inv hr
  refine kX8_keyOf (pc := 32) hv6 tw_7_123 ⟨nle rfl, nle rfl⟩ (nle rfl) dX8_alikeIn_32 ?_
  obtain ⟨j75, ej75, hr⟩ := vth_ex hr
  have hj75 : j75 () = some r → RR g mX8_alikeIn (FinR g mX8_alikeIn (some (.int r)) NF σ_) zF 75 [(0, .ref (ad g 73)), (1, .int u1_), (2, .int u2_), (4, .int v4_)] [.int v3_] σ_ := by
    intro  hr
    replace hr := (congrFun ej75 ()).symm.trans hr
    refine r_iconst (pc := 75) (v := (0 : Int32)) dX8_alikeIn_75 rfl ?_
    refine r_iadd (pc := 76) dX8_alikeIn_76 ?_
    refine r_topi fun v9 ev9 => ?_
    replace hr := vthen_inv hr v9 ev9
    refine r_istore_n (pc := 77) (ls1 := [(3, .int v9), (0, .ref (ad g 73)), (1, .int u1_), (2, .int u2_), (4, .int v4_)]) dX8_alikeIn_77 rfl (nle rfl) rfl ?_
    refine r_iinc (pc := 78) (j := 4) (v := (v4_ + (1 : Int32))) (ls1 := [(4, .int (v4_ + (1 : Int32))), (3, .int v9), (0, .ref (ad g 73)), (1, .int u1_), (2, .int u2_)]) dX8_alikeIn_78 rfl rfl (nle rfl) rfl ?_
    refine r_goto (pc := 81) (tgt := 5) dX8_alikeIn_81 rfl ?_
    exact r_pick (ls1 := [(0, .ref (ad g 73)), (1, .int u1_), (2, .int u2_), (3, .int v9), (4, .int (v4_ + (1 : Int32)))]) [2, 3, 4, 1, 0] rfl (ih v9 (v4_ + (1 : Int32)) hr)
  refine r_if_eq (pc := 35) (tgt := 75) dX8_alikeIn_35 rfl (fun hc => ?_) (fun hc => ?_)
  · replace hr := ite_t hc hr
    exact r_pick (ls1 := [(0, .ref (ad g 73)), (1, .int u1_), (2, .int u2_), (4, .int v4_)]) [1, 2, 3, 5] rfl (hj75  hr)
  replace hr := ite_f hc hr
  refine r_iload (pc := 38) (j := 0) dX8_alikeIn_38 rfl ?_
  refine r_if_eq (pc := 40) (tgt := 75) dX8_alikeIn_40 rfl (fun hc => ?_) (fun hc => ?_)
  · replace hr := ite_t hc hr
    exact r_pick (ls1 := [(0, .ref (ad g 73)), (1, .int u1_), (2, .int u2_), (4, .int v4_)]) [1, 2, 3, 5] rfl (hj75  hr)
  replace hr := ite_f hc hr
  refine r_iload (pc := 43) (j := 0) dX8_alikeIn_43 rfl ?_
  refine r_aload_n (pc := 45) (j := 1) dX8_alikeIn_45 rfl rfl ?_
  refine r_iload (pc := 46) (j := 5) dX8_alikeIn_46 rfl ?_
  obtain ⟨v10, hv10, hr⟩ := bnd1_inv hr
  refine kX8_keyOf (pc := 48) hv10 tw_7_123 ⟨nle rfl, nle rfl⟩ (nle rfl) dX8_alikeIn_48 ?_
  refine r_icmp_eq (pc := 51) (tgt := 75) dX8_alikeIn_51 rfl (fun hc => ?_) (fun hc => ?_)
  · replace hr := ite_t hc hr
    exact r_pick (ls1 := [(0, .ref (ad g 73)), (1, .int u1_), (2, .int u2_), (4, .int v4_)]) [1, 2, 3, 5] rfl (hj75  hr)
  replace hr := ite_f hc hr
  refine r_iload (pc := 54) (j := 0) dX8_alikeIn_54 rfl ?_
  refine r_aload_n (pc := 56) (j := 1) dX8_alikeIn_56 rfl rfl ?_
  refine gf8_63 (pc := 57) tw_5_157 hw_ dX8_alikeIn_57 ?_
  refine r_bipush (pc := 60) (v := (12 : Int32)) dX8_alikeIn_60 rfl ?_
  refine r_iload_n (pc := 62) (j := 3) dX8_alikeIn_62 rfl rfl ?_
  refine r_imul (pc := 63) dX8_alikeIn_63 ?_
  refine r_iload (pc := 64) (j := 5) dX8_alikeIn_64 rfl ?_
  refine r_iadd (pc := 66) dX8_alikeIn_66 ?_
  obtain ⟨h13, hr⟩ := grd_inv hr
  refine x_iald (pc := 67) (k := (Int32.toNatClampNeg (((12 : Int32) * u2_) + v4_))) rfl h13 rfl dX8_alikeIn_67 ?_
  refine r_icmp_ne (pc := 68) (tgt := 75) dX8_alikeIn_68 rfl (fun hc => ?_) (fun hc => ?_)
  · replace hr := ite_f hc hr
    exact r_pick (ls1 := [(0, .ref (ad g 73)), (1, .int u1_), (2, .int u2_), (4, .int v4_)]) [1, 2, 3, 5] rfl (hj75  hr)
  replace hr := ite_t hc hr
  refine r_iconst (pc := 71) (v := (1 : Int32)) dX8_alikeIn_71 rfl ?_
  refine r_goto (pc := 72) (tgt := 76) dX8_alikeIn_72 rfl ?_
  refine r_iadd (pc := 76) dX8_alikeIn_76 ?_
  refine r_topi fun v14 ev14 => ?_
  replace hr := vthen_inv hr v14 ev14
  refine r_istore_n (pc := 77) (ls1 := [(3, .int v14), (5, .int v5), (0, .ref (ad g 73)), (1, .int u1_), (2, .int u2_), (4, .int v4_)]) dX8_alikeIn_77 rfl (nle rfl) rfl ?_
  refine r_iinc (pc := 78) (j := 5) (v := (v4_ + (1 : Int32))) (ls1 := [(4, .int (v4_ + (1 : Int32))), (3, .int v14), (5, .int v5), (0, .ref (ad g 73)), (1, .int u1_), (2, .int u2_)]) dX8_alikeIn_78 rfl rfl (nle rfl) rfl ?_
  refine r_goto (pc := 81) (tgt := 5) dX8_alikeIn_81 rfl ?_
  exact r_pick (ls1 := [(0, .ref (ad g 73)), (1, .int u1_), (2, .int u2_), (3, .int v14), (4, .int (v4_ + (1 : Int32)))]) [3, 4, 5, 1, 0] rfl (ih v14 (v4_ + (1 : Int32)) hr)

set_option maxRecDepth 20000 in
theorem sX8_alikeIn {g : GG} {σ0 : SS} {a1 : Int32} {a2 : Int32} {r : Int32} (hr : fX8_alikeIn σ0 a1 a2 = some r)  : Ct g mX8_alikeIn [.ref (ad g 73), .int a1, .int a2] NF σ0 (some (.int r)) NF σ0 := by
  refine Ct.of (by decide +kernel) (nle rfl) fun hw0 => ?_
  have hw := hw0 rfl
  unfold fX8_alikeIn at hr
  change RR g mX8_alikeIn (FinR g mX8_alikeIn (some (.int r)) NF σ0) zF 0 [(0, .ref (ad g 73)), (1, .int a1), (2, .int a2)] [] σ0
  refine r_iconst (pc := 0) (v := (0 : Int32)) dX8_alikeIn_0 rfl ?_
  refine r_istore_n (pc := 1) (ls1 := [(3, .int (0 : Int32)), (0, .ref (ad g 73)), (1, .int a1), (2, .int a2)]) dX8_alikeIn_1 rfl (nle rfl) rfl ?_
  refine r_iconst (pc := 2) (v := (0 : Int32)) dX8_alikeIn_2 rfl ?_
  refine r_istore (pc := 3) (ls1 := [(4, .int (0 : Int32)), (3, .int (0 : Int32)), (0, .ref (ad g 73)), (1, .int a1), (2, .int a2)]) dX8_alikeIn_3 (nle rfl) rfl ?_
  refine r_pick (ls1 := [(0, .ref (ad g 73)), (1, .int a1), (2, .int a2), (3, .int (0 : Int32)), (4, .int (0 : Int32))]) [2, 3, 4, 1, 0] rfl ?_
  refine sX8_alikeIn_L5  hw rfl  fuel (0 : Int32) (0 : Int32) hr

theorem kX8_alikeIn {g : GG} {σ0 : SS} {a1 : Int32} {a2 : Int32} {v : Int32} {M : MM} {F : State → Array Value → List Frame → State → Prop} {pc index : Nat} {ls : List (Nat × Value)} {rest : List Value} (hf : fX8_alikeIn σ0 a1 a2 = some v)  (hl : Cond.methodLink M.1.cls index yX8_alikeIn ∈ lw_gt) (hR : mX8_alikeIn.2.2.2.2.frames + 1 ≤ M.2.2.2.2.frames ∧ 8 + (mX8_alikeIn.2.2.1 + 11) + mX8_alikeIn.2.2.2.2.locals ≤ M.2.2.2.2.locals) (hrest : (rest.map fun v => v.category).sum ≤ 8) (hd : decode M.2.1 pc = .ok (.invokevirtual index, 3)) (k : RR g M F zF (pc + 3) ls (.int v :: rest) σ0) : RR g M F zF pc ls (.int a2 :: .int a1 :: .ref (ad g 73) :: rest) σ0 :=
  r_callV (z := zF) (N := mX8_alikeIn) (nn := 2) (o1 := some (.int v)) (sX8_alikeIn hf ) (rfl : shp 73 = (8, 0)) (by decide) (shp_le (rfl : shp 73 = (8, 0)) (nle rfl)) (ci := 8) rfl rfl tw_7_202 tw_1_10 hl tw_7_201 tp_84 ⟨by decide, by decide, rfl⟩ hR rfl hrest hd ⟨Nat.zero_le _, Nat.zero_le _⟩ rfl (fun h => k)

theorem dX8_copied_0 : decode cX8_copied 0 = .ok (.iload_n 1, 1) := by decide +kernel
theorem dX8_copied_1 : decode cX8_copied 1 = .ok (.iconst 1, 1) := by decide +kernel
theorem dX8_copied_2 : decode cX8_copied 2 = .ok (.bipush 12, 2) := by decide +kernel
theorem dX8_copied_4 : decode cX8_copied 4 = .ok (.invokestatic 165, 3) := by decide +kernel
theorem dX8_copied_7 : decode cX8_copied 7 = .ok (.ifCond .eq 8, 3) := by decide +kernel
theorem dX8_copied_10 : decode cX8_copied 10 = .ok (.iload_n 2, 1) := by decide +kernel
theorem dX8_copied_11 : decode cX8_copied 11 = .ok (.iconst (-1), 1) := by decide +kernel
theorem dX8_copied_12 : decode cX8_copied 12 = .ok (.if_icmp .ge 5, 3) := by decide +kernel
theorem dX8_copied_15 : decode cX8_copied 15 = .ok (.iconst (-1), 1) := by decide +kernel
theorem dX8_copied_16 : decode cX8_copied 16 = .ok (.ireturn, 1) := by decide +kernel
theorem dX8_copied_17 : decode cX8_copied 17 = .ok (.iconst 0, 1) := by decide +kernel
theorem dX8_copied_18 : decode cX8_copied 18 = .ok (.istore_n 3, 1) := by decide +kernel
theorem dX8_copied_19 : decode cX8_copied 19 = .ok (.iconst 0, 1) := by decide +kernel
theorem dX8_copied_20 : decode cX8_copied 20 = .ok (.istore 4, 2) := by decide +kernel
theorem dX8_copied_22 : decode cX8_copied 22 = .ok (.iload 4, 2) := by decide +kernel
theorem dX8_copied_24 : decode cX8_copied 24 = .ok (.aload_n 0, 1) := by decide +kernel
theorem dX8_copied_25 : decode cX8_copied 25 = .ok (.getfield 259, 3) := by decide +kernel
theorem dX8_copied_28 : decode cX8_copied 28 = .ok (.if_icmp .ge 63, 3) := by decide +kernel
theorem dX8_copied_31 : decode cX8_copied 31 = .ok (.iload 4, 2) := by decide +kernel
theorem dX8_copied_33 : decode cX8_copied 33 = .ok (.iconst 1, 1) := by decide +kernel
theorem dX8_copied_34 : decode cX8_copied 34 = .ok (.iadd, 1) := by decide +kernel
theorem dX8_copied_35 : decode cX8_copied 35 = .ok (.istore 5, 2) := by decide +kernel
theorem dX8_copied_37 : decode cX8_copied 37 = .ok (.iload 5, 2) := by decide +kernel
theorem dX8_copied_39 : decode cX8_copied 39 = .ok (.aload_n 0, 1) := by decide +kernel
theorem dX8_copied_40 : decode cX8_copied 40 = .ok (.getfield 259, 3) := by decide +kernel
theorem dX8_copied_43 : decode cX8_copied 43 = .ok (.if_icmp .ge 42, 3) := by decide +kernel
theorem dX8_copied_46 : decode cX8_copied 46 = .ok (.aload_n 0, 1) := by decide +kernel
theorem dX8_copied_47 : decode cX8_copied 47 = .ok (.iload 4, 2) := by decide +kernel
theorem dX8_copied_49 : decode cX8_copied 49 = .ok (.iload 5, 2) := by decide +kernel
theorem dX8_copied_51 : decode cX8_copied 51 = .ok (.invokevirtual 421, 3) := by decide +kernel
theorem dX8_copied_54 : decode cX8_copied 54 = .ok (.iload_n 1, 1) := by decide +kernel
theorem dX8_copied_55 : decode cX8_copied 55 = .ok (.if_icmp .ge 6, 3) := by decide +kernel
theorem dX8_copied_58 : decode cX8_copied 58 = .ok (.goto 21, 3) := by decide +kernel
theorem dX8_copied_61 : decode cX8_copied 61 = .ok (.iload_n 3, 1) := by decide +kernel
theorem dX8_copied_62 : decode cX8_copied 62 = .ok (.iload_n 2, 1) := by decide +kernel
theorem dX8_copied_63 : decode cX8_copied 63 = .ok (.if_icmp .ne 12, 3) := by decide +kernel
theorem dX8_copied_66 : decode cX8_copied 66 = .ok (.bipush 100, 2) := by decide +kernel
theorem dX8_copied_68 : decode cX8_copied 68 = .ok (.iload 4, 2) := by decide +kernel
theorem dX8_copied_70 : decode cX8_copied 70 = .ok (.imul, 1) := by decide +kernel
theorem dX8_copied_71 : decode cX8_copied 71 = .ok (.iload 5, 2) := by decide +kernel
theorem dX8_copied_73 : decode cX8_copied 73 = .ok (.iadd, 1) := by decide +kernel
theorem dX8_copied_74 : decode cX8_copied 74 = .ok (.ireturn, 1) := by decide +kernel
theorem dX8_copied_75 : decode cX8_copied 75 = .ok (.iload_n 3, 1) := by decide +kernel
theorem dX8_copied_76 : decode cX8_copied 76 = .ok (.iconst 1, 1) := by decide +kernel
theorem dX8_copied_77 : decode cX8_copied 77 = .ok (.iadd, 1) := by decide +kernel
theorem dX8_copied_78 : decode cX8_copied 78 = .ok (.istore_n 3, 1) := by decide +kernel
theorem dX8_copied_79 : decode cX8_copied 79 = .ok (.iinc 5 1, 3) := by decide +kernel
theorem dX8_copied_82 : decode cX8_copied 82 = .ok (.goto (-45), 3) := by decide +kernel
theorem dX8_copied_85 : decode cX8_copied 85 = .ok (.iinc 4 1, 3) := by decide +kernel
theorem dX8_copied_88 : decode cX8_copied 88 = .ok (.goto (-66), 3) := by decide +kernel
theorem dX8_copied_91 : decode cX8_copied 91 = .ok (.iload_n 2, 1) := by decide +kernel
theorem dX8_copied_92 : decode cX8_copied 92 = .ok (.iconst (-1), 1) := by decide +kernel
theorem dX8_copied_93 : decode cX8_copied 93 = .ok (.if_icmp .ne 7, 3) := by decide +kernel
theorem dX8_copied_96 : decode cX8_copied 96 = .ok (.iload_n 3, 1) := by decide +kernel
theorem dX8_copied_97 : decode cX8_copied 97 = .ok (.goto 5, 3) := by decide +kernel
theorem dX8_copied_100 : decode cX8_copied 100 = .ok (.bipush (-2), 2) := by decide +kernel
theorem dX8_copied_102 : decode cX8_copied 102 = .ok (.ireturn, 1) := by decide +kernel
def mX8_copied : MM := (yX8_copied, cX8_copied, 6, Option.some Jvm.ClassFile.FieldType.int, { frames := 3, cells := 0, slots := 0, locals := 66 })
def X8_copied_L37 (σ_ : SS) (u1_ : Int32) (u2_ : Int32) (u4_ : Int32) (k85 : Int32 → Option Int32) : Nat → Int32 → Int32 → Option Int32 :=
  lp (fun _ _ => none) fun rec v3_ v5_ =>
    if (gI σ_ 73 65) ≤ v5_ then (
      k85 v3_
      ) else (
      bnd1 (fX8_alikeIn σ_ u4_ v5_) fun v2 =>
      if u1_ ≤ v2 then (
        if v3_ = u2_ then (
          some (((100 : Int32) * u4_) + v5_)
          ) else (
          vthen (v3_ + (1 : Int32)) fun v5 =>
          rec v5 (v5_ + (1 : Int32))
          )
        ) else (
        rec v3_ (v5_ + (1 : Int32))
        )
      )

def X8_copied_L22 (σ_ : SS) (u1_ : Int32) (u2_ : Int32) (k91 : Int32 → Option Int32) : Nat → Int32 → Int32 → Option Int32 :=
  lp (fun _ _ => none) fun rec v3_ v4_ =>
    if (gI σ_ 73 65) ≤ v4_ then (
      k91 v3_
      ) else (
      vthen (v4_ + (1 : Int32)) fun v1 =>
      X8_copied_L37 σ_ u1_ u2_ v4_
      (fun v6 =>
        rec v6 (v4_ + (1 : Int32))
        )
      fuel v3_ v1
      )

def fX8_copied (σ0 : SS) (a1 : Int32) (a2 : Int32) : Option Int32 :=
  if (fX8_in σ0 a1 (1 : Int32) (12 : Int32)) = true then (
    if (-1 : Int32) ≤ a2 then (
      X8_copied_L22 σ0 a1 a2
      (fun v7 =>
        if a2 = (-1 : Int32) then (
          some v7
          ) else (
          some (-2 : Int32)
          )
        )
      fuel (0 : Int32) (0 : Int32)
      ) else (
      some (-1 : Int32)
      )
    ) else (
    some (-1 : Int32)
    )

set_option maxRecDepth 20000 in
theorem sX8_copied_L37 {g : GG} {r : Int32} {σ_ : SS} {σ0 : SS} {u1_ : Int32} {u2_ : Int32} {u4_ : Int32} {k85 : Int32 → Option Int32} 
    (hw_ : WT σ_)
    (h0_ : σ_ = σ0)
    (hk85 : ∀ (y3 : Int32), k85 y3 = some r → RR g mX8_copied (FinR g mX8_copied (some (.int r)) NF σ0) zF 85 [(0, .ref (ad g 73)), (1, .int u1_), (2, .int u2_), (3, .int y3), (4, .int u4_)] [] σ_)
    (n : Nat) : ∀ (v3_ : Int32) (v5_ : Int32), X8_copied_L37 σ_ u1_ u2_ u4_ k85 n v3_ v5_ = some r → RR g mX8_copied (FinR g mX8_copied (some (.int r)) NF σ0) zF 37 [(0, .ref (ad g 73)), (1, .int u1_), (2, .int u2_), (3, .int v3_), (4, .int u4_), (5, .int v5_)] [] σ_ := by
  unfold X8_copied_L37
  refine lp_ind (P := fun (rec : Int32 → Int32 → Option Int32) => ∀ (v3_ : Int32) (v5_ : Int32), rec v3_ v5_ = some r → RR g mX8_copied (FinR g mX8_copied (some (.int r)) NF σ0) zF 37 [(0, .ref (ad g 73)), (1, .int u1_), (2, .int u2_), (3, .int v3_), (4, .int u4_), (5, .int v5_)] [] σ_) ?_ ?_ n
  · intro v3_ v5_ hr; cases hr
  intro rec ih v3_ v5_ hr
  subst h0_
  refine r_iload (pc := 37) (j := 5) dX8_copied_37 rfl ?_
  refine r_aload_n (pc := 39) (j := 0) dX8_copied_39 rfl rfl ?_
  refine gf8_65 (pc := 40) tw_5_159 rfl dX8_copied_40 ?_
  refine r_icmp_ge (pc := 43) (tgt := 85) dX8_copied_43 rfl (fun hc => ?_) (fun hc => ?_)
  · replace hr := ite_t hc hr
    exact r_pick (ls1 := [(0, .ref (ad g 73)), (1, .int u1_), (2, .int u2_), (3, .int v3_), (4, .int u4_)]) [0, 1, 2, 3, 4] rfl (hk85 v3_ hr)
  replace hr := ite_f hc hr
  refine r_aload_n (pc := 46) (j := 0) dX8_copied_46 rfl rfl ?_
  refine r_iload (pc := 47) (j := 4) dX8_copied_47 rfl ?_
  refine r_iload (pc := 49) (j := 5) dX8_copied_49 rfl ?_
  obtain ⟨v2, hv2, hr⟩ := bnd1_inv hr
  refine kX8_alikeIn (pc := 51) hv2 tw_7_199 ⟨nle rfl, nle rfl⟩ (nle rfl) dX8_copied_51 ?_
  refine r_iload_n (pc := 54) (j := 1) dX8_copied_54 rfl rfl ?_
  refine r_icmp_ge (pc := 55) (tgt := 61) dX8_copied_55 rfl (fun hc => ?_) (fun hc => ?_)
  · replace hr := ite_t hc hr
    refine r_iload_n (pc := 61) (j := 3) dX8_copied_61 rfl rfl ?_
    refine r_iload_n (pc := 62) (j := 2) dX8_copied_62 rfl rfl ?_
    refine r_icmp_ne (pc := 63) (tgt := 75) dX8_copied_63 rfl (fun hc => ?_) (fun hc => ?_)
    · replace hr := ite_f hc hr
      refine r_iload_n (pc := 75) (j := 3) dX8_copied_75 rfl rfl ?_
      refine r_iconst (pc := 76) (v := (1 : Int32)) dX8_copied_76 rfl ?_
      refine r_iadd (pc := 77) dX8_copied_77 ?_
      refine r_topi fun v5 ev5 => ?_
      replace hr := vthen_inv hr v5 ev5
      refine r_istore_n (pc := 78) (ls1 := [(3, .int v5), (0, .ref (ad g 73)), (1, .int u1_), (2, .int u2_), (4, .int u4_), (5, .int v5_)]) dX8_copied_78 rfl (nle rfl) rfl ?_
      refine r_iinc (pc := 79) (j := 5) (v := (v5_ + (1 : Int32))) (ls1 := [(5, .int (v5_ + (1 : Int32))), (3, .int v5), (0, .ref (ad g 73)), (1, .int u1_), (2, .int u2_), (4, .int u4_)]) dX8_copied_79 rfl rfl (nle rfl) rfl ?_
      refine r_goto (pc := 82) (tgt := 37) dX8_copied_82 rfl ?_
      exact r_pick (ls1 := [(0, .ref (ad g 73)), (1, .int u1_), (2, .int u2_), (3, .int v5), (4, .int u4_), (5, .int (v5_ + (1 : Int32)))]) [2, 3, 4, 1, 5, 0] rfl (ih v5 (v5_ + (1 : Int32)) hr)
    replace hr := ite_t hc hr
    refine r_bipush (pc := 66) (v := (100 : Int32)) dX8_copied_66 rfl ?_
    refine r_iload (pc := 68) (j := 4) dX8_copied_68 rfl ?_
    refine r_imul (pc := 70) dX8_copied_70 ?_
    refine r_iload (pc := 71) (j := 5) dX8_copied_71 rfl ?_
    refine r_iadd (pc := 73) dX8_copied_73 ?_
    exact l_opi hr (r_iret (pc := 74) (v := (((100 : Int32) * u4_) + v5_)) rfl rfl ⟨Nat.le_refl _, Nat.le_refl _⟩ dX8_copied_74)
  replace hr := ite_f hc hr
  refine r_goto (pc := 58) (tgt := 79) dX8_copied_58 rfl ?_
  refine r_iinc (pc := 79) (j := 5) (v := (v5_ + (1 : Int32))) (ls1 := [(5, .int (v5_ + (1 : Int32))), (0, .ref (ad g 73)), (1, .int u1_), (2, .int u2_), (3, .int v3_), (4, .int u4_)]) dX8_copied_79 rfl rfl (nle rfl) rfl ?_
  refine r_goto (pc := 82) (tgt := 37) dX8_copied_82 rfl ?_
  exact r_pick (ls1 := [(0, .ref (ad g 73)), (1, .int u1_), (2, .int u2_), (3, .int v3_), (4, .int u4_), (5, .int (v5_ + (1 : Int32)))]) [1, 2, 3, 4, 5, 0] rfl (ih v3_ (v5_ + (1 : Int32)) hr)

set_option maxRecDepth 20000 in
theorem sX8_copied_L22 {g : GG} {r : Int32} {σ_ : SS} {σ0 : SS} {u1_ : Int32} {u2_ : Int32} {k91 : Int32 → Option Int32} 
    (hw_ : WT σ_)
    (h0_ : σ_ = σ0)
    (hk91 : ∀ (y3 : Int32), k91 y3 = some r → RR g mX8_copied (FinR g mX8_copied (some (.int r)) NF σ0) zF 91 [(2, .int u2_), (3, .int y3)] [] σ_)
    (n : Nat) : ∀ (v3_ : Int32) (v4_ : Int32), X8_copied_L22 σ_ u1_ u2_ k91 n v3_ v4_ = some r → RR g mX8_copied (FinR g mX8_copied (some (.int r)) NF σ0) zF 22 [(0, .ref (ad g 73)), (1, .int u1_), (2, .int u2_), (3, .int v3_), (4, .int v4_)] [] σ_ := by
  unfold X8_copied_L22
  refine lp_ind (P := fun (rec : Int32 → Int32 → Option Int32) => ∀ (v3_ : Int32) (v4_ : Int32), rec v3_ v4_ = some r → RR g mX8_copied (FinR g mX8_copied (some (.int r)) NF σ0) zF 22 [(0, .ref (ad g 73)), (1, .int u1_), (2, .int u2_), (3, .int v3_), (4, .int v4_)] [] σ_) ?_ ?_ n
  · intro v3_ v4_ hr; cases hr
  intro rec ih v3_ v4_ hr
  subst h0_
  refine r_iload (pc := 22) (j := 4) dX8_copied_22 rfl ?_
  refine r_aload_n (pc := 24) (j := 0) dX8_copied_24 rfl rfl ?_
  refine gf8_65 (pc := 25) tw_5_159 rfl dX8_copied_25 ?_
  refine r_icmp_ge (pc := 28) (tgt := 91) dX8_copied_28 rfl (fun hc => ?_) (fun hc => ?_)
  · replace hr := ite_t hc hr
    exact r_pick (ls1 := [(2, .int u2_), (3, .int v3_)]) [2, 3] rfl (hk91 v3_ hr)
  replace hr := ite_f hc hr
  refine r_iload (pc := 31) (j := 4) dX8_copied_31 rfl ?_
  refine r_iconst (pc := 33) (v := (1 : Int32)) dX8_copied_33 rfl ?_
  refine r_iadd (pc := 34) dX8_copied_34 ?_
  refine r_topi fun v1 ev1 => ?_
  replace hr := vthen_inv hr v1 ev1
  refine r_istore (pc := 35) (ls1 := [(5, .int v1), (0, .ref (ad g 73)), (1, .int u1_), (2, .int u2_), (3, .int v3_), (4, .int v4_)]) dX8_copied_35 (nle rfl) rfl ?_
  refine r_pick (ls1 := [(0, .ref (ad g 73)), (1, .int u1_), (2, .int u2_), (3, .int v3_), (4, .int v4_), (5, .int v1)]) [1, 2, 3, 4, 5, 0] rfl ?_
  refine sX8_copied_L37  hw_ rfl (fun v6 hr => ?_) fuel v3_ v1 hr
  refine r_iinc (pc := 85) (j := 4) (v := (v4_ + (1 : Int32))) (ls1 := [(4, .int (v4_ + (1 : Int32))), (0, .ref (ad g 73)), (1, .int u1_), (2, .int u2_), (3, .int v6)]) dX8_copied_85 rfl rfl (nle rfl) rfl ?_
  refine r_goto (pc := 88) (tgt := 22) dX8_copied_88 rfl ?_
  exact r_pick (ls1 := [(0, .ref (ad g 73)), (1, .int u1_), (2, .int u2_), (3, .int v6), (4, .int (v4_ + (1 : Int32)))]) [1, 2, 3, 4, 0] rfl (ih v6 (v4_ + (1 : Int32)) hr)

set_option maxRecDepth 20000 in
theorem sX8_copied {g : GG} {σ0 : SS} {a1 : Int32} {a2 : Int32} {r : Int32} (hr : fX8_copied σ0 a1 a2 = some r)  : Ct g mX8_copied [.ref (ad g 73), .int a1, .int a2] NF σ0 (some (.int r)) NF σ0 := by
  refine Ct.of (by decide +kernel) (nle rfl) fun hw0 => ?_
  have hw := hw0 rfl
  unfold fX8_copied at hr
  change RR g mX8_copied (FinR g mX8_copied (some (.int r)) NF σ0) zF 0 [(0, .ref (ad g 73)), (1, .int a1), (2, .int a2)] [] σ0
  refine r_iload_n (pc := 0) (j := 1) dX8_copied_0 rfl rfl ?_
  refine r_iconst (pc := 1) (v := (1 : Int32)) dX8_copied_1 rfl ?_
  refine r_bipush (pc := 2) (v := (12 : Int32)) dX8_copied_2 rfl ?_
  refine kX8_in (pc := 4) (hf := rfl) tw_6_65 ⟨nle rfl, nle rfl⟩ (nle rfl) dX8_copied_4 ?_
  refine r_ifB_eq (pc := 7) (tgt := 15) dX8_copied_7 rfl (fun hc => ?_) (fun hc => ?_)
  · replace hr := ite_f hc hr
    refine r_iconst (pc := 15) (v := (-1 : Int32)) dX8_copied_15 rfl ?_
    exact l_opi hr (r_iret (pc := 16) (v := (-1 : Int32)) rfl rfl ⟨Nat.le_refl _, Nat.le_refl _⟩ dX8_copied_16)
  replace hr := ite_t hc hr
  refine r_iload_n (pc := 10) (j := 2) dX8_copied_10 rfl rfl ?_
  refine r_iconst (pc := 11) (v := (-1 : Int32)) dX8_copied_11 rfl ?_
  refine r_icmp_ge (pc := 12) (tgt := 17) dX8_copied_12 rfl (fun hc => ?_) (fun hc => ?_)
  · replace hr := ite_t hc hr
    refine r_iconst (pc := 17) (v := (0 : Int32)) dX8_copied_17 rfl ?_
    refine r_istore_n (pc := 18) (ls1 := [(3, .int (0 : Int32)), (0, .ref (ad g 73)), (1, .int a1), (2, .int a2)]) dX8_copied_18 rfl (nle rfl) rfl ?_
    refine r_iconst (pc := 19) (v := (0 : Int32)) dX8_copied_19 rfl ?_
    refine r_istore (pc := 20) (ls1 := [(4, .int (0 : Int32)), (3, .int (0 : Int32)), (0, .ref (ad g 73)), (1, .int a1), (2, .int a2)]) dX8_copied_20 (nle rfl) rfl ?_
    refine r_pick (ls1 := [(0, .ref (ad g 73)), (1, .int a1), (2, .int a2), (3, .int (0 : Int32)), (4, .int (0 : Int32))]) [2, 3, 4, 1, 0] rfl ?_
    refine sX8_copied_L22  hw rfl (fun v7 hr => ?_) fuel (0 : Int32) (0 : Int32) hr
    refine r_iload_n (pc := 91) (j := 0) dX8_copied_91 rfl rfl ?_
    refine r_iconst (pc := 92) (v := (-1 : Int32)) dX8_copied_92 rfl ?_
    refine r_icmp_ne (pc := 93) (tgt := 100) dX8_copied_93 rfl (fun hc => ?_) (fun hc => ?_)
    · replace hr := ite_f hc hr
      refine r_bipush (pc := 100) (v := (-2 : Int32)) dX8_copied_100 rfl ?_
      exact l_opi hr (r_iret (pc := 102) (v := (-2 : Int32)) rfl rfl ⟨Nat.le_refl _, Nat.le_refl _⟩ dX8_copied_102)
    replace hr := ite_t hc hr
    refine r_iload_n (pc := 96) (j := 1) dX8_copied_96 rfl rfl ?_
    refine r_goto (pc := 97) (tgt := 102) dX8_copied_97 rfl ?_
    exact l_opi hr (r_iret (pc := 102) (v := v7) rfl rfl ⟨Nat.le_refl _, Nat.le_refl _⟩ dX8_copied_102)
  replace hr := ite_f hc hr
  refine r_iconst (pc := 15) (v := (-1 : Int32)) dX8_copied_15 rfl ?_
  exact l_opi hr (r_iret (pc := 16) (v := (-1 : Int32)) rfl rfl ⟨Nat.le_refl _, Nat.le_refl _⟩ dX8_copied_16)

theorem kX8_copied {g : GG} {σ0 : SS} {a1 : Int32} {a2 : Int32} {v : Int32} {M : MM} {F : State → Array Value → List Frame → State → Prop} {pc index : Nat} {ls : List (Nat × Value)} {rest : List Value} (hf : fX8_copied σ0 a1 a2 = some v)  (hl : Cond.methodLink M.1.cls index yX8_copied ∈ lw_gt) (hR : mX8_copied.2.2.2.2.frames + 1 ≤ M.2.2.2.2.frames ∧ 8 + (mX8_copied.2.2.1 + 11) + mX8_copied.2.2.2.2.locals ≤ M.2.2.2.2.locals) (hrest : (rest.map fun v => v.category).sum ≤ 8) (hd : decode M.2.1 pc = .ok (.invokevirtual index, 3)) (k : RR g M F zF (pc + 3) ls (.int v :: rest) σ0) : RR g M F zF pc ls (.int a2 :: .int a1 :: .ref (ad g 73) :: rest) σ0 :=
  r_callV (z := zF) (N := mX8_copied) (nn := 2) (o1 := some (.int v)) (sX8_copied hf ) (rfl : shp 73 = (8, 0)) (by decide) (shp_le (rfl : shp 73 = (8, 0)) (nle rfl)) (ci := 8) rfl rfl tw_7_198 tw_1_10 hl tw_7_196 tw_7_197 ⟨by decide, by decide, rfl⟩ hR rfl hrest hd ⟨Nat.zero_le _, Nat.zero_le _⟩ rfl (fun h => k)

