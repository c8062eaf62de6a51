/-! Walks written by a program out of the bytecode: each method as a function over the store, and its contract. -/
theorem dX3_judgedElse_0 : decode cX3_judgedElse 0 = .ok (.iconst 0, 1) := by decide +kernel
theorem dX3_judgedElse_1 : decode cX3_judgedElse 1 = .ok (.istore_n 3, 1) := by decide +kernel
theorem dX3_judgedElse_2 : decode cX3_judgedElse 2 = .ok (.iconst 0, 1) := by decide +kernel
theorem dX3_judgedElse_3 : decode cX3_judgedElse 3 = .ok (.istore 4, 2) := by decide +kernel
theorem dX3_judgedElse_5 : decode cX3_judgedElse 5 = .ok (.iload 4, 2) := by decide +kernel
theorem dX3_judgedElse_7 : decode cX3_judgedElse 7 = .ok (.aload_n 1, 1) := by decide +kernel
theorem dX3_judgedElse_8 : decode cX3_judgedElse 8 = .ok (.getfield 140, 3) := by decide +kernel
theorem dX3_judgedElse_11 : decode cX3_judgedElse 11 = .ok (.if_icmp .ge 105, 3) := by decide +kernel
theorem dX3_judgedElse_14 : decode cX3_judgedElse 14 = .ok (.iconst 0, 1) := by decide +kernel
theorem dX3_judgedElse_15 : decode cX3_judgedElse 15 = .ok (.istore 5, 2) := by decide +kernel
theorem dX3_judgedElse_17 : decode cX3_judgedElse 17 = .ok (.iload 5, 2) := by decide +kernel
theorem dX3_judgedElse_19 : decode cX3_judgedElse 19 = .ok (.aload_n 1, 1) := by decide +kernel
theorem dX3_judgedElse_20 : decode cX3_judgedElse 20 = .ok (.getfield 154, 3) := by decide +kernel
theorem dX3_judgedElse_23 : decode cX3_judgedElse 23 = .ok (.iload 4, 2) := by decide +kernel
theorem dX3_judgedElse_25 : decode cX3_judgedElse 25 = .ok (.iaload, 1) := by decide +kernel
theorem dX3_judgedElse_26 : decode cX3_judgedElse 26 = .ok (.if_icmp .ge 84, 3) := by decide +kernel
theorem dX3_judgedElse_29 : decode cX3_judgedElse 29 = .ok (.aload_n 0, 1) := by decide +kernel
theorem dX3_judgedElse_30 : decode cX3_judgedElse 30 = .ok (.getfield 38, 3) := by decide +kernel
theorem dX3_judgedElse_33 : decode cX3_judgedElse 33 = .ok (.iload 4, 2) := by decide +kernel
theorem dX3_judgedElse_35 : decode cX3_judgedElse 35 = .ok (.iaload, 1) := by decide +kernel
theorem dX3_judgedElse_36 : decode cX3_judgedElse 36 = .ok (.iload 5, 2) := by decide +kernel
theorem dX3_judgedElse_38 : decode cX3_judgedElse 38 = .ok (.ishr, 1) := by decide +kernel
theorem dX3_judgedElse_39 : decode cX3_judgedElse 39 = .ok (.iconst 1, 1) := by decide +kernel
theorem dX3_judgedElse_40 : decode cX3_judgedElse 40 = .ok (.iand, 1) := by decide +kernel
theorem dX3_judgedElse_41 : decode cX3_judgedElse 41 = .ok (.iconst 1, 1) := by decide +kernel
theorem dX3_judgedElse_42 : decode cX3_judgedElse 42 = .ok (.if_icmp .ne 7, 3) := by decide +kernel
theorem dX3_judgedElse_45 : decode cX3_judgedElse 45 = .ok (.iconst 1, 1) := by decide +kernel
theorem dX3_judgedElse_46 : decode cX3_judgedElse 46 = .ok (.goto 4, 3) := by decide +kernel
theorem dX3_judgedElse_49 : decode cX3_judgedElse 49 = .ok (.iconst 0, 1) := by decide +kernel
theorem dX3_judgedElse_50 : decode cX3_judgedElse 50 = .ok (.istore 6, 2) := by decide +kernel
theorem dX3_judgedElse_52 : decode cX3_judgedElse 52 = .ok (.iload_n 2, 1) := by decide +kernel
theorem dX3_judgedElse_53 : decode cX3_judgedElse 53 = .ok (.ifCond .le 38, 3) := by decide +kernel
theorem dX3_judgedElse_56 : decode cX3_judgedElse 56 = .ok (.aload_n 0, 1) := by decide +kernel
theorem dX3_judgedElse_57 : decode cX3_judgedElse 57 = .ok (.getfield 32, 3) := by decide +kernel
theorem dX3_judgedElse_60 : decode cX3_judgedElse 60 = .ok (.aload_n 1, 1) := by decide +kernel
theorem dX3_judgedElse_61 : decode cX3_judgedElse 61 = .ok (.getfield 151, 3) := by decide +kernel
theorem dX3_judgedElse_64 : decode cX3_judgedElse 64 = .ok (.iload 4, 2) := by decide +kernel
theorem dX3_judgedElse_66 : decode cX3_judgedElse 66 = .ok (.iaload, 1) := by decide +kernel
theorem dX3_judgedElse_67 : decode cX3_judgedElse 67 = .ok (.iload 5, 2) := by decide +kernel
theorem dX3_judgedElse_69 : decode cX3_judgedElse 69 = .ok (.iadd, 1) := by decide +kernel
theorem dX3_judgedElse_70 : decode cX3_judgedElse 70 = .ok (.iaload, 1) := by decide +kernel
theorem dX3_judgedElse_71 : decode cX3_judgedElse 71 = .ok (.aload_n 0, 1) := by decide +kernel
theorem dX3_judgedElse_72 : decode cX3_judgedElse 72 = .ok (.getfield 32, 3) := by decide +kernel
theorem dX3_judgedElse_75 : decode cX3_judgedElse 75 = .ok (.aload_n 0, 1) := by decide +kernel
theorem dX3_judgedElse_76 : decode cX3_judgedElse 76 = .ok (.getfield 35, 3) := by decide +kernel
theorem dX3_judgedElse_79 : decode cX3_judgedElse 79 = .ok (.iload_n 2, 1) := by decide +kernel
theorem dX3_judgedElse_80 : decode cX3_judgedElse 80 = .ok (.iconst 1, 1) := by decide +kernel
theorem dX3_judgedElse_81 : decode cX3_judgedElse 81 = .ok (.isub, 1) := by decide +kernel
theorem dX3_judgedElse_82 : decode cX3_judgedElse 82 = .ok (.iaload, 1) := by decide +kernel
theorem dX3_judgedElse_83 : decode cX3_judgedElse 83 = .ok (.iaload, 1) := by decide +kernel
theorem dX3_judgedElse_84 : decode cX3_judgedElse 84 = .ok (.if_icmp .lt 7, 3) := by decide +kernel
theorem dX3_judgedElse_87 : decode cX3_judgedElse 87 = .ok (.iconst 1, 1) := by decide +kernel
theorem dX3_judgedElse_88 : decode cX3_judgedElse 88 = .ok (.goto 4, 3) := by decide +kernel
theorem dX3_judgedElse_91 : decode cX3_judgedElse 91 = .ok (.iconst 0, 1) := by decide +kernel
theorem dX3_judgedElse_92 : decode cX3_judgedElse 92 = .ok (.istore 7, 2) := by decide +kernel
theorem dX3_judgedElse_94 : decode cX3_judgedElse 94 = .ok (.iload 6, 2) := by decide +kernel
theorem dX3_judgedElse_96 : decode cX3_judgedElse 96 = .ok (.iload 7, 2) := by decide +kernel
theorem dX3_judgedElse_98 : decode cX3_judgedElse 98 = .ok (.if_icmp .eq 6, 3) := by decide +kernel
theorem dX3_judgedElse_101 : decode cX3_judgedElse 101 = .ok (.iinc 3 1, 3) := by decide +kernel
theorem dX3_judgedElse_104 : decode cX3_judgedElse 104 = .ok (.iinc 5 1, 3) := by decide +kernel
theorem dX3_judgedElse_107 : decode cX3_judgedElse 107 = .ok (.goto (-90), 3) := by decide +kernel
theorem dX3_judgedElse_110 : decode cX3_judgedElse 110 = .ok (.iinc 4 1, 3) := by decide +kernel
theorem dX3_judgedElse_113 : decode cX3_judgedElse 113 = .ok (.goto (-108), 3) := by decide +kernel
theorem dX3_judgedElse_116 : decode cX3_judgedElse 116 = .ok (.iload_n 3, 1) := by decide +kernel
theorem dX3_judgedElse_117 : decode cX3_judgedElse 117 = .ok (.ireturn, 1) := by decide +kernel
def mX3_judgedElse : MM := (yX3_judgedElse, cX3_judgedElse, 8, Option.some Jvm.ClassFile.FieldType.int, { frames := 0, cells := 0, slots := 0, locals := 0 })
def X3_judgedElse_L17 (σ_ : SS) (o1_ : Nat) (u2_ : Int32) (u4_ : Int32) (k110 : Int32 → Option Int32) : Nat → Int32 → Int32 → Option Int32 :=
  lp (fun _ _ => none) fun rec v3_ v5_ =>
    grd (inb u4_ 12) <|
    if (gI σ_ (o1_ + 3) (Int32.toNatClampNeg u4_)) ≤ v5_ then (
      k110 v3_
      ) else (
      vthen (fun (s2 : Int32) =>
        vthen (fun (s3 : Int32) =>
          if s2 = s3 then (
            rec v3_ (v5_ + (1 : Int32))
            ) else (
            rec (v3_ + (1 : Int32)) (v5_ + (1 : Int32))
            )
          ) fun j92 =>
        vthen (fun (_u : Unit) =>
          j92 (0 : Int32)
          ) fun j91 =>
        if u2_ ≤ 0 then (
          j91 ()
          ) else (
          grd (inb ((gI σ_ (o1_ + 2) (Int32.toNatClampNeg u4_)) + v5_) 72) <|
          grd (inb (u2_ - (1 : Int32)) 72) <|
          grd (inb (gI σ_ 52 (Int32.toNatClampNeg (u2_ - (1 : Int32)))) 72) <|
          if (gI σ_ 51 (Int32.toNatClampNeg ((gI σ_ (o1_ + 2) (Int32.toNatClampNeg u4_)) + v5_))) < (gI σ_ 51 (Int32.toNatClampNeg (gI σ_ 52 (Int32.toNatClampNeg (u2_ - (1 : Int32)))))) then (
            j91 ()
            ) else (
            j92 (1 : Int32)
            )
          )
        ) fun j50 =>
      if (((gI σ_ 53 (Int32.toNatClampNeg u4_)) >>> (v5_ &&& 31)) &&& (1 : Int32)) = (1 : Int32) then (
        j50 (1 : Int32)
        ) else (
        j50 (0 : Int32)
        )
      )

def X3_judgedElse_L5 (σ_ : SS) (o1_ : Nat) (u2_ : Int32)  : Nat → Int32 → Int32 → Option Int32 :=
  lp (fun _ _ => none) fun rec v3_ v4_ =>
    if (gI σ_ o1_ 5) ≤ v4_ then (
      some v3_
      ) else (
      X3_judgedElse_L17 σ_ o1_ u2_ v4_
      (fun v7 =>
        rec v7 (v4_ + (1 : Int32))
        )
      fuel v3_ (0 : Int32)
      )

def fX3_judgedElse (σ0 : SS) (a1 : Nat) (a2 : Int32) : Option Int32 :=
  X3_judgedElse_L5 σ0 a1 a2
  fuel (0 : Int32) (0 : Int32)

set_option maxRecDepth 20000 in
theorem sX3_judgedElse_L17 {g : GG} {r : Int32} {σ_ : SS} {σ0 : SS} {o1_ : Nat} {u2_ : Int32} {u4_ : Int32} {k110 : Int32 → Option Int32} (hs1_ : shp o1_ = (1, 0))
    (hw_ : WT σ_)
    (h0_ : σ_ = σ0)
    (hk110 : ∀ (y3 : Int32), k110 y3 = some r → RR g mX3_judgedElse (FinR g mX3_judgedElse (some (.int r)) NF σ0) zF 110 [(0, .ref (ad g 31)), (1, .ref (ad g o1_)), (2, .int u2_), (3, .int y3), (4, .int u4_)] [] σ_)
    (n : Nat) : ∀ (v3_ : Int32) (v5_ : Int32), X3_judgedElse_L17 σ_ o1_ u2_ u4_ k110 n v3_ v5_ = some r → RR g mX3_judgedElse (FinR g mX3_judgedElse (some (.int r)) NF σ0) zF 17 [(0, .ref (ad g 31)), (1, .ref (ad g o1_)), (2, .int u2_), (3, .int v3_), (4, .int u4_), (5, .int v5_)] [] σ_ := by
  unfold X3_judgedElse_L17
  refine lp_ind (P := fun (rec : Int32 → Int32 → Option Int32) => ∀ (v3_ : Int32) (v5_ : Int32), rec v3_ v5_ = some r → RR g mX3_judgedElse (FinR g mX3_judgedElse (some (.int r)) NF σ0) zF 17 [(0, .ref (ad g 31)), (1, .ref (ad g o1_)), (2, .int u2_), (3, .int v3_), (4, .int u4_), (5, .int v5_)] [] σ_) ?_ ?_ n
  · intro v3_ v5_ hr; cases hr
  intro rec ih v3_ v5_ hr
  subst h0_
  refine r_iload (pc := 17) (j := 5) dX3_judgedElse_17 rfl ?_
  refine r_aload_n (pc := 19) (j := 1) dX3_judgedElse_19 rfl rfl ?_
  refine gf1_9 (pc := 20) tw_1_93 hw_ hs1_ dX3_judgedElse_20 ?_
  refine r_iload (pc := 23) (j := 4) dX3_judgedElse_23 rfl ?_
  obtain ⟨h1, hr⟩ := grd_inv hr
  refine x_iald (pc := 25) (k := (Int32.toNatClampNeg u4_)) (sh1_9 hs1_) h1 rfl dX3_judgedElse_25 ?_
  refine r_icmp_ge (pc := 26) (tgt := 110) dX3_judgedElse_26 rfl (fun hc => ?_) (fun hc => ?_)
  · replace hr := ite_t hc hr
    exact r_pick (ls1 := [(0, .ref (ad g 31)), (1, .ref (ad g o1_)), (2, .int u2_), (3, .int v3_), (4, .int u4_)]) [0, 1, 2, 3, 4] rfl (hk110 v3_ hr)
  replace hr := ite_f hc hr
  refine r_aload_n (pc := 29) (j := 0) dX3_judgedElse_29 rfl rfl ?_
  refine gf3_7 (pc := 30) tw_2_35 hw_ dX3_judgedElse_30 ?_
  refine r_iload (pc := 33) (j := 4) dX3_judgedElse_33 rfl ?_
  refine x_iald (pc := 35) (k := (Int32.toNatClampNeg u4_)) rfl h1 rfl dX3_judgedElse_35 ?_
  refine r_iload (pc := 36) (j := 5) dX3_judgedElse_36 rfl ?_
  refine r_ishr (pc := 38) dX3_judgedElse_38 ?_
  refine r_iconst (pc := 39) (v := (1 : Int32)) dX3_judgedElse_39 rfl ?_
  refine r_iand (pc := 40) dX3_judgedElse_40 ?_
  refine r_iconst (pc := 41) (v := (1 : Int32)) dX3_judgedElse_41 rfl ?_
  obtain ⟨j50, ej50, hr⟩ := vth_ex hr
  have hj50 : ∀ (s2 : Int32), j50 s2 = some r → RR g mX3_judgedElse (FinR g mX3_judgedElse (some (.int r)) NF σ_) zF 50 [(0, .ref (ad g 31)), (1, .ref (ad g o1_)), (2, .int u2_), (3, .int v3_), (4, .int u4_), (5, .int v5_)] [.int s2] σ_ := by
    intro s2 hr
    replace hr := (congrFun ej50 s2).symm.trans hr
    refine r_istore (pc := 50) (ls1 := [(6, .int s2), (0, .ref (ad g 31)), (1, .ref (ad g o1_)), (2, .int u2_), (3, .int v3_), (4, .int u4_), (5, .int v5_)]) dX3_judgedElse_50 (nle rfl) rfl ?_
    refine r_iload_n (pc := 52) (j := 3) dX3_judgedElse_52 rfl rfl ?_
    obtain ⟨j92, ej92, hr⟩ := vth_ex hr
    have hj92 : ∀ (s3 : Int32), j92 s3 = some r → RR g mX3_judgedElse (FinR g mX3_judgedElse (some (.int r)) NF σ_) zF 92 [(0, .ref (ad g 31)), (1, .ref (ad g o1_)), (2, .int u2_), (3, .int v3_), (4, .int u4_), (5, .int v5_), (6, .int s2)] [.int s3] σ_ := by
      intro s3 hr
      replace hr := (congrFun ej92 s3).symm.trans hr
      refine r_istore (pc := 92) (ls1 := [(7, .int s3), (0, .ref (ad g 31)), (1, .ref (ad g o1_)), (2, .int u2_), (3, .int v3_), (4, .int u4_), (5, .int v5_), (6, .int s2)]) dX3_judgedElse_92 (nle rfl) rfl ?_
      refine r_iload (pc := 94) (j := 7) dX3_judgedElse_94 rfl ?_
      refine r_iload (pc := 96) (j := 0) dX3_judgedElse_96 rfl ?_
      refine r_icmp_eq (pc := 98) (tgt := 104) dX3_judgedElse_98 rfl (fun hc => ?_) (fun hc => ?_)
      · replace hr := ite_t hc hr
        refine r_iinc (pc := 104) (j := 6) (v := (v5_ + (1 : Int32))) (ls1 := [(5, .int (v5_ + (1 : Int32))), (7, .int s3), (0, .ref (ad g 31)), (1, .ref (ad g o1_)), (2, .int u2_), (3, .int v3_), (4, .int u4_), (6, .int s2)]) dX3_judgedElse_104 rfl rfl (nle rfl) rfl ?_
        refine r_goto (pc := 107) (tgt := 17) dX3_judgedElse_107 rfl ?_
        exact r_pick (ls1 := [(0, .ref (ad g 31)), (1, .ref (ad g o1_)), (2, .int u2_), (3, .int v3_), (4, .int u4_), (5, .int (v5_ + (1 : Int32)))]) [2, 3, 4, 5, 6, 0] rfl (ih v3_ (v5_ + (1 : Int32)) hr)
      replace hr := ite_f hc hr
      refine r_iinc (pc := 101) (j := 4) (v := (v3_ + (1 : Int32))) (ls1 := [(3, .int (v3_ + (1 : Int32))), (7, .int s3), (0, .ref (ad g 31)), (1, .ref (ad g o1_)), (2, .int u2_), (4, .int u4_), (5, .int v5_), (6, .int s2)]) dX3_judgedElse_101 rfl rfl (nle rfl) rfl ?_
      refine r_iinc (pc := 104) (j := 6) (v := (v5_ + (1 : Int32))) (ls1 := [(5, .int (v5_ + (1 : Int32))), (3, .int (v3_ + (1 : Int32))), (7, .int s3), (0, .ref (ad g 31)), (1, .ref (ad g o1_)), (2, .int u2_), (4, .int u4_), (6, .int s2)]) dX3_judgedElse_104 rfl rfl (nle rfl) rfl ?_
      refine r_goto (pc := 107) (tgt := 17) dX3_judgedElse_107 rfl ?_
      exact r_pick (ls1 := [(0, .ref (ad g 31)), (1, .ref (ad g o1_)), (2, .int u2_), (3, .int (v3_ + (1 : Int32))), (4, .int u4_), (5, .int (v5_ + (1 : Int32)))]) [3, 4, 5, 1, 6, 0] rfl (ih (v3_ + (1 : Int32)) (v5_ + (1 : Int32)) hr)
    obtain ⟨j91, ej91, hr⟩ := vth_ex hr
    have hj91 : j91 () = some r → RR g mX3_judgedElse (FinR g mX3_judgedElse (some (.int r)) NF σ_) zF 91 [(0, .ref (ad g 31)), (1, .ref (ad g o1_)), (2, .int u2_), (3, .int v3_), (4, .int u4_), (5, .int v5_), (6, .int s2)] [] σ_ := by
      intro  hr
      replace hr := (congrFun ej91 ()).symm.trans hr
      refine r_iconst (pc := 91) (v := (0 : Int32)) dX3_judgedElse_91 rfl ?_
      exact r_pick (ls1 := [(0, .ref (ad g 31)), (1, .ref (ad g o1_)), (2, .int u2_), (3, .int v3_), (4, .int u4_), (5, .int v5_), (6, .int s2)]) [0, 1, 2, 3, 4, 5, 6] rfl (hj92 (0 : Int32) hr)
    refine r_if_le (pc := 53) (tgt := 91) dX3_judgedElse_53 rfl (fun hc => ?_) (fun hc => ?_)
    · replace hr := ite_t hc hr
      exact r_pick (ls1 := [(0, .ref (ad g 31)), (1, .ref (ad g o1_)), (2, .int u2_), (3, .int v3_), (4, .int u4_), (5, .int v5_), (6, .int s2)]) [1, 2, 3, 4, 5, 6, 0] rfl (hj91  hr)
    replace hr := ite_f hc hr
    refine r_aload_n (pc := 56) (j := 1) dX3_judgedElse_56 rfl rfl ?_
    refine gf3_4 (pc := 57) tw_2_30 hw_ dX3_judgedElse_57 ?_
    refine r_aload_n (pc := 60) (j := 2) dX3_judgedElse_60 rfl rfl ?_
    refine gf1_8 (pc := 61) tw_1_90 hw_ hs1_ dX3_judgedElse_61 ?_
    refine r_iload (pc := 64) (j := 5) dX3_judgedElse_64 rfl ?_
    refine x_iald (pc := 66) (k := (Int32.toNatClampNeg u4_)) (sh1_8 hs1_) h1 rfl dX3_judgedElse_66 ?_
    refine r_iload (pc := 67) (j := 6) dX3_judgedElse_67 rfl ?_
    refine r_iadd (pc := 69) dX3_judgedElse_69 ?_
    obtain ⟨h4, hr⟩ := grd_inv hr
    refine x_iald (pc := 70) (k := (Int32.toNatClampNeg ((gI σ_ (o1_ + 2) (Int32.toNatClampNeg u4_)) + v5_))) rfl h4 rfl dX3_judgedElse_70 ?_
    refine r_aload_n (pc := 71) (j := 1) dX3_judgedElse_71 rfl rfl ?_
    refine gf3_4 (pc := 72) tw_2_30 hw_ dX3_judgedElse_72 ?_
    refine r_aload_n (pc := 75) (j := 1) dX3_judgedElse_75 rfl rfl ?_
    refine gf3_5 (pc := 76) tw_2_32 hw_ dX3_judgedElse_76 ?_
    refine r_iload_n (pc := 79) (j := 3) dX3_judgedElse_79 rfl rfl ?_
    refine r_iconst (pc := 80) (v := (1 : Int32)) dX3_judgedElse_80 rfl ?_
    refine r_isub (pc := 81) dX3_judgedElse_81 ?_
    obtain ⟨h5, hr⟩ := grd_inv hr
    refine x_iald (pc := 82) (k := (Int32.toNatClampNeg (u2_ - (1 : Int32)))) rfl h5 rfl dX3_judgedElse_82 ?_
    obtain ⟨h6, hr⟩ := grd_inv hr
    refine x_iald (pc := 83) (k := (Int32.toNatClampNeg (gI σ_ 52 (Int32.toNatClampNeg (u2_ - (1 : Int32)))))) rfl h6 rfl dX3_judgedElse_83 ?_
    refine r_icmp_lt (pc := 84) (tgt := 91) dX3_judgedElse_84 rfl (fun hc => ?_) (fun hc => ?_)
    · replace hr := ite_t hc hr
      exact r_pick (ls1 := [(0, .ref (ad g 31)), (1, .ref (ad g o1_)), (2, .int u2_), (3, .int v3_), (4, .int u4_), (5, .int v5_), (6, .int s2)]) [1, 2, 3, 4, 5, 6, 0] rfl (hj91  hr)
    replace hr := ite_f hc hr
    refine r_iconst (pc := 87) (v := (1 : Int32)) dX3_judgedElse_87 rfl ?_
    refine r_goto (pc := 88) (tgt := 92) dX3_judgedElse_88 rfl ?_
    exact r_pick (ls1 := [(0, .ref (ad g 31)), (1, .ref (ad g o1_)), (2, .int u2_), (3, .int v3_), (4, .int u4_), (5, .int v5_), (6, .int s2)]) [1, 2, 3, 4, 5, 6, 0] rfl (hj92 (1 : Int32) hr)
  refine r_icmp_ne (pc := 42) (tgt := 49) dX3_judgedElse_42 rfl (fun hc => ?_) (fun hc => ?_)
  · replace hr := ite_f hc hr
    refine r_iconst (pc := 49) (v := (0 : Int32)) dX3_judgedElse_49 rfl ?_
    exact r_pick (ls1 := [(0, .ref (ad g 31)), (1, .ref (ad g o1_)), (2, .int u2_), (3, .int v3_), (4, .int u4_), (5, .int v5_)]) [0, 1, 2, 3, 4, 5] rfl (hj50 (0 : Int32) hr)
  replace hr := ite_t hc hr
  refine r_iconst (pc := 45) (v := (1 : Int32)) dX3_judgedElse_45 rfl ?_
  refine r_goto (pc := 46) (tgt := 50) dX3_judgedElse_46 rfl ?_
  exact r_pick (ls1 := [(0, .ref (ad g 31)), (1, .ref (ad g o1_)), (2, .int u2_), (3, .int v3_), (4, .int u4_), (5, .int v5_)]) [0, 1, 2, 3, 4, 5] rfl (hj50 (1 : Int32) hr)

set_option maxRecDepth 20000 in
theorem sX3_judgedElse_L5 {g : GG} {r : Int32} {σ_ : SS} {σ0 : SS} {o1_ : Nat} {u2_ : Int32}  (hs1_ : shp o1_ = (1, 0))
    (hw_ : WT σ_)
    (h0_ : σ_ = σ0)
    (n : Nat) : ∀ (v3_ : Int32) (v4_ : Int32), X3_judgedElse_L5 σ_ o1_ u2_ n v3_ v4_ = some r → RR g mX3_judgedElse (FinR g mX3_judgedElse (some (.int r)) NF σ0) zF 5 [(0, .ref (ad g 31)), (1, .ref (ad g o1_)), (2, .int u2_), (3, .int v3_), (4, .int v4_)] [] σ_ := by
  unfold X3_judgedElse_L5
  refine lp_ind (P := fun (rec : Int32 → Int32 → Option Int32) => ∀ (v3_ : Int32) (v4_ : Int32), rec v3_ v4_ = some r → RR g mX3_judgedElse (FinR g mX3_judgedElse (some (.int r)) NF σ0) zF 5 [(0, .ref (ad g 31)), (1, .ref (ad g o1_)), (2, .int u2_), (3, .int v3_), (4, .int v4_)] [] σ_) ?_ ?_ n
  · intro v3_ v4_ hr; cases hr
  intro rec ih v3_ v4_ hr
  subst h0_
  refine r_iload (pc := 5) (j := 4) dX3_judgedElse_5 rfl ?_
  refine r_aload_n (pc := 7) (j := 1) dX3_judgedElse_7 rfl rfl ?_
  refine gf1_5 (pc := 8) tw_1_81 hs1_ dX3_judgedElse_8 ?_
  refine r_icmp_ge (pc := 11) (tgt := 116) dX3_judgedElse_11 rfl (fun hc => ?_) (fun hc => ?_)
  · replace hr := ite_t hc hr
    refine r_iload_n (pc := 116) (j := 3) dX3_judgedElse_116 rfl rfl ?_
    exact l_opi hr (r_iret (pc := 117) (v := v3_) rfl rfl ⟨Nat.le_refl _, Nat.le_refl _⟩ dX3_judgedElse_117)
  replace hr := ite_f hc hr
  refine r_iconst (pc := 14) (v := (0 : Int32)) dX3_judgedElse_14 rfl ?_
  refine r_istore (pc := 15) (ls1 := [(5, .int (0 : Int32)), (0, .ref (ad g 31)), (1, .ref (ad g o1_)), (2, .int u2_), (3, .int v3_), (4, .int v4_)]) dX3_judgedElse_15 (nle rfl) rfl ?_
  refine r_pick (ls1 := [(0, .ref (ad g 31)), (1, .ref (ad g o1_)), (2, .int u2_), (3, .int v3_), (4, .int v4_), (5, .int (0 : Int32))]) [1, 2, 3, 4, 5, 0] rfl ?_
  refine sX3_judgedElse_L17 hs1_ hw_ rfl (fun v7 hr => ?_) fuel v3_ (0 : Int32) hr
  refine r_iinc (pc := 110) (j := 4) (v := (v4_ + (1 : Int32))) (ls1 := [(4, .int (v4_ + (1 : Int32))), (0, .ref (ad g 31)), (1, .ref (ad g o1_)), (2, .int u2_), (3, .int v7)]) dX3_judgedElse_110 rfl rfl (nle rfl) rfl ?_
  refine r_goto (pc := 113) (tgt := 5) dX3_judgedElse_113 rfl ?_
  exact r_pick (ls1 := [(0, .ref (ad g 31)), (1, .ref (ad g o1_)), (2, .int u2_), (3, .int v7), (4, .int (v4_ + (1 : Int32)))]) [1, 2, 3, 4, 0] rfl (ih v7 (v4_ + (1 : Int32)) hr)

set_option maxRecDepth 20000 in
theorem sX3_judgedElse {g : GG} {σ0 : SS} {a1 : Nat} {a2 : Int32} {r : Int32} (hr : fX3_judgedElse σ0 a1 a2 = some r) (hs1 : shp a1 = (1, 0)) : Ct g mX3_judgedElse [.ref (ad g 31), .ref (ad g a1), .int a2] NF σ0 (some (.int r)) NF σ0 := by
  refine Ct.of (by decide +kernel) (nle rfl) fun hw0 => ?_
  have hw := hw0 rfl
  unfold fX3_judgedElse at hr
  change RR g mX3_judgedElse (FinR g mX3_judgedElse (some (.int r)) NF σ0) zF 0 [(0, .ref (ad g 31)), (1, .ref (ad g a1)), (2, .int a2)] [] σ0
  refine r_iconst (pc := 0) (v := (0 : Int32)) dX3_judgedElse_0 rfl ?_
  refine r_istore_n (pc := 1) (ls1 := [(3, .int (0 : Int32)), (0, .ref (ad g 31)), (1, .ref (ad g a1)), (2, .int a2)]) dX3_judgedElse_1 rfl (nle rfl) rfl ?_
  refine r_iconst (pc := 2) (v := (0 : Int32)) dX3_judgedElse_2 rfl ?_
  refine r_istore (pc := 3) (ls1 := [(4, .int (0 : Int32)), (3, .int (0 : Int32)), (0, .ref (ad g 31)), (1, .ref (ad g a1)), (2, .int a2)]) dX3_judgedElse_3 (nle rfl) rfl ?_
  refine r_pick (ls1 := [(0, .ref (ad g 31)), (1, .ref (ad g a1)), (2, .int a2), (3, .int (0 : Int32)), (4, .int (0 : Int32))]) [2, 3, 4, 1, 0] rfl ?_
  refine sX3_judgedElse_L5 hs1 hw rfl  fuel (0 : Int32) (0 : Int32) hr

theorem kX3_judgedElse {g : GG} {σ0 : SS} {a1 : Nat} {a2 : Int32} {v : Int32} {M : MM} {F : State → Array Value → List Frame → State → Prop} {pc index : Nat} {ls : List (Nat × Value)} {rest : List Value} (hf : fX3_judgedElse σ0 a1 a2 = some v) (hs1 : shp a1 = (1, 0)) (hl : Cond.methodLink M.1.cls index yX3_judgedElse ∈ lw_gt) (hR : mX3_judgedElse.2.2.2.2.frames + 1 ≤ M.2.2.2.2.frames ∧ 8 + (mX3_judgedElse.2.2.1 + 11) + mX3_judgedElse.2.2.2.2.locals ≤ M.2.2.2.2.locals) (hrest : (rest.map fun v => v.category).sum ≤ 8) (hd : decode M.2.1 pc = .ok (.invokevirtual index, 3)) (k : RR g M F zF (pc + 3) ls (.int v :: rest) σ0) : RR g M F zF pc ls (.int a2 :: .ref (ad g a1) :: .ref (ad g 31) :: rest) σ0 :=
  r_callV (N := mX3_judgedElse) (nn := 2) (o1 := some (.int v)) (sX3_judgedElse hf hs1) (rfl : shp 31 = (3, 0)) (by decide) (shp_le (rfl : shp 31 = (3, 0)) (nle rfl)) (ci := 3) rfl rfl tw_4_198 tw_1_5 hl tw_4_197 tp_31 ⟨by decide, by decide, rfl⟩ hR rfl hrest hd ⟨Nat.zero_le _, Nat.zero_le _⟩ rfl (fun h => k)

theorem dX3_partedBy_0 : decode cX3_partedBy 0 = .ok (.aload_n 0, 1) := by decide +kernel
theorem dX3_partedBy_1 : decode cX3_partedBy 1 = .ok (.iconst 0, 1) := by decide +kernel
theorem dX3_partedBy_2 : decode cX3_partedBy 2 = .ok (.aload_n 1, 1) := by decide +kernel
theorem dX3_partedBy_3 : decode cX3_partedBy 3 = .ok (.getfield 99, 3) := by decide +kernel
theorem dX3_partedBy_6 : decode cX3_partedBy 6 = .ok (.invokevirtual 157, 3) := by decide +kernel
theorem dX3_partedBy_9 : decode cX3_partedBy 9 = .ok (.iconst 0, 1) := by decide +kernel
theorem dX3_partedBy_10 : decode cX3_partedBy 10 = .ok (.istore_n 3, 1) := by decide +kernel
theorem dX3_partedBy_11 : decode cX3_partedBy 11 = .ok (.iconst 0, 1) := by decide +kernel
theorem dX3_partedBy_12 : decode cX3_partedBy 12 = .ok (.istore 4, 2) := by decide +kernel
theorem dX3_partedBy_14 : decode cX3_partedBy 14 = .ok (.iconst 0, 1) := by decide +kernel
theorem dX3_partedBy_15 : decode cX3_partedBy 15 = .ok (.istore 5, 2) := by decide +kernel
theorem dX3_partedBy_17 : decode cX3_partedBy 17 = .ok (.iload 5, 2) := by decide +kernel
theorem dX3_partedBy_19 : decode cX3_partedBy 19 = .ok (.iconst 1, 1) := by decide +kernel
theorem dX3_partedBy_20 : decode cX3_partedBy 20 = .ok (.iadd, 1) := by decide +kernel
theorem dX3_partedBy_21 : decode cX3_partedBy 21 = .ok (.aload_n 1, 1) := by decide +kernel
theorem dX3_partedBy_22 : decode cX3_partedBy 22 = .ok (.getfield 99, 3) := by decide +kernel
theorem dX3_partedBy_25 : decode cX3_partedBy 25 = .ok (.if_icmp .ge 75, 3) := by decide +kernel
theorem dX3_partedBy_28 : decode cX3_partedBy 28 = .ok (.aload_n 0, 1) := by decide +kernel
theorem dX3_partedBy_29 : decode cX3_partedBy 29 = .ok (.getfield 32, 3) := by decide +kernel
theorem dX3_partedBy_32 : decode cX3_partedBy 32 = .ok (.aload_n 0, 1) := by decide +kernel
theorem dX3_partedBy_33 : decode cX3_partedBy 33 = .ok (.getfield 35, 3) := by decide +kernel
theorem dX3_partedBy_36 : decode cX3_partedBy 36 = .ok (.iload 5, 2) := by decide +kernel
theorem dX3_partedBy_38 : decode cX3_partedBy 38 = .ok (.iaload, 1) := by decide +kernel
theorem dX3_partedBy_39 : decode cX3_partedBy 39 = .ok (.iaload, 1) := by decide +kernel
theorem dX3_partedBy_40 : decode cX3_partedBy 40 = .ok (.aload_n 0, 1) := by decide +kernel
theorem dX3_partedBy_41 : decode cX3_partedBy 41 = .ok (.getfield 32, 3) := by decide +kernel
theorem dX3_partedBy_44 : decode cX3_partedBy 44 = .ok (.aload_n 0, 1) := by decide +kernel
theorem dX3_partedBy_45 : decode cX3_partedBy 45 = .ok (.getfield 35, 3) := by decide +kernel
theorem dX3_partedBy_48 : decode cX3_partedBy 48 = .ok (.iload 5, 2) := by decide +kernel
theorem dX3_partedBy_50 : decode cX3_partedBy 50 = .ok (.iconst 1, 1) := by decide +kernel
theorem dX3_partedBy_51 : decode cX3_partedBy 51 = .ok (.iadd, 1) := by decide +kernel
theorem dX3_partedBy_52 : decode cX3_partedBy 52 = .ok (.iaload, 1) := by decide +kernel
theorem dX3_partedBy_53 : decode cX3_partedBy 53 = .ok (.iaload, 1) := by decide +kernel
theorem dX3_partedBy_54 : decode cX3_partedBy 54 = .ok (.isub, 1) := by decide +kernel
theorem dX3_partedBy_55 : decode cX3_partedBy 55 = .ok (.iload 4, 2) := by decide +kernel
theorem dX3_partedBy_57 : decode cX3_partedBy 57 = .ok (.if_icmp .le 37, 3) := by decide +kernel
theorem dX3_partedBy_60 : decode cX3_partedBy 60 = .ok (.aload_n 0, 1) := by decide +kernel
theorem dX3_partedBy_61 : decode cX3_partedBy 61 = .ok (.getfield 32, 3) := by decide +kernel
theorem dX3_partedBy_64 : decode cX3_partedBy 64 = .ok (.aload_n 0, 1) := by decide +kernel
theorem dX3_partedBy_65 : decode cX3_partedBy 65 = .ok (.getfield 35, 3) := by decide +kernel
theorem dX3_partedBy_68 : decode cX3_partedBy 68 = .ok (.iload 5, 2) := by decide +kernel
theorem dX3_partedBy_70 : decode cX3_partedBy 70 = .ok (.iaload, 1) := by decide +kernel
theorem dX3_partedBy_71 : decode cX3_partedBy 71 = .ok (.iaload, 1) := by decide +kernel
theorem dX3_partedBy_72 : decode cX3_partedBy 72 = .ok (.aload_n 0, 1) := by decide +kernel
theorem dX3_partedBy_73 : decode cX3_partedBy 73 = .ok (.getfield 32, 3) := by decide +kernel
theorem dX3_partedBy_76 : decode cX3_partedBy 76 = .ok (.aload_n 0, 1) := by decide +kernel
theorem dX3_partedBy_77 : decode cX3_partedBy 77 = .ok (.getfield 35, 3) := by decide +kernel
theorem dX3_partedBy_80 : decode cX3_partedBy 80 = .ok (.iload 5, 2) := by decide +kernel
theorem dX3_partedBy_82 : decode cX3_partedBy 82 = .ok (.iconst 1, 1) := by decide +kernel
theorem dX3_partedBy_83 : decode cX3_partedBy 83 = .ok (.iadd, 1) := by decide +kernel
theorem dX3_partedBy_84 : decode cX3_partedBy 84 = .ok (.iaload, 1) := by decide +kernel
theorem dX3_partedBy_85 : decode cX3_partedBy 85 = .ok (.iaload, 1) := by decide +kernel
theorem dX3_partedBy_86 : decode cX3_partedBy 86 = .ok (.isub, 1) := by decide +kernel
theorem dX3_partedBy_87 : decode cX3_partedBy 87 = .ok (.istore 4, 2) := by decide +kernel
theorem dX3_partedBy_89 : decode cX3_partedBy 89 = .ok (.iload 5, 2) := by decide +kernel
theorem dX3_partedBy_91 : decode cX3_partedBy 91 = .ok (.iconst 1, 1) := by decide +kernel
theorem dX3_partedBy_92 : decode cX3_partedBy 92 = .ok (.iadd, 1) := by decide +kernel
theorem dX3_partedBy_93 : decode cX3_partedBy 93 = .ok (.istore_n 3, 1) := by decide +kernel
theorem dX3_partedBy_94 : decode cX3_partedBy 94 = .ok (.iinc 5 1, 3) := by decide +kernel
theorem dX3_partedBy_97 : decode cX3_partedBy 97 = .ok (.goto (-80), 3) := by decide +kernel
theorem dX3_partedBy_100 : decode cX3_partedBy 100 = .ok (.iload_n 2, 1) := by decide +kernel
theorem dX3_partedBy_101 : decode cX3_partedBy 101 = .ok (.ifCond .ne 6, 3) := by decide +kernel
theorem dX3_partedBy_104 : decode cX3_partedBy 104 = .ok (.iload 4, 2) := by decide +kernel
theorem dX3_partedBy_106 : decode cX3_partedBy 106 = .ok (.ireturn, 1) := by decide +kernel
theorem dX3_partedBy_107 : decode cX3_partedBy 107 = .ok (.iload_n 2, 1) := by decide +kernel
theorem dX3_partedBy_108 : decode cX3_partedBy 108 = .ok (.iconst 1, 1) := by decide +kernel
theorem dX3_partedBy_109 : decode cX3_partedBy 109 = .ok (.if_icmp .ne 7, 3) := by decide +kernel
theorem dX3_partedBy_112 : decode cX3_partedBy 112 = .ok (.iload_n 3, 1) := by decide +kernel
theorem dX3_partedBy_113 : decode cX3_partedBy 113 = .ok (.goto 9, 3) := by decide +kernel
theorem dX3_partedBy_116 : decode cX3_partedBy 116 = .ok (.aload_n 0, 1) := by decide +kernel
theorem dX3_partedBy_117 : decode cX3_partedBy 117 = .ok (.aload_n 1, 1) := by decide +kernel
theorem dX3_partedBy_118 : decode cX3_partedBy 118 = .ok (.iload_n 3, 1) := by decide +kernel
theorem dX3_partedBy_119 : decode cX3_partedBy 119 = .ok (.invokevirtual 176, 3) := by decide +kernel
theorem dX3_partedBy_122 : decode cX3_partedBy 122 = .ok (.ireturn, 1) := by decide +kernel
def mX3_partedBy : MM := (yX3_partedBy, cX3_partedBy, 6, Option.some Jvm.ClassFile.FieldType.int, { frames := 1, cells := 0, slots := 0, locals := 27 })
def X3_partedBy_L17 (σ_ : SS) (o1_ : Nat) (k100 : Int32 → Int32 → Option (Int32 × SS)) : Nat → Int32 → Int32 → Int32 → Option (Int32 × SS) :=
  lp (fun _ _ _ => none) fun rec v3_ v4_ v5_ =>
    if (gI σ_ o1_ 6) ≤ (v5_ + (1 : Int32)) then (
      k100 v3_ v4_
      ) else (
      grd (inb v5_ 72) <|
      grd (inb (gI σ_ 52 (Int32.toNatClampNeg v5_)) 72) <|
      grd (inb (v5_ + (1 : Int32)) 72) <|
      grd (inb (gI σ_ 52 (Int32.toNatClampNeg (v5_ + (1 : Int32)))) 72) <|
      if ((gI σ_ 51 (Int32.toNatClampNeg (gI σ_ 52 (Int32.toNatClampNeg v5_)))) - (gI σ_ 51 (Int32.toNatClampNeg (gI σ_ 52 (Int32.toNatClampNeg (v5_ + (1 : Int32))))))) ≤ v4_ then (
        rec v3_ v4_ (v5_ + (1 : Int32))
        ) else (
        vthen ((gI σ_ 51 (Int32.toNatClampNeg (gI σ_ 52 (Int32.toNatClampNeg v5_)))) - (gI σ_ 51 (Int32.toNatClampNeg (gI σ_ 52 (Int32.toNatClampNeg (v5_ + (1 : Int32))))))) fun v6 =>
        vthen (v5_ + (1 : Int32)) fun v7 =>
        rec v7 v6 (v5_ + (1 : Int32))
        )
      )

def fX3_partedBy (σ : SS) (a1 : Nat) (a2 : Int32) : Option (Int32 × SS) :=
  bnd1 (fX3_sortByDark σ (0 : Int32) (gI σ a1 6)) fun σ1 =>
  X3_partedBy_L17 σ1 a1
  (fun v8 v9 =>
    if a2 = 0 then (
      some (v9, σ1)
      ) else (
      if a2 = (1 : Int32) then (
        some (v8, σ1)
        ) else (
        bnd1 (fX3_judgedElse σ1 a1 v8) fun v10 =>
        some (v10, σ1)
        )
      )
    )
  fuel (0 : Int32) (0 : Int32) (0 : Int32)

set_option maxRecDepth 20000 in
theorem sX3_partedBy_L17 {g : GG} {r : Int32 × SS} {σ_ : SS} {o1_ : Nat} {x2_ : Int32} {k100 : Int32 → Int32 → Option (Int32 × SS)} (hs1_ : shp o1_ = (1, 0))
    (hw_ : WT σ_)
    (hk100 : ∀ (y3 : Int32) (y4 : Int32), k100 y3 y4 = some r → RR g mX3_partedBy (FinR g mX3_partedBy (some (.int r.1)) NF r.2) zF 100 [(0, .ref (ad g 31)), (1, .ref (ad g o1_)), (2, .int x2_), (3, .int y3), (4, .int y4)] [] σ_)
    (n : Nat) : ∀ (v3_ : Int32) (v4_ : Int32) (v5_ : Int32), X3_partedBy_L17 σ_ o1_ k100 n v3_ v4_ v5_ = some r → RR g mX3_partedBy (FinR g mX3_partedBy (some (.int r.1)) NF r.2) zF 17 [(0, .ref (ad g 31)), (1, .ref (ad g o1_)), (2, .int x2_), (3, .int v3_), (4, .int v4_), (5, .int v5_)] [] σ_ := by
  unfold X3_partedBy_L17
  refine lp_ind (P := fun (rec : Int32 → Int32 → Int32 → Option (Int32 × SS)) => ∀ (v3_ : Int32) (v4_ : Int32) (v5_ : Int32), rec v3_ v4_ v5_ = some r → RR g mX3_partedBy (FinR g mX3_partedBy (some (.int r.1)) NF r.2) zF 17 [(0, .ref (ad g 31)), (1, .ref (ad g o1_)), (2, .int x2_), (3, .int v3_), (4, .int v4_), (5, .int v5_)] [] σ_) ?_ ?_ n
  · intro v3_ v4_ v5_ hr; cases hr
  intro rec ih v3_ v4_ v5_ hr
  refine r_iload (pc := 17) (j := 5) dX3_partedBy_17 rfl ?_
  refine r_iconst (pc := 19) (v := (1 : Int32)) dX3_partedBy_19 rfl ?_
  refine r_iadd (pc := 20) dX3_partedBy_20 ?_
  refine r_aload_n (pc := 21) (j := 1) dX3_partedBy_21 rfl rfl ?_
  refine gf1_6 (pc := 22) tw_1_83 hs1_ dX3_partedBy_22 ?_
  refine r_icmp_ge (pc := 25) (tgt := 100) dX3_partedBy_25 rfl (fun hc => ?_) (fun hc => ?_)
  · replace hr := ite_t hc hr
    exact r_pick (ls1 := [(0, .ref (ad g 31)), (1, .ref (ad g o1_)), (2, .int x2_), (3, .int v3_), (4, .int v4_)]) [0, 1, 2, 3, 4] rfl (hk100 v3_ v4_ hr)
  replace hr := ite_f hc hr
  refine r_aload_n (pc := 28) (j := 0) dX3_partedBy_28 rfl rfl ?_
  refine gf3_4 (pc := 29) tw_2_30 hw_ dX3_partedBy_29 ?_
  refine r_aload_n (pc := 32) (j := 0) dX3_partedBy_32 rfl rfl ?_
  refine gf3_5 (pc := 33) tw_2_32 hw_ dX3_partedBy_33 ?_
  refine r_iload (pc := 36) (j := 5) dX3_partedBy_36 rfl ?_
  obtain ⟨h2, hr⟩ := grd_inv hr
  refine x_iald (pc := 38) (k := (Int32.toNatClampNeg v5_)) rfl h2 rfl dX3_partedBy_38 ?_
  obtain ⟨h3, hr⟩ := grd_inv hr
  refine x_iald (pc := 39) (k := (Int32.toNatClampNeg (gI σ_ 52 (Int32.toNatClampNeg v5_)))) rfl h3 rfl dX3_partedBy_39 ?_
  refine r_aload_n (pc := 40) (j := 0) dX3_partedBy_40 rfl rfl ?_
  refine gf3_4 (pc := 41) tw_2_30 hw_ dX3_partedBy_41 ?_
  refine r_aload_n (pc := 44) (j := 0) dX3_partedBy_44 rfl rfl ?_
  refine gf3_5 (pc := 45) tw_2_32 hw_ dX3_partedBy_45 ?_
  refine r_iload (pc := 48) (j := 5) dX3_partedBy_48 rfl ?_
  refine r_iconst (pc := 50) (v := (1 : Int32)) dX3_partedBy_50 rfl ?_
  refine r_iadd (pc := 51) dX3_partedBy_51 ?_
  obtain ⟨h4, hr⟩ := grd_inv hr
  refine x_iald (pc := 52) (k := (Int32.toNatClampNeg (v5_ + (1 : Int32)))) rfl h4 rfl dX3_partedBy_52 ?_
  obtain ⟨h5, hr⟩ := grd_inv hr
  refine x_iald (pc := 53) (k := (Int32.toNatClampNeg (gI σ_ 52 (Int32.toNatClampNeg (v5_ + (1 : Int32)))))) rfl h5 rfl dX3_partedBy_53 ?_
  refine r_isub (pc := 54) dX3_partedBy_54 ?_
  refine r_iload (pc := 55) (j := 4) dX3_partedBy_55 rfl ?_
  refine r_icmp_le (pc := 57) (tgt := 94) dX3_partedBy_57 rfl (fun hc => ?_) (fun hc => ?_)
  · replace hr := ite_t hc hr
    refine r_iinc (pc := 94) (j := 5) (v := (v5_ + (1 : Int32))) (ls1 := [(5, .int (v5_ + (1 : Int32))), (0, .ref (ad g 31)), (1, .ref (ad g o1_)), (2, .int x2_), (3, .int v3_), (4, .int v4_)]) dX3_partedBy_94 rfl rfl (nle rfl) rfl ?_
    refine r_goto (pc := 97) (tgt := 17) dX3_partedBy_97 rfl ?_
    exact r_pick (ls1 := [(0, .ref (ad g 31)), (1, .ref (ad g o1_)), (2, .int x2_), (3, .int v3_), (4, .int v4_), (5, .int (v5_ + (1 : Int32)))]) [1, 2, 3, 4, 5, 0] rfl (ih v3_ v4_ (v5_ + (1 : Int32)) hr)
  replace hr := ite_f hc hr
  refine r_aload_n (pc := 60) (j := 0) dX3_partedBy_60 rfl rfl ?_
  refine gf3_4 (pc := 61) tw_2_30 hw_ dX3_partedBy_61 ?_
  refine r_aload_n (pc := 64) (j := 0) dX3_partedBy_64 rfl rfl ?_
  refine gf3_5 (pc := 65) tw_2_32 hw_ dX3_partedBy_65 ?_
  refine r_iload (pc := 68) (j := 5) dX3_partedBy_68 rfl ?_
  refine x_iald (pc := 70) (k := (Int32.toNatClampNeg v5_)) rfl h2 rfl dX3_partedBy_70 ?_
  refine x_iald (pc := 71) (k := (Int32.toNatClampNeg (gI σ_ 52 (Int32.toNatClampNeg v5_)))) rfl h3 rfl dX3_partedBy_71 ?_
  refine r_aload_n (pc := 72) (j := 0) dX3_partedBy_72 rfl rfl ?_
  refine gf3_4 (pc := 73) tw_2_30 hw_ dX3_partedBy_73 ?_
  refine r_aload_n (pc := 76) (j := 0) dX3_partedBy_76 rfl rfl ?_
  refine gf3_5 (pc := 77) tw_2_32 hw_ dX3_partedBy_77 ?_
  refine r_iload (pc := 80) (j := 5) dX3_partedBy_80 rfl ?_
  refine r_iconst (pc := 82) (v := (1 : Int32)) dX3_partedBy_82 rfl ?_
  refine r_iadd (pc := 83) dX3_partedBy_83 ?_
  refine x_iald (pc := 84) (k := (Int32.toNatClampNeg (v5_ + (1 : Int32)))) rfl h4 rfl dX3_partedBy_84 ?_
  refine x_iald (pc := 85) (k := (Int32.toNatClampNeg (gI σ_ 52 (Int32.toNatClampNeg (v5_ + (1 : Int32)))))) rfl h5 rfl dX3_partedBy_85 ?_
  refine r_isub (pc := 86) dX3_partedBy_86 ?_
  refine r_topi fun v6 ev6 => ?_
  replace hr := vthen_inv hr v6 ev6
  refine r_istore (pc := 87) (ls1 := [(4, .int v6), (0, .ref (ad g 31)), (1, .ref (ad g o1_)), (2, .int x2_), (3, .int v3_), (5, .int v5_)]) dX3_partedBy_87 (nle rfl) rfl ?_
  refine r_iload (pc := 89) (j := 5) dX3_partedBy_89 rfl ?_
  refine r_iconst (pc := 91) (v := (1 : Int32)) dX3_partedBy_91 rfl ?_
  refine r_iadd (pc := 92) dX3_partedBy_92 ?_
  refine r_topi fun v7 ev7 => ?_
  replace hr := vthen_inv hr v7 ev7
  refine r_istore_n (pc := 93) (ls1 := [(3, .int v7), (4, .int v6), (0, .ref (ad g 31)), (1, .ref (ad g o1_)), (2, .int x2_), (5, .int v5_)]) dX3_partedBy_93 rfl (nle rfl) rfl ?_
  refine r_iinc (pc := 94) (j := 5) (v := (v5_ + (1 : Int32))) (ls1 := [(5, .int (v5_ + (1 : Int32))), (3, .int v7), (4, .int v6), (0, .ref (ad g 31)), (1, .ref (ad g o1_)), (2, .int x2_)]) dX3_partedBy_94 rfl rfl (nle rfl) rfl ?_
  refine r_goto (pc := 97) (tgt := 17) dX3_partedBy_97 rfl ?_
  exact r_pick (ls1 := [(0, .ref (ad g 31)), (1, .ref (ad g o1_)), (2, .int x2_), (3, .int v7), (4, .int v6), (5, .int (v5_ + (1 : Int32)))]) [3, 4, 5, 1, 2, 0] rfl (ih v7 v6 (v5_ + (1 : Int32)) hr)

set_option maxRecDepth 20000 in
theorem sX3_partedBy {g : GG} {σ : SS} {a1 : Nat} {a2 : Int32} {r : Int32 × SS} (hr : fX3_partedBy σ a1 a2 = some r) (hs1 : shp a1 = (1, 0)) : Ct g mX3_partedBy [.ref (ad g 31), .ref (ad g a1), .int a2] NF σ (some (.int r.1)) NF r.2 := by
  refine Ct.of (by decide +kernel) (nle rfl) fun hw0 => ?_
  have hw := hw0 rfl
  unfold fX3_partedBy at hr
  change RR g mX3_partedBy (FinR g mX3_partedBy (some (.int r.1)) NF r.2) zF 0 [(0, .ref (ad g 31)), (1, .ref (ad g a1)), (2, .int a2)] [] σ
  refine r_aload_n (pc := 0) (j := 0) dX3_partedBy_0 rfl rfl ?_
  refine r_iconst (pc := 1) (v := (0 : Int32)) dX3_partedBy_1 rfl ?_
  refine r_aload_n (pc := 2) (j := 1) dX3_partedBy_2 rfl rfl ?_
  refine gf1_6 (pc := 3) tw_1_83 hs1 dX3_partedBy_3 ?_
  obtain ⟨σ1, eσ1, hr⟩ := bnd1_inv hr
  refine kX3_sortByDark (pc := 6) eσ1 tw_4_144 ⟨nle rfl, nle rfl⟩ (nle rfl) dX3_partedBy_6 fun hσ1 => ?_
  refine r_iconst (pc := 9) (v := (0 : Int32)) dX3_partedBy_9 rfl ?_
  refine r_istore_n (pc := 10) (ls1 := [(3, .int (0 : Int32)), (0, .ref (ad g 31)), (1, .ref (ad g a1)), (2, .int a2)]) dX3_partedBy_10 rfl (nle rfl) rfl ?_
  refine r_iconst (pc := 11) (v := (0 : Int32)) dX3_partedBy_11 rfl ?_
  refine r_istore (pc := 12) (ls1 := [(4, .int (0 : Int32)), (3, .int (0 : Int32)), (0, .ref (ad g 31)), (1, .ref (ad g a1)), (2, .int a2)]) dX3_partedBy_12 (nle rfl) rfl ?_
  refine r_iconst (pc := 14) (v := (0 : Int32)) dX3_partedBy_14 rfl ?_
  refine r_istore (pc := 15) (ls1 := [(5, .int (0 : Int32)), (4, .int (0 : Int32)), (3, .int (0 : Int32)), (0, .ref (ad g 31)), (1, .ref (ad g a1)), (2, .int a2)]) dX3_partedBy_15 (nle rfl) rfl ?_
  refine r_pick (ls1 := [(0, .ref (ad g 31)), (1, .ref (ad g a1)), (2, .int a2), (3, .int (0 : Int32)), (4, .int (0 : Int32)), (5, .int (0 : Int32))]) [3, 4, 5, 2, 1, 0] rfl ?_
  refine sX3_partedBy_L17 hs1 hσ1  (fun v8 v9 hr => ?_) fuel (0 : Int32) (0 : Int32) (0 : Int32) hr
  refine r_iload_n (pc := 100) (j := 2) dX3_partedBy_100 rfl rfl ?_
  refine r_if_ne (pc := 101) (tgt := 107) dX3_partedBy_101 rfl (fun hc => ?_) (fun hc => ?_)
  · replace hr := ite_f hc hr
    refine r_iload_n (pc := 107) (j := 2) dX3_partedBy_107 rfl rfl ?_
    refine r_iconst (pc := 108) (v := (1 : Int32)) dX3_partedBy_108 rfl ?_
    refine r_icmp_ne (pc := 109) (tgt := 116) dX3_partedBy_109 rfl (fun hc => ?_) (fun hc => ?_)
    · replace hr := ite_f hc hr
      refine r_aload_n (pc := 116) (j := 0) dX3_partedBy_116 rfl rfl ?_
      refine r_aload_n (pc := 117) (j := 1) dX3_partedBy_117 rfl rfl ?_
      refine r_iload_n (pc := 118) (j := 3) dX3_partedBy_118 rfl rfl ?_
      obtain ⟨v10, hv10, hr⟩ := bnd1_inv hr
      refine kX3_judgedElse (pc := 119) hv10 hs1 tw_4_195 ⟨nle rfl, nle rfl⟩ (nle rfl) dX3_partedBy_119 ?_
      exact l_osi hr (r_iret (pc := 122) (v := v10) rfl rfl ⟨Nat.le_refl _, Nat.le_refl _⟩ dX3_partedBy_122)
    replace hr := ite_t hc hr
    refine r_iload_n (pc := 112) (j := 3) dX3_partedBy_112 rfl rfl ?_
    refine r_goto (pc := 113) (tgt := 122) dX3_partedBy_113 rfl ?_
    exact l_osi hr (r_iret (pc := 122) (v := v8) rfl rfl ⟨Nat.le_refl _, Nat.le_refl _⟩ dX3_partedBy_122)
  replace hr := ite_t hc hr
  refine r_iload (pc := 104) (j := 4) dX3_partedBy_104 rfl ?_
  exact l_osi hr (r_iret (pc := 106) (v := v9) rfl rfl ⟨Nat.le_refl _, Nat.le_refl _⟩ dX3_partedBy_106)

theorem kX3_partedBy {g : GG} {σ : SS} {a1 : Nat} {a2 : Int32} {v : Int32} {σ2 : SS} {M : MM} {F : State → Array Value → List Frame → State → Prop} {pc index : Nat} {ls : List (Nat × Value)} {rest : List Value} (hf : fX3_partedBy σ a1 a2 = some (v, σ2)) (hs1 : shp a1 = (1, 0)) (hl : Cond.methodLink M.1.cls index yX3_partedBy ∈ lw_gt) (hR : mX3_partedBy.2.2.2.2.frames + 1 ≤ M.2.2.2.2.frames ∧ 8 + (mX3_partedBy.2.2.1 + 11) + mX3_partedBy.2.2.2.2.locals ≤ M.2.2.2.2.locals) (hrest : (rest.map fun v => v.category).sum ≤ 8) (hd : decode M.2.1 pc = .ok (.invokevirtual index, 3)) (k : WT σ2 → RR g M F zF (pc + 3) ls (.int v :: rest) σ2) : RR g M F zF pc ls (.int a2 :: .ref (ad g a1) :: .ref (ad g 31) :: rest) σ :=
  r_callV (N := mX3_partedBy) (nn := 2) (o1 := some (.int v)) (sX3_partedBy hf hs1) (rfl : shp 31 = (3, 0)) (by decide) (shp_le (rfl : shp 31 = (3, 0)) (nle rfl)) (ci := 3) rfl rfl tw_4_194 tw_1_5 hl tw_4_192 tw_4_193 ⟨by decide, by decide, rfl⟩ hR rfl hrest hd ⟨Nat.zero_le _, Nat.zero_le _⟩ rfl (fun h => k (h rfl))

theorem dX7_apart_0 : decode cX7_apart 0 = .ok (.aload_n 0, 1) := by decide +kernel
theorem dX7_apart_1 : decode cX7_apart 1 = .ok (.getfield 32, 3) := by decide +kernel
theorem dX7_apart_4 : decode cX7_apart 4 = .ok (.getfield 274, 3) := by decide +kernel
theorem dX7_apart_7 : decode cX7_apart 7 = .ok (.ifCond .eq 12, 3) := by decide +kernel
theorem dX7_apart_10 : decode cX7_apart 10 = .ok (.iload_n 1, 1) := by decide +kernel
theorem dX7_apart_11 : decode cX7_apart 11 = .ok (.ifCond .lt 8, 3) := by decide +kernel
theorem dX7_apart_14 : decode cX7_apart 14 = .ok (.iload_n 1, 1) := by decide +kernel
theorem dX7_apart_15 : decode cX7_apart 15 = .ok (.iconst 2, 1) := by decide +kernel
theorem dX7_apart_16 : decode cX7_apart 16 = .ok (.if_icmp .le 5, 3) := by decide +kernel
theorem dX7_apart_19 : decode cX7_apart 19 = .ok (.iconst (-1), 1) := by decide +kernel
theorem dX7_apart_20 : decode cX7_apart 20 = .ok (.ireturn, 1) := by decide +kernel
theorem dX7_apart_21 : decode cX7_apart 21 = .ok (.aload_n 0, 1) := by decide +kernel
theorem dX7_apart_22 : decode cX7_apart 22 = .ok (.getfield 62, 3) := by decide +kernel
theorem dX7_apart_25 : decode cX7_apart 25 = .ok (.aload_n 0, 1) := by decide +kernel
theorem dX7_apart_26 : decode cX7_apart 26 = .ok (.getfield 18, 3) := by decide +kernel
theorem dX7_apart_29 : decode cX7_apart 29 = .ok (.aload_n 0, 1) := by decide +kernel
theorem dX7_apart_30 : decode cX7_apart 30 = .ok (.getfield 32, 3) := by decide +kernel
theorem dX7_apart_33 : decode cX7_apart 33 = .ok (.invokevirtual 303, 3) := by decide +kernel
theorem dX7_apart_36 : decode cX7_apart 36 = .ok (.ifCond .ne 6, 3) := by decide +kernel
theorem dX7_apart_39 : decode cX7_apart 39 = .ok (.bipush (-2), 2) := by decide +kernel
theorem dX7_apart_41 : decode cX7_apart 41 = .ok (.ireturn, 1) := by decide +kernel
theorem dX7_apart_42 : decode cX7_apart 42 = .ok (.aload_n 0, 1) := by decide +kernel
theorem dX7_apart_43 : decode cX7_apart 43 = .ok (.getfield 62, 3) := by decide +kernel
theorem dX7_apart_46 : decode cX7_apart 46 = .ok (.aload_n 0, 1) := by decide +kernel
theorem dX7_apart_47 : decode cX7_apart 47 = .ok (.getfield 32, 3) := by decide +kernel
theorem dX7_apart_50 : decode cX7_apart 50 = .ok (.iload_n 1, 1) := by decide +kernel
theorem dX7_apart_51 : decode cX7_apart 51 = .ok (.invokevirtual 338, 3) := by decide +kernel
theorem dX7_apart_54 : decode cX7_apart 54 = .ok (.ireturn, 1) := by decide +kernel
def mX7_apart : MM := (yX7_apart, cX7_apart, 2, Option.some Jvm.ClassFile.FieldType.int, { frames := 6, cells := 0, slots := 0, locals := 148 })
def fX7_apart (σ : SS) (a1 : Int32) : Option (Int32 × SS) :=
  if (gI σ (gR σ 1 5) 0) = 0 then (
    some ((-1 : Int32), σ)
    ) else (
    if a1 < 0 then (
      some ((-1 : Int32), σ)
      ) else (
      if a1 ≤ (2 : Int32) then (
        bnd (fX3_read σ (gR σ 1 2) (gR σ 1 5)) fun b2 σ4 =>
        if b2 = true then (
          bnd (fX3_partedBy σ4 (gR σ4 1 5) a1) fun v5 σ8 =>
          some (v5, σ8)
          ) else (
          some ((-2 : Int32), σ4)
          )
        ) else (
        some ((-1 : Int32), σ)
        )
      )
    )

set_option maxRecDepth 20000 in
theorem sX7_apart {g : GG} {σ : SS} {a1 : Int32} {r : Int32 × SS} (hr : fX7_apart σ a1 = some r)  : Ct g mX7_apart [.ref (ad g 1), .int a1] NF σ (some (.int r.1)) NF r.2 := by
  refine Ct.of (by decide +kernel) (nle rfl) fun hw0 => ?_
  have hw := hw0 rfl
  unfold fX7_apart at hr
  change RR g mX7_apart (FinR g mX7_apart (some (.int r.1)) NF r.2) zF 0 [(0, .ref (ad g 1)), (1, .int a1)] [] σ
  refine r_aload_n (pc := 0) (j := 0) dX7_apart_0 rfl rfl ?_
  refine gf7_5 (pc := 1) tw_2_114 hw dX7_apart_1 ?_
  refine gf1_0 (pc := 4) tw_1_61 (wt_fo hw).1 dX7_apart_4 ?_
  refine r_if_eq (pc := 7) (tgt := 19) dX7_apart_7 rfl (fun hc => ?_) (fun hc => ?_)
  · replace hr := ite_t hc hr
    refine r_iconst (pc := 19) (v := (-1 : Int32)) dX7_apart_19 rfl ?_
    exact l_osi hr (r_iret (pc := 20) (v := (-1 : Int32)) rfl rfl ⟨Nat.le_refl _, Nat.le_refl _⟩ dX7_apart_20)
  replace hr := ite_f hc hr
  refine r_iload_n (pc := 10) (j := 1) dX7_apart_10 rfl rfl ?_
  refine r_if_lt (pc := 11) (tgt := 19) dX7_apart_11 rfl (fun hc => ?_) (fun hc => ?_)
  · replace hr := ite_t hc hr
    refine r_iconst (pc := 19) (v := (-1 : Int32)) dX7_apart_19 rfl ?_
    exact l_osi hr (r_iret (pc := 20) (v := (-1 : Int32)) rfl rfl ⟨Nat.le_refl _, Nat.le_refl _⟩ dX7_apart_20)
  replace hr := ite_f hc hr
  refine r_iload_n (pc := 14) (j := 1) dX7_apart_14 rfl rfl ?_
  refine r_iconst (pc := 15) (v := (2 : Int32)) dX7_apart_15 rfl ?_
  refine r_icmp_le (pc := 16) (tgt := 21) dX7_apart_16 rfl (fun hc => ?_) (fun hc => ?_)
  · replace hr := ite_t hc hr
    refine r_aload_n (pc := 21) (j := 0) dX7_apart_21 rfl rfl ?_
    refine gf7_12 (pc := 22) tw_2_121 hw dX7_apart_22 ?_
    refine r_aload_n (pc := 25) (j := 0) dX7_apart_25 rfl rfl ?_
    refine gf7_2 (pc := 26) tw_2_111 hw dX7_apart_26 ?_
    refine r_aload_n (pc := 29) (j := 0) dX7_apart_29 rfl rfl ?_
    refine gf7_5 (pc := 30) tw_2_114 hw dX7_apart_30 ?_
    obtain ⟨b2, σ4, eσ4, hr⟩ := bnd_inv hr
    refine kX3_read (pc := 33) eσ4 (wt_sc hw).1 (wt_fo hw).1 tw_4_135 ⟨nle rfl, nle rfl⟩ (nle rfl) dX7_apart_33 fun hσ4 => ?_
    refine r_ifB_ne (pc := 36) (tgt := 42) dX7_apart_36 rfl (fun hc => ?_) (fun hc => ?_)
    · replace hr := ite_t hc hr
      refine r_aload_n (pc := 42) (j := 0) dX7_apart_42 rfl rfl ?_
      refine gf7_12 (pc := 43) tw_2_121 hσ4 dX7_apart_43 ?_
      refine r_aload_n (pc := 46) (j := 0) dX7_apart_46 rfl rfl ?_
      refine gf7_5 (pc := 47) tw_2_114 hσ4 dX7_apart_47 ?_
      refine r_iload_n (pc := 50) (j := 1) dX7_apart_50 rfl rfl ?_
      obtain ⟨v5, σ8, eσ8, hr⟩ := bnd_inv hr
      refine kX3_partedBy (pc := 51) eσ8 (wt_fo hσ4).1 tw_4_191 ⟨nle rfl, nle rfl⟩ (nle rfl) dX7_apart_51 fun hσ8 => ?_
      exact l_osi hr (r_iret (pc := 54) (v := v5) rfl rfl ⟨Nat.le_refl _, Nat.le_refl _⟩ dX7_apart_54)
    replace hr := ite_f hc hr
    refine r_bipush (pc := 39) (v := (-2 : Int32)) dX7_apart_39 rfl ?_
    exact l_osi hr (r_iret (pc := 41) (v := (-2 : Int32)) rfl rfl ⟨Nat.le_refl _, Nat.le_refl _⟩ dX7_apart_41)
  replace hr := ite_f hc hr
  refine r_iconst (pc := 19) (v := (-1 : Int32)) dX7_apart_19 rfl ?_
  exact l_osi hr (r_iret (pc := 20) (v := (-1 : Int32)) rfl rfl ⟨Nat.le_refl _, Nat.le_refl _⟩ dX7_apart_20)

theorem kX7_apart {g : GG} {σ : SS} {a1 : Int32} {v : Int32} {σ2 : SS} {M : MM} {F : State → Array Value → List Frame → State → Prop} {pc index : Nat} {ls : List (Nat × Value)} {rest : List Value} (hf : fX7_apart σ a1 = some (v, σ2))  (hl : Cond.methodLink M.1.cls index yX7_apart ∈ lw_gt) (hR : mX7_apart.2.2.2.2.frames + 1 ≤ M.2.2.2.2.frames ∧ 8 + (mX7_apart.2.2.1 + 11) + mX7_apart.2.2.2.2.locals ≤ M.2.2.2.2.locals) (hrest : (rest.map fun v => v.category).sum ≤ 8) (hd : decode M.2.1 pc = .ok (.invokevirtual index, 3)) (k : WT σ2 → RR g M F zF (pc + 3) ls (.int v :: rest) σ2) : RR g M F zF pc ls (.int a1 :: .ref (ad g 1) :: rest) σ :=
  r_callV (N := mX7_apart) (nn := 1) (o1 := some (.int v)) (sX7_apart hf ) (rfl : shp 1 = (7, 0)) (by decide) (shp_le (rfl : shp 1 = (7, 0)) (nle rfl)) (ci := 7) rfl rfl tw_4_190 tw_1_1 hl tw_4_188 tw_4_189 ⟨by decide, by decide, rfl⟩ hR rfl hrest hd ⟨Nat.zero_le _, Nat.zero_le _⟩ rfl (fun h => k (h rfl))

theorem dX8_apart_0 : decode cX8_apart 0 = .ok (.aload_n 0, 1) := by decide +kernel
theorem dX8_apart_1 : decode cX8_apart 1 = .ok (.getfield 202, 3) := by decide +kernel
theorem dX8_apart_4 : decode cX8_apart 4 = .ok (.ifCond .eq 12, 3) := by decide +kernel
theorem dX8_apart_7 : decode cX8_apart 7 = .ok (.iload_n 1, 1) := by decide +kernel
theorem dX8_apart_8 : decode cX8_apart 8 = .ok (.iconst 0, 1) := by decide +kernel
theorem dX8_apart_9 : decode cX8_apart 9 = .ok (.iconst 2, 1) := by decide +kernel
theorem dX8_apart_10 : decode cX8_apart 10 = .ok (.invokestatic 165, 3) := by decide +kernel
theorem dX8_apart_13 : decode cX8_apart 13 = .ok (.ifCond .ne 5, 3) := by decide +kernel
theorem dX8_apart_16 : decode cX8_apart 16 = .ok (.iconst (-1), 1) := by decide +kernel
theorem dX8_apart_17 : decode cX8_apart 17 = .ok (.ireturn, 1) := by decide +kernel
theorem dX8_apart_18 : decode cX8_apart 18 = .ok (.aload_n 0, 1) := by decide +kernel
theorem dX8_apart_19 : decode cX8_apart 19 = .ok (.invokevirtual 373, 3) := by decide +kernel
theorem dX8_apart_22 : decode cX8_apart 22 = .ok (.ifCond .ne 6, 3) := by decide +kernel
theorem dX8_apart_25 : decode cX8_apart 25 = .ok (.bipush (-2), 2) := by decide +kernel
theorem dX8_apart_27 : decode cX8_apart 27 = .ok (.ireturn, 1) := by decide +kernel
theorem dX8_apart_28 : decode cX8_apart 28 = .ok (.iconst 0, 1) := by decide +kernel
theorem dX8_apart_29 : decode cX8_apart 29 = .ok (.istore_n 2, 1) := by decide +kernel
theorem dX8_apart_30 : decode cX8_apart 30 = .ok (.iconst 0, 1) := by decide +kernel
theorem dX8_apart_31 : decode cX8_apart 31 = .ok (.istore_n 3, 1) := by decide +kernel
theorem dX8_apart_32 : decode cX8_apart 32 = .ok (.iload_n 3, 1) := by decide +kernel
theorem dX8_apart_33 : decode cX8_apart 33 = .ok (.aload_n 0, 1) := by decide +kernel
theorem dX8_apart_34 : decode cX8_apart 34 = .ok (.invokevirtual 266, 3) := by decide +kernel
theorem dX8_apart_37 : decode cX8_apart 37 = .ok (.if_icmp .ge 108, 3) := by decide +kernel
theorem dX8_apart_40 : decode cX8_apart 40 = .ok (.iconst 0, 1) := by decide +kernel
theorem dX8_apart_41 : decode cX8_apart 41 = .ok (.istore 4, 2) := by decide +kernel
theorem dX8_apart_43 : decode cX8_apart 43 = .ok (.iload 4, 2) := by decide +kernel
theorem dX8_apart_45 : decode cX8_apart 45 = .ok (.aload_n 0, 1) := by decide +kernel
theorem dX8_apart_46 : decode cX8_apart 46 = .ok (.iload_n 3, 1) := by decide +kernel
theorem dX8_apart_47 : decode cX8_apart 47 = .ok (.invokevirtual 272, 3) := by decide +kernel
theorem dX8_apart_50 : decode cX8_apart 50 = .ok (.if_icmp .ge 89, 3) := by decide +kernel
theorem dX8_apart_53 : decode cX8_apart 53 = .ok (.iload_n 2, 1) := by decide +kernel
theorem dX8_apart_54 : decode cX8_apart 54 = .ok (.istore 5, 2) := by decide +kernel
theorem dX8_apart_56 : decode cX8_apart 56 = .ok (.iload 5, 2) := by decide +kernel
theorem dX8_apart_58 : decode cX8_apart 58 = .ok (.ifCond .le 57, 3) := by decide +kernel
theorem dX8_apart_61 : decode cX8_apart 61 = .ok (.aload_n 0, 1) := by decide +kernel
theorem dX8_apart_62 : decode cX8_apart 62 = .ok (.getfield 108, 3) := by decide +kernel
theorem dX8_apart_65 : decode cX8_apart 65 = .ok (.aload_n 0, 1) := by decide +kernel
theorem dX8_apart_66 : decode cX8_apart 66 = .ok (.getfield 114, 3) := by decide +kernel
theorem dX8_apart_69 : decode cX8_apart 69 = .ok (.iload 5, 2) := by decide +kernel
theorem dX8_apart_71 : decode cX8_apart 71 = .ok (.iconst 1, 1) := by decide +kernel
theorem dX8_apart_72 : decode cX8_apart 72 = .ok (.isub, 1) := by decide +kernel
theorem dX8_apart_73 : decode cX8_apart 73 = .ok (.iaload, 1) := by decide +kernel
theorem dX8_apart_74 : decode cX8_apart 74 = .ok (.iaload, 1) := by decide +kernel
theorem dX8_apart_75 : decode cX8_apart 75 = .ok (.aload_n 0, 1) := by decide +kernel
theorem dX8_apart_76 : decode cX8_apart 76 = .ok (.getfield 108, 3) := by decide +kernel
theorem dX8_apart_79 : decode cX8_apart 79 = .ok (.bipush 6, 2) := by decide +kernel
theorem dX8_apart_81 : decode cX8_apart 81 = .ok (.iload_n 3, 1) := by decide +kernel
theorem dX8_apart_82 : decode cX8_apart 82 = .ok (.imul, 1) := by decide +kernel
theorem dX8_apart_83 : decode cX8_apart 83 = .ok (.iload 4, 2) := by decide +kernel
theorem dX8_apart_85 : decode cX8_apart 85 = .ok (.iadd, 1) := by decide +kernel
theorem dX8_apart_86 : decode cX8_apart 86 = .ok (.iaload, 1) := by decide +kernel
theorem dX8_apart_87 : decode cX8_apart 87 = .ok (.if_icmp .ge 28, 3) := by decide +kernel
theorem dX8_apart_90 : decode cX8_apart 90 = .ok (.aload_n 0, 1) := by decide +kernel
theorem dX8_apart_91 : decode cX8_apart 91 = .ok (.getfield 114, 3) := by decide +kernel
theorem dX8_apart_94 : decode cX8_apart 94 = .ok (.iload 5, 2) := by decide +kernel
theorem dX8_apart_96 : decode cX8_apart 96 = .ok (.aload_n 0, 1) := by decide +kernel
theorem dX8_apart_97 : decode cX8_apart 97 = .ok (.getfield 114, 3) := by decide +kernel
theorem dX8_apart_100 : decode cX8_apart 100 = .ok (.iload 5, 2) := by decide +kernel
theorem dX8_apart_102 : decode cX8_apart 102 = .ok (.iconst 1, 1) := by decide +kernel
theorem dX8_apart_103 : decode cX8_apart 103 = .ok (.isub, 1) := by decide +kernel
theorem dX8_apart_104 : decode cX8_apart 104 = .ok (.iaload, 1) := by decide +kernel
theorem dX8_apart_105 : decode cX8_apart 105 = .ok (.iastore, 1) := by decide +kernel
theorem dX8_apart_106 : decode cX8_apart 106 = .ok (.iload 5, 2) := by decide +kernel
theorem dX8_apart_108 : decode cX8_apart 108 = .ok (.iconst 1, 1) := by decide +kernel
theorem dX8_apart_109 : decode cX8_apart 109 = .ok (.isub, 1) := by decide +kernel
theorem dX8_apart_110 : decode cX8_apart 110 = .ok (.istore 5, 2) := by decide +kernel
theorem dX8_apart_112 : decode cX8_apart 112 = .ok (.goto (-56), 3) := by decide +kernel
theorem dX8_apart_115 : decode cX8_apart 115 = .ok (.aload_n 0, 1) := by decide +kernel
theorem dX8_apart_116 : decode cX8_apart 116 = .ok (.getfield 114, 3) := by decide +kernel
theorem dX8_apart_119 : decode cX8_apart 119 = .ok (.iload 5, 2) := by decide +kernel
theorem dX8_apart_121 : decode cX8_apart 121 = .ok (.bipush 6, 2) := by decide +kernel
theorem dX8_apart_123 : decode cX8_apart 123 = .ok (.iload_n 3, 1) := by decide +kernel
theorem dX8_apart_124 : decode cX8_apart 124 = .ok (.imul, 1) := by decide +kernel
theorem dX8_apart_125 : decode cX8_apart 125 = .ok (.iload 4, 2) := by decide +kernel
theorem dX8_apart_127 : decode cX8_apart 127 = .ok (.iadd, 1) := by decide +kernel
theorem dX8_apart_128 : decode cX8_apart 128 = .ok (.iastore, 1) := by decide +kernel
theorem dX8_apart_129 : decode cX8_apart 129 = .ok (.iload_n 2, 1) := by decide +kernel
theorem dX8_apart_130 : decode cX8_apart 130 = .ok (.iconst 1, 1) := by decide +kernel
theorem dX8_apart_131 : decode cX8_apart 131 = .ok (.iadd, 1) := by decide +kernel
theorem dX8_apart_132 : decode cX8_apart 132 = .ok (.istore_n 2, 1) := by decide +kernel
theorem dX8_apart_133 : decode cX8_apart 133 = .ok (.iinc 4 1, 3) := by decide +kernel
theorem dX8_apart_136 : decode cX8_apart 136 = .ok (.goto (-93), 3) := by decide +kernel
theorem dX8_apart_139 : decode cX8_apart 139 = .ok (.iinc 3 1, 3) := by decide +kernel
theorem dX8_apart_142 : decode cX8_apart 142 = .ok (.goto (-110), 3) := by decide +kernel
theorem dX8_apart_145 : decode cX8_apart 145 = .ok (.iconst 0, 1) := by decide +kernel
theorem dX8_apart_146 : decode cX8_apart 146 = .ok (.istore_n 3, 1) := by decide +kernel
theorem dX8_apart_147 : decode cX8_apart 147 = .ok (.iconst 0, 1) := by decide +kernel
theorem dX8_apart_148 : decode cX8_apart 148 = .ok (.istore 4, 2) := by decide +kernel
theorem dX8_apart_150 : decode cX8_apart 150 = .ok (.iconst 0, 1) := by decide +kernel
theorem dX8_apart_151 : decode cX8_apart 151 = .ok (.istore 5, 2) := by decide +kernel
theorem dX8_apart_153 : decode cX8_apart 153 = .ok (.iload 5, 2) := by decide +kernel
theorem dX8_apart_155 : decode cX8_apart 155 = .ok (.iconst 1, 1) := by decide +kernel
theorem dX8_apart_156 : decode cX8_apart 156 = .ok (.iadd, 1) := by decide +kernel
theorem dX8_apart_157 : decode cX8_apart 157 = .ok (.iload_n 2, 1) := by decide +kernel
theorem dX8_apart_158 : decode cX8_apart 158 = .ok (.if_icmp .ge 56, 3) := by decide +kernel
theorem dX8_apart_161 : decode cX8_apart 161 = .ok (.aload_n 0, 1) := by decide +kernel
theorem dX8_apart_162 : decode cX8_apart 162 = .ok (.getfield 108, 3) := by decide +kernel
theorem dX8_apart_165 : decode cX8_apart 165 = .ok (.aload_n 0, 1) := by decide +kernel
theorem dX8_apart_166 : decode cX8_apart 166 = .ok (.getfield 114, 3) := by decide +kernel
theorem dX8_apart_169 : decode cX8_apart 169 = .ok (.iload 5, 2) := by decide +kernel
theorem dX8_apart_171 : decode cX8_apart 171 = .ok (.iaload, 1) := by decide +kernel
theorem dX8_apart_172 : decode cX8_apart 172 = .ok (.iaload, 1) := by decide +kernel
theorem dX8_apart_173 : decode cX8_apart 173 = .ok (.aload_n 0, 1) := by decide +kernel
theorem dX8_apart_174 : decode cX8_apart 174 = .ok (.getfield 108, 3) := by decide +kernel
theorem dX8_apart_177 : decode cX8_apart 177 = .ok (.aload_n 0, 1) := by decide +kernel
theorem dX8_apart_178 : decode cX8_apart 178 = .ok (.getfield 114, 3) := by decide +kernel
theorem dX8_apart_181 : decode cX8_apart 181 = .ok (.iload 5, 2) := by decide +kernel
theorem dX8_apart_183 : decode cX8_apart 183 = .ok (.iconst 1, 1) := by decide +kernel
theorem dX8_apart_184 : decode cX8_apart 184 = .ok (.iadd, 1) := by decide +kernel
theorem dX8_apart_185 : decode cX8_apart 185 = .ok (.iaload, 1) := by decide +kernel
theorem dX8_apart_186 : decode cX8_apart 186 = .ok (.iaload, 1) := by decide +kernel
theorem dX8_apart_187 : decode cX8_apart 187 = .ok (.isub, 1) := by decide +kernel
theorem dX8_apart_188 : decode cX8_apart 188 = .ok (.istore 6, 2) := by decide +kernel
theorem dX8_apart_190 : decode cX8_apart 190 = .ok (.iload 6, 2) := by decide +kernel
theorem dX8_apart_192 : decode cX8_apart 192 = .ok (.iload_n 3, 1) := by decide +kernel
theorem dX8_apart_193 : decode cX8_apart 193 = .ok (.if_icmp .gt 6, 3) := by decide +kernel
theorem dX8_apart_196 : decode cX8_apart 196 = .ok (.goto 12, 3) := by decide +kernel
theorem dX8_apart_199 : decode cX8_apart 199 = .ok (.iload 6, 2) := by decide +kernel
theorem dX8_apart_201 : decode cX8_apart 201 = .ok (.istore_n 3, 1) := by decide +kernel
theorem dX8_apart_202 : decode cX8_apart 202 = .ok (.iload 5, 2) := by decide +kernel
theorem dX8_apart_204 : decode cX8_apart 204 = .ok (.iconst 1, 1) := by decide +kernel
theorem dX8_apart_205 : decode cX8_apart 205 = .ok (.iadd, 1) := by decide +kernel
theorem dX8_apart_206 : decode cX8_apart 206 = .ok (.istore 4, 2) := by decide +kernel
theorem dX8_apart_208 : decode cX8_apart 208 = .ok (.iinc 5 1, 3) := by decide +kernel
theorem dX8_apart_211 : decode cX8_apart 211 = .ok (.goto (-58), 3) := by decide +kernel
theorem dX8_apart_214 : decode cX8_apart 214 = .ok (.iload_n 1, 1) := by decide +kernel
theorem dX8_apart_215 : decode cX8_apart 215 = .ok (.iconst 2, 1) := by decide +kernel
theorem dX8_apart_216 : decode cX8_apart 216 = .ok (.if_icmp .ge 14, 3) := by decide +kernel
theorem dX8_apart_219 : decode cX8_apart 219 = .ok (.iload_n 1, 1) := by decide +kernel
theorem dX8_apart_220 : decode cX8_apart 220 = .ok (.ifCond .ne 7, 3) := by decide +kernel
theorem dX8_apart_223 : decode cX8_apart 223 = .ok (.iload_n 3, 1) := by decide +kernel
theorem dX8_apart_224 : decode cX8_apart 224 = .ok (.goto 5, 3) := by decide +kernel
theorem dX8_apart_227 : decode cX8_apart 227 = .ok (.iload 4, 2) := by decide +kernel
theorem dX8_apart_229 : decode cX8_apart 229 = .ok (.ireturn, 1) := by decide +kernel
theorem dX8_apart_230 : decode cX8_apart 230 = .ok (.iconst 0, 1) := by decide +kernel
theorem dX8_apart_231 : decode cX8_apart 231 = .ok (.istore 5, 2) := by decide +kernel
theorem dX8_apart_233 : decode cX8_apart 233 = .ok (.iconst 0, 1) := by decide +kernel
theorem dX8_apart_234 : decode cX8_apart 234 = .ok (.istore 6, 2) := by decide +kernel
theorem dX8_apart_236 : decode cX8_apart 236 = .ok (.iload 6, 2) := by decide +kernel
theorem dX8_apart_238 : decode cX8_apart 238 = .ok (.iload_n 2, 1) := by decide +kernel
theorem dX8_apart_239 : decode cX8_apart 239 = .ok (.if_icmp .ge 71, 3) := by decide +kernel
theorem dX8_apart_242 : decode cX8_apart 242 = .ok (.aload_n 0, 1) := by decide +kernel
theorem dX8_apart_243 : decode cX8_apart 243 = .ok (.aload_n 0, 1) := by decide +kernel
theorem dX8_apart_244 : decode cX8_apart 244 = .ok (.getfield 114, 3) := by decide +kernel
theorem dX8_apart_247 : decode cX8_apart 247 = .ok (.iload 6, 2) := by decide +kernel
theorem dX8_apart_249 : decode cX8_apart 249 = .ok (.iaload, 1) := by decide +kernel
theorem dX8_apart_250 : decode cX8_apart 250 = .ok (.bipush 6, 2) := by decide +kernel
theorem dX8_apart_252 : decode cX8_apart 252 = .ok (.idiv, 1) := by decide +kernel
theorem dX8_apart_253 : decode cX8_apart 253 = .ok (.aload_n 0, 1) := by decide +kernel
theorem dX8_apart_254 : decode cX8_apart 254 = .ok (.getfield 53, 3) := by decide +kernel
theorem dX8_apart_257 : decode cX8_apart 257 = .ok (.iconst 3, 1) := by decide +kernel
theorem dX8_apart_258 : decode cX8_apart 258 = .ok (.iaload, 1) := by decide +kernel
theorem dX8_apart_259 : decode cX8_apart 259 = .ok (.invokevirtual 401, 3) := by decide +kernel
theorem dX8_apart_262 : decode cX8_apart 262 = .ok (.iload 5, 2) := by decide +kernel
theorem dX8_apart_264 : decode cX8_apart 264 = .ok (.aload_n 0, 1) := by decide +kernel
theorem dX8_apart_265 : decode cX8_apart 265 = .ok (.getfield 385, 3) := by decide +kernel
theorem dX8_apart_268 : decode cX8_apart 268 = .ok (.aload_n 0, 1) := by decide +kernel
theorem dX8_apart_269 : decode cX8_apart 269 = .ok (.getfield 114, 3) := by decide +kernel
theorem dX8_apart_272 : decode cX8_apart 272 = .ok (.iload 6, 2) := by decide +kernel
theorem dX8_apart_274 : decode cX8_apart 274 = .ok (.iaload, 1) := by decide +kernel
theorem dX8_apart_275 : decode cX8_apart 275 = .ok (.bipush 6, 2) := by decide +kernel
theorem dX8_apart_277 : decode cX8_apart 277 = .ok (.irem, 1) := by decide +kernel
theorem dX8_apart_278 : decode cX8_apart 278 = .ok (.invokestatic 228, 3) := by decide +kernel
theorem dX8_apart_281 : decode cX8_apart 281 = .ok (.iload 6, 2) := by decide +kernel
theorem dX8_apart_283 : decode cX8_apart 283 = .ok (.iload 4, 2) := by decide +kernel
theorem dX8_apart_285 : decode cX8_apart 285 = .ok (.if_icmp .ge 7, 3) := by decide +kernel
theorem dX8_apart_288 : decode cX8_apart 288 = .ok (.iconst 1, 1) := by decide +kernel
theorem dX8_apart_289 : decode cX8_apart 289 = .ok (.goto 4, 3) := by decide +kernel
theorem dX8_apart_292 : decode cX8_apart 292 = .ok (.iconst 0, 1) := by decide +kernel
theorem dX8_apart_293 : decode cX8_apart 293 = .ok (.if_icmp .ne 7, 3) := by decide +kernel
theorem dX8_apart_296 : decode cX8_apart 296 = .ok (.iconst 0, 1) := by decide +kernel
theorem dX8_apart_297 : decode cX8_apart 297 = .ok (.goto 4, 3) := by decide +kernel
theorem dX8_apart_300 : decode cX8_apart 300 = .ok (.iconst 1, 1) := by decide +kernel
theorem dX8_apart_301 : decode cX8_apart 301 = .ok (.iadd, 1) := by decide +kernel
theorem dX8_apart_302 : decode cX8_apart 302 = .ok (.istore 5, 2) := by decide +kernel
theorem dX8_apart_304 : decode cX8_apart 304 = .ok (.iinc 6 1, 3) := by decide +kernel
theorem dX8_apart_307 : decode cX8_apart 307 = .ok (.goto (-71), 3) := by decide +kernel
theorem dX8_apart_310 : decode cX8_apart 310 = .ok (.iload 5, 2) := by decide +kernel
theorem dX8_apart_312 : decode cX8_apart 312 = .ok (.ireturn, 1) := by decide +kernel
def mX8_apart : MM := (yX8_apart, cX8_apart, 7, Option.some Jvm.ClassFile.FieldType.int, { frames := 7, cells := 0, slots := 0, locals := 158 })
def X8_apart_L56 (u3_ : Int32) (u4_ : Int32) (k115 : Int32 → SS → Option (Int32 × SS)) : Nat → Int32 → SS → Option (Int32 × SS) :=
  lp (fun _ _ => none) fun rec v5_ σ_ =>
    if v5_ ≤ 0 then (
      k115 v5_ σ_
      ) else (
      grd (inb (v5_ - (1 : Int32)) 72) <|
      grd (inb (gI σ_ 108 (Int32.toNatClampNeg (v5_ - (1 : Int32)))) 72) <|
      grd (inb (((6 : Int32) * u3_) + u4_) 72) <|
      if (gI σ_ 106 (Int32.toNatClampNeg (((6 : Int32) * u3_) + u4_))) ≤ (gI σ_ 106 (Int32.toNatClampNeg (gI σ_ 108 (Int32.toNatClampNeg (v5_ - (1 : Int32)))))) then (
        k115 v5_ σ_
        ) else (
        grd (inb v5_ 72) <|
        vthen (sI σ_ 108 (Int32.toNatClampNeg v5_) (gI σ_ 108 (Int32.toNatClampNeg (v5_ - (1 : Int32))))) fun σ15 =>
        vthen (v5_ - (1 : Int32)) fun v16 =>
        rec v16 σ15
        )
      )

def X8_apart_L43 (u3_ : Int32) (k139 : Int32 → SS → Option (Int32 × SS)) : Nat → Int32 → Int32 → SS → Option (Int32 × SS) :=
  lp (fun _ _ _ => none) fun rec v2_ v4_ σ_ =>
    bnd1 (fX8_boxesOf σ_ u3_) fun v8 =>
    if v8 ≤ v4_ then (
      k139 v2_ σ_
      ) else (
      X8_apart_L56 u3_ v4_
      (fun v17 σ18 =>
        grd (inb v17 72) <|
        vthen (sI σ18 108 (Int32.toNatClampNeg v17) (((6 : Int32) * u3_) + v4_)) fun σ20 =>
        vthen (v2_ + (1 : Int32)) fun v21 =>
        rec v21 (v4_ + (1 : Int32)) σ20
        )
      fuel v2_ σ_
      )

def X8_apart_L32  (k145 : Int32 → SS → Option (Int32 × SS)) : Nat → Int32 → Int32 → SS → Option (Int32 × SS) :=
  lp (fun _ _ _ => none) fun rec v2_ v3_ σ_ =>
    bnd1 (fX8_questions σ_) fun v5 =>
    if v5 ≤ v3_ then (
      k145 v2_ σ_
      ) else (
      X8_apart_L43 v3_
      (fun v22 σ23 =>
        rec v22 (v3_ + (1 : Int32)) σ23
        )
      fuel v2_ (0 : Int32) σ_
      )

def X8_apart_L153 (σ_ : SS) (u2_ : Int32) (k214 : Int32 → Int32 → Option (Int32 × SS)) : Nat → Int32 → Int32 → Int32 → Option (Int32 × SS) :=
  lp (fun _ _ _ => none) fun rec v3_ v4_ v5_ =>
    if u2_ ≤ (v5_ + (1 : Int32)) then (
      k214 v3_ v4_
      ) else (
      grd (inb v5_ 72) <|
      grd (inb (gI σ_ 108 (Int32.toNatClampNeg v5_)) 72) <|
      grd (inb (v5_ + (1 : Int32)) 72) <|
      grd (inb (gI σ_ 108 (Int32.toNatClampNeg (v5_ + (1 : Int32)))) 72) <|
      vthen ((gI σ_ 106 (Int32.toNatClampNeg (gI σ_ 108 (Int32.toNatClampNeg v5_)))) - (gI σ_ 106 (Int32.toNatClampNeg (gI σ_ 108 (Int32.toNatClampNeg (v5_ + (1 : Int32))))))) fun v30 =>
      if v3_ < v30 then (
        vthen (v5_ + (1 : Int32)) fun v31 =>
        rec v30 v31 (v5_ + (1 : Int32))
        ) else (
        rec v3_ v4_ (v5_ + (1 : Int32))
        )
      )

def X8_apart_L236 (u2_ : Int32) (u4_ : Int32)  : Nat → Int32 → Int32 → SS → Option (Int32 × SS) :=
  lp (fun _ _ _ => none) fun rec v5_ v6_ σ_ =>
    if u2_ ≤ v6_ then (
      some (v5_, σ_)
      ) else (
      grd (inb v6_ 72) <|
      bnd1 (fX8_judges σ_ ((gI σ_ 108 (Int32.toNatClampNeg v6_)) / (6 : Int32)) (gI σ_ 88 3)) fun σ35 =>
      vthen (fun (s36 : Int32) =>
        if (b2i (fX8_has σ35 (gI σ35 73 55) (irm (gI σ35 108 (Int32.toNatClampNeg v6_)) (6 : Int32)))) = s36 then (
          vthen (v5_ + (0 : Int32)) fun v38 =>
          rec v38 (v6_ + (1 : Int32)) σ35
          ) else (
          vthen (v5_ + (1 : Int32)) fun v37 =>
          rec v37 (v6_ + (1 : Int32)) σ35
          )
        ) fun j293 =>
      if u4_ ≤ v6_ then (
        j293 (0 : Int32)
        ) else (
        j293 (1 : Int32)
        )
      )

def fX8_apart (σ : SS) (a1 : Int32) : Option (Int32 × SS) :=
  if (gI σ 73 12) = 0 then (
    some ((-1 : Int32), σ)
    ) else (
    if (fX8_in σ a1 (0 : Int32) (2 : Int32)) = true then (
      bnd (fX8_finds σ) fun b2 σ4 =>
      if b2 = true then (
        X8_apart_L32
        (fun v24 σ25 =>
          X8_apart_L153 σ25 v24
          (fun v32 v33 =>
            if (2 : Int32) ≤ a1 then (
              X8_apart_L236 v24 v33
              fuel (0 : Int32) (0 : Int32) σ25
              ) else (
              if a1 = 0 then (
                some (v32, σ25)
                ) else (
                some (v33, σ25)
                )
              )
            )
          fuel (0 : Int32) (0 : Int32) (0 : Int32)
          )
        fuel (0 : Int32) (0 : Int32) σ4
        ) else (
        some ((-2 : Int32), σ4)
        )
      ) else (
      some ((-1 : Int32), σ)
      )
    )

set_option maxRecDepth 20000 in
theorem sX8_apart_L56 {g : GG} {r : Int32 × SS} {x1_ : Int32} {x2_ : Int32} {u3_ : Int32} {u4_ : Int32} {k115 : Int32 → SS → Option (Int32 × SS)} 
    (hk115 : ∀ (y5 : Int32) (σ_ : SS), k115 y5 σ_ = some r → WT σ_ → RR g mX8_apart (FinR g mX8_apart (some (.int r.1)) NF r.2) zF 115 [(0, .ref (ad g 73)), (1, .int x1_), (2, .int x2_), (3, .int u3_), (4, .int u4_), (5, .int y5)] [] σ_)
    (n : Nat) : ∀ (v5_ : Int32) (σ_ : SS), X8_apart_L56 u3_ u4_ k115 n v5_ σ_ = some r → WT σ_ → RR g mX8_apart (FinR g mX8_apart (some (.int r.1)) NF r.2) zF 56 [(0, .ref (ad g 73)), (1, .int x1_), (2, .int x2_), (3, .int u3_), (4, .int u4_), (5, .int v5_)] [] σ_ := by
  unfold X8_apart_L56
  refine lp_ind (P := fun (rec : Int32 → SS → Option (Int32 × SS)) => ∀ (v5_ : Int32) (σ_ : SS), rec v5_ σ_ = some r → WT σ_ → RR g mX8_apart (FinR g mX8_apart (some (.int r.1)) NF r.2) zF 56 [(0, .ref (ad g 73)), (1, .int x1_), (2, .int x2_), (3, .int u3_), (4, .int u4_), (5, .int v5_)] [] σ_) ?_ ?_ n
  · intro v5_ σ_ hr; cases hr
  intro rec ih v5_ σ_ hr hw_
  refine r_iload (pc := 56) (j := 5) dX8_apart_56 rfl ?_
  refine r_if_le (pc := 58) (tgt := 115) dX8_apart_58 rfl (fun hc => ?_) (fun hc => ?_)
  · replace hr := ite_t hc hr
    exact r_pick (ls1 := [(0, .ref (ad g 73)), (1, .int x1_), (2, .int x2_), (3, .int u3_), (4, .int u4_), (5, .int v5_)]) [0, 1, 2, 3, 4, 5] rfl (hk115 v5_ σ_ hr hw_)
  replace hr := ite_f hc hr
  refine r_aload_n (pc := 61) (j := 0) dX8_apart_61 rfl rfl ?_
  refine gf8_52 (pc := 62) tw_5_146 hw_ dX8_apart_62 ?_
  refine r_aload_n (pc := 65) (j := 0) dX8_apart_65 rfl rfl ?_
  refine gf8_59 (pc := 66) tw_5_153 hw_ dX8_apart_66 ?_
  refine r_iload (pc := 69) (j := 5) dX8_apart_69 rfl ?_
  refine r_iconst (pc := 71) (v := (1 : Int32)) dX8_apart_71 rfl ?_
  refine r_isub (pc := 72) dX8_apart_72 ?_
  obtain ⟨h11, hr⟩ := grd_inv hr
  refine x_iald (pc := 73) (k := (Int32.toNatClampNeg (v5_ - (1 : Int32)))) rfl h11 rfl dX8_apart_73 ?_
  obtain ⟨h12, hr⟩ := grd_inv hr
  refine x_iald (pc := 74) (k := (Int32.toNatClampNeg (gI σ_ 108 (Int32.toNatClampNeg (v5_ - (1 : Int32)))))) rfl h12 rfl dX8_apart_74 ?_
  refine r_aload_n (pc := 75) (j := 0) dX8_apart_75 rfl rfl ?_
  refine gf8_52 (pc := 76) tw_5_146 hw_ dX8_apart_76 ?_
  refine r_bipush (pc := 79) (v := (6 : Int32)) dX8_apart_79 rfl ?_
  refine r_iload_n (pc := 81) (j := 3) dX8_apart_81 rfl rfl ?_
  refine r_imul (pc := 82) dX8_apart_82 ?_
  refine r_iload (pc := 83) (j := 4) dX8_apart_83 rfl ?_
  refine r_iadd (pc := 85) dX8_apart_85 ?_
  obtain ⟨h13, hr⟩ := grd_inv hr
  refine x_iald (pc := 86) (k := (Int32.toNatClampNeg (((6 : Int32) * u3_) + u4_))) rfl h13 rfl dX8_apart_86 ?_
  refine r_icmp_ge (pc := 87) (tgt := 115) dX8_apart_87 rfl (fun hc => ?_) (fun hc => ?_)
  · replace hr := ite_t hc hr
    exact r_pick (ls1 := [(0, .ref (ad g 73)), (1, .int x1_), (2, .int x2_), (3, .int u3_), (4, .int u4_), (5, .int v5_)]) [0, 1, 2, 3, 4, 5] rfl (hk115 v5_ σ_ hr hw_)
  replace hr := ite_f hc hr
  refine r_aload_n (pc := 90) (j := 0) dX8_apart_90 rfl rfl ?_
  refine gf8_59 (pc := 91) tw_5_153 hw_ dX8_apart_91 ?_
  refine r_iload (pc := 94) (j := 5) dX8_apart_94 rfl ?_
  refine r_aload_n (pc := 96) (j := 0) dX8_apart_96 rfl rfl ?_
  refine gf8_59 (pc := 97) tw_5_153 hw_ dX8_apart_97 ?_
  refine r_iload (pc := 100) (j := 5) dX8_apart_100 rfl ?_
  refine r_iconst (pc := 102) (v := (1 : Int32)) dX8_apart_102 rfl ?_
  refine r_isub (pc := 103) dX8_apart_103 ?_
  refine x_iald (pc := 104) (k := (Int32.toNatClampNeg (v5_ - (1 : Int32)))) rfl h11 rfl dX8_apart_104 ?_
  obtain ⟨h14, hr⟩ := grd_inv hr
  refine x_iast (pc := 105) (j := (Int32.toNatClampNeg v5_)) rfl h14 rfl dX8_apart_105 fun σ15 eσ15 => ?_
  replace hr := vthen_inv hr σ15 eσ15
  have hσ15 := wtI eσ15 hw_
  refine r_iload (pc := 106) (j := 5) dX8_apart_106 rfl ?_
  refine r_iconst (pc := 108) (v := (1 : Int32)) dX8_apart_108 rfl ?_
  refine r_isub (pc := 109) dX8_apart_109 ?_
  refine r_topi fun v16 ev16 => ?_
  replace hr := vthen_inv hr v16 ev16
  refine r_istore (pc := 110) (ls1 := [(5, .int v16), (0, .ref (ad g 73)), (1, .int x1_), (2, .int x2_), (3, .int u3_), (4, .int u4_)]) dX8_apart_110 (nle rfl) rfl ?_
  refine r_goto (pc := 112) (tgt := 56) dX8_apart_112 rfl ?_
  exact r_pick (ls1 := [(0, .ref (ad g 73)), (1, .int x1_), (2, .int x2_), (3, .int u3_), (4, .int u4_), (5, .int v16)]) [1, 2, 3, 4, 5, 0] rfl (ih v16 σ15 hr hσ15)

set_option maxRecDepth 20000 in
theorem sX8_apart_L43 {g : GG} {r : Int32 × SS} {x1_ : Int32} {u3_ : Int32} {k139 : Int32 → SS → Option (Int32 × SS)} 
    (hk139 : ∀ (y2 : Int32) (σ_ : SS), k139 y2 σ_ = some r → WT σ_ → RR g mX8_apart (FinR g mX8_apart (some (.int r.1)) NF r.2) zF 139 [(0, .ref (ad g 73)), (1, .int x1_), (2, .int y2), (3, .int u3_)] [] σ_)
    (n : Nat) : ∀ (v2_ : Int32) (v4_ : Int32) (σ_ : SS), X8_apart_L43 u3_ k139 n v2_ v4_ σ_ = some r → WT σ_ → RR g mX8_apart (FinR g mX8_apart (some (.int r.1)) NF r.2) zF 43 [(0, .ref (ad g 73)), (1, .int x1_), (2, .int v2_), (3, .int u3_), (4, .int v4_)] [] σ_ := by
  unfold X8_apart_L43
  refine lp_ind (P := fun (rec : Int32 → Int32 → SS → Option (Int32 × SS)) => ∀ (v2_ : Int32) (v4_ : Int32) (σ_ : SS), rec v2_ v4_ σ_ = some r → WT σ_ → RR g mX8_apart (FinR g mX8_apart (some (.int r.1)) NF r.2) zF 43 [(0, .ref (ad g 73)), (1, .int x1_), (2, .int v2_), (3, .int u3_), (4, .int v4_)] [] σ_) ?_ ?_ n
  · intro v2_ v4_ σ_ hr; cases hr
  intro rec ih v2_ v4_ σ_ hr hw_
  refine r_iload (pc := 43) (j := 4) dX8_apart_43 rfl ?_
  refine r_aload_n (pc := 45) (j := 0) dX8_apart_45 rfl rfl ?_
  refine r_iload_n (pc := 46) (j := 3) dX8_apart_46 rfl rfl ?_
  obtain ⟨v8, hv8, hr⟩ := bnd1_inv hr
  refine kX8_boxesOf (pc := 47) hv8 tw_7_27 ⟨nle rfl, nle rfl⟩ (nle rfl) dX8_apart_47 ?_
  refine r_icmp_ge (pc := 50) (tgt := 139) dX8_apart_50 rfl (fun hc => ?_) (fun hc => ?_)
  · replace hr := ite_t hc hr
    exact r_pick (ls1 := [(0, .ref (ad g 73)), (1, .int x1_), (2, .int v2_), (3, .int u3_)]) [0, 1, 2, 3] rfl (hk139 v2_ σ_ hr hw_)
  replace hr := ite_f hc hr
  refine r_iload_n (pc := 53) (j := 2) dX8_apart_53 rfl rfl ?_
  refine r_istore (pc := 54) (ls1 := [(5, .int v2_), (0, .ref (ad g 73)), (1, .int x1_), (2, .int v2_), (3, .int u3_), (4, .int v4_)]) dX8_apart_54 (nle rfl) rfl ?_
  refine r_pick (ls1 := [(0, .ref (ad g 73)), (1, .int x1_), (2, .int v2_), (3, .int u3_), (4, .int v4_), (5, .int v2_)]) [1, 2, 3, 4, 5, 0] rfl ?_
  refine sX8_apart_L56    (fun v17 σ18 hr hσ18 => ?_) fuel v2_ σ_ hr hw_
  refine r_aload_n (pc := 115) (j := 0) dX8_apart_115 rfl rfl ?_
  refine gf8_59 (pc := 116) tw_5_153 hσ18 dX8_apart_116 ?_
  refine r_iload (pc := 119) (j := 5) dX8_apart_119 rfl ?_
  refine r_bipush (pc := 121) (v := (6 : Int32)) dX8_apart_121 rfl ?_
  refine r_iload_n (pc := 123) (j := 3) dX8_apart_123 rfl rfl ?_
  refine r_imul (pc := 124) dX8_apart_124 ?_
  refine r_iload (pc := 125) (j := 4) dX8_apart_125 rfl ?_
  refine r_iadd (pc := 127) dX8_apart_127 ?_
  obtain ⟨h19, hr⟩ := grd_inv hr
  refine x_iast (pc := 128) (j := (Int32.toNatClampNeg v17)) rfl h19 rfl dX8_apart_128 fun σ20 eσ20 => ?_
  replace hr := vthen_inv hr σ20 eσ20
  have hσ20 := wtI eσ20 hσ18
  refine r_iload_n (pc := 129) (j := 2) dX8_apart_129 rfl rfl ?_
  refine r_iconst (pc := 130) (v := (1 : Int32)) dX8_apart_130 rfl ?_
  refine r_iadd (pc := 131) dX8_apart_131 ?_
  refine r_topi fun v21 ev21 => ?_
  replace hr := vthen_inv hr v21 ev21
  refine r_istore_n (pc := 132) (ls1 := [(2, .int v21), (0, .ref (ad g 73)), (1, .int x1_), (3, .int u3_), (4, .int v4_), (5, .int v17)]) dX8_apart_132 rfl (nle rfl) rfl ?_
  refine r_iinc (pc := 133) (j := 4) (v := (v4_ + (1 : Int32))) (ls1 := [(4, .int (v4_ + (1 : Int32))), (2, .int v21), (0, .ref (ad g 73)), (1, .int x1_), (3, .int u3_), (5, .int v17)]) dX8_apart_133 rfl rfl (nle rfl) rfl ?_
  refine r_goto (pc := 136) (tgt := 43) dX8_apart_136 rfl ?_
  exact r_pick (ls1 := [(0, .ref (ad g 73)), (1, .int x1_), (2, .int v21), (3, .int u3_), (4, .int (v4_ + (1 : Int32)))]) [2, 3, 1, 4, 0] rfl (ih v21 (v4_ + (1 : Int32)) σ20 hr hσ20)

set_option maxRecDepth 20000 in
theorem sX8_apart_L32 {g : GG} {r : Int32 × SS} {x1_ : Int32} {k145 : Int32 → SS → Option (Int32 × SS)} 
    (hk145 : ∀ (y2 : Int32) (σ_ : SS), k145 y2 σ_ = some r → WT σ_ → RR g mX8_apart (FinR g mX8_apart (some (.int r.1)) NF r.2) zF 145 [(0, .ref (ad g 73)), (1, .int x1_), (2, .int y2)] [] σ_)
    (n : Nat) : ∀ (v2_ : Int32) (v3_ : Int32) (σ_ : SS), X8_apart_L32 k145 n v2_ v3_ σ_ = some r → WT σ_ → RR g mX8_apart (FinR g mX8_apart (some (.int r.1)) NF r.2) zF 32 [(0, .ref (ad g 73)), (1, .int x1_), (2, .int v2_), (3, .int v3_)] [] σ_ := by
  unfold X8_apart_L32
  refine lp_ind (P := fun (rec : Int32 → Int32 → SS → Option (Int32 × SS)) => ∀ (v2_ : Int32) (v3_ : Int32) (σ_ : SS), rec v2_ v3_ σ_ = some r → WT σ_ → RR g mX8_apart (FinR g mX8_apart (some (.int r.1)) NF r.2) zF 32 [(0, .ref (ad g 73)), (1, .int x1_), (2, .int v2_), (3, .int v3_)] [] σ_) ?_ ?_ n
  · intro v2_ v3_ σ_ hr; cases hr
  intro rec ih v2_ v3_ σ_ hr hw_
  refine r_iload_n (pc := 32) (j := 3) dX8_apart_32 rfl rfl ?_
  refine r_aload_n (pc := 33) (j := 0) dX8_apart_33 rfl rfl ?_
  obtain ⟨v5, hv5, hr⟩ := bnd1_inv hr
  refine kX8_questions (pc := 34) hv5 tw_6_145 ⟨nle rfl, nle rfl⟩ (nle rfl) dX8_apart_34 ?_
  refine r_icmp_ge (pc := 37) (tgt := 145) dX8_apart_37 rfl (fun hc => ?_) (fun hc => ?_)
  · replace hr := ite_t hc hr
    exact r_pick (ls1 := [(0, .ref (ad g 73)), (1, .int x1_), (2, .int v2_)]) [0, 1, 2] rfl (hk145 v2_ σ_ hr hw_)
  replace hr := ite_f hc hr
  refine r_iconst (pc := 40) (v := (0 : Int32)) dX8_apart_40 rfl ?_
  refine r_istore (pc := 41) (ls1 := [(4, .int (0 : Int32)), (0, .ref (ad g 73)), (1, .int x1_), (2, .int v2_), (3, .int v3_)]) dX8_apart_41 (nle rfl) rfl ?_
  refine r_pick (ls1 := [(0, .ref (ad g 73)), (1, .int x1_), (2, .int v2_), (3, .int v3_), (4, .int (0 : Int32))]) [1, 2, 3, 4, 0] rfl ?_
  refine sX8_apart_L43    (fun v22 σ23 hr hσ23 => ?_) fuel v2_ (0 : Int32) σ_ hr hw_
  refine r_iinc (pc := 139) (j := 3) (v := (v3_ + (1 : Int32))) (ls1 := [(3, .int (v3_ + (1 : Int32))), (0, .ref (ad g 73)), (1, .int x1_), (2, .int v22)]) dX8_apart_139 rfl rfl (nle rfl) rfl ?_
  refine r_goto (pc := 142) (tgt := 32) dX8_apart_142 rfl ?_
  exact r_pick (ls1 := [(0, .ref (ad g 73)), (1, .int x1_), (2, .int v22), (3, .int (v3_ + (1 : Int32)))]) [1, 2, 3, 0] rfl (ih v22 (v3_ + (1 : Int32)) σ23 hr hσ23)

set_option maxRecDepth 20000 in
theorem sX8_apart_L153 {g : GG} {r : Int32 × SS} {σ_ : SS} {x1_ : Int32} {u2_ : Int32} {k214 : Int32 → Int32 → Option (Int32 × SS)} 
    (hw_ : WT σ_)
    (hk214 : ∀ (y3 : Int32) (y4 : Int32), k214 y3 y4 = some r → RR g mX8_apart (FinR g mX8_apart (some (.int r.1)) NF r.2) zF 214 [(0, .ref (ad g 73)), (1, .int x1_), (2, .int u2_), (3, .int y3), (4, .int y4)] [] σ_)
    (n : Nat) : ∀ (v3_ : Int32) (v4_ : Int32) (v5_ : Int32), X8_apart_L153 σ_ u2_ k214 n v3_ v4_ v5_ = some r → RR g mX8_apart (FinR g mX8_apart (some (.int r.1)) NF r.2) zF 153 [(0, .ref (ad g 73)), (1, .int x1_), (2, .int u2_), (3, .int v3_), (4, .int v4_), (5, .int v5_)] [] σ_ := by
  unfold X8_apart_L153
  refine lp_ind (P := fun (rec : Int32 → Int32 → Int32 → Option (Int32 × SS)) => ∀ (v3_ : Int32) (v4_ : Int32) (v5_ : Int32), rec v3_ v4_ v5_ = some r → RR g mX8_apart (FinR g mX8_apart (some (.int r.1)) NF r.2) zF 153 [(0, .ref (ad g 73)), (1, .int x1_), (2, .int u2_), (3, .int v3_), (4, .int v4_), (5, .int v5_)] [] σ_) ?_ ?_ n
  · intro v3_ v4_ v5_ hr; cases hr
  intro rec ih v3_ v4_ v5_ hr
  refine r_iload (pc := 153) (j := 5) dX8_apart_153 rfl ?_
  refine r_iconst (pc := 155) (v := (1 : Int32)) dX8_apart_155 rfl ?_
  refine r_iadd (pc := 156) dX8_apart_156 ?_
  refine r_iload_n (pc := 157) (j := 2) dX8_apart_157 rfl rfl ?_
  refine r_icmp_ge (pc := 158) (tgt := 214) dX8_apart_158 rfl (fun hc => ?_) (fun hc => ?_)
  · replace hr := ite_t hc hr
    exact r_pick (ls1 := [(0, .ref (ad g 73)), (1, .int x1_), (2, .int u2_), (3, .int v3_), (4, .int v4_)]) [0, 1, 2, 3, 4] rfl (hk214 v3_ v4_ hr)
  replace hr := ite_f hc hr
  refine r_aload_n (pc := 161) (j := 0) dX8_apart_161 rfl rfl ?_
  refine gf8_52 (pc := 162) tw_5_146 hw_ dX8_apart_162 ?_
  refine r_aload_n (pc := 165) (j := 0) dX8_apart_165 rfl rfl ?_
  refine gf8_59 (pc := 166) tw_5_153 hw_ dX8_apart_166 ?_
  refine r_iload (pc := 169) (j := 5) dX8_apart_169 rfl ?_
  obtain ⟨h26, hr⟩ := grd_inv hr
  refine x_iald (pc := 171) (k := (Int32.toNatClampNeg v5_)) rfl h26 rfl dX8_apart_171 ?_
  obtain ⟨h27, hr⟩ := grd_inv hr
  refine x_iald (pc := 172) (k := (Int32.toNatClampNeg (gI σ_ 108 (Int32.toNatClampNeg v5_)))) rfl h27 rfl dX8_apart_172 ?_
  refine r_aload_n (pc := 173) (j := 0) dX8_apart_173 rfl rfl ?_
  refine gf8_52 (pc := 174) tw_5_146 hw_ dX8_apart_174 ?_
  refine r_aload_n (pc := 177) (j := 0) dX8_apart_177 rfl rfl ?_
  refine gf8_59 (pc := 178) tw_5_153 hw_ dX8_apart_178 ?_
  refine r_iload (pc := 181) (j := 5) dX8_apart_181 rfl ?_
  refine r_iconst (pc := 183) (v := (1 : Int32)) dX8_apart_183 rfl ?_
  refine r_iadd (pc := 184) dX8_apart_184 ?_
  obtain ⟨h28, hr⟩ := grd_inv hr
  refine x_iald (pc := 185) (k := (Int32.toNatClampNeg (v5_ + (1 : Int32)))) rfl h28 rfl dX8_apart_185 ?_
  obtain ⟨h29, hr⟩ := grd_inv hr
  refine x_iald (pc := 186) (k := (Int32.toNatClampNeg (gI σ_ 108 (Int32.toNatClampNeg (v5_ + (1 : Int32)))))) rfl h29 rfl dX8_apart_186 ?_
  refine r_isub (pc := 187) dX8_apart_187 ?_
  refine r_topi fun v30 ev30 => ?_
  replace hr := vthen_inv hr v30 ev30
  refine r_istore (pc := 188) (ls1 := [(6, .int v30), (0, .ref (ad g 73)), (1, .int x1_), (2, .int u2_), (3, .int v3_), (4, .int v4_), (5, .int v5_)]) dX8_apart_188 (nle rfl) rfl ?_
  refine r_iload (pc := 190) (j := 0) dX8_apart_190 rfl ?_
  refine r_iload_n (pc := 192) (j := 4) dX8_apart_192 rfl rfl ?_
  refine r_icmp_gt (pc := 193) (tgt := 199) dX8_apart_193 rfl (fun hc => ?_) (fun hc => ?_)
  · replace hr := ite_t hc hr
    refine r_iload (pc := 199) (j := 0) dX8_apart_199 rfl ?_
    refine r_istore_n (pc := 201) (ls1 := [(3, .int v30), (6, .int v30), (0, .ref (ad g 73)), (1, .int x1_), (2, .int u2_), (4, .int v4_), (5, .int v5_)]) dX8_apart_201 rfl (nle rfl) rfl ?_
    refine r_iload (pc := 202) (j := 6) dX8_apart_202 rfl ?_
    refine r_iconst (pc := 204) (v := (1 : Int32)) dX8_apart_204 rfl ?_
    refine r_iadd (pc := 205) dX8_apart_205 ?_
    refine r_topi fun v31 ev31 => ?_
    replace hr := vthen_inv hr v31 ev31
    refine r_istore (pc := 206) (ls1 := [(4, .int v31), (3, .int v30), (6, .int v30), (0, .ref (ad g 73)), (1, .int x1_), (2, .int u2_), (5, .int v5_)]) dX8_apart_206 (nle rfl) rfl ?_
    refine r_iinc (pc := 208) (j := 6) (v := (v5_ + (1 : Int32))) (ls1 := [(5, .int (v5_ + (1 : Int32))), (4, .int v31), (3, .int v30), (6, .int v30), (0, .ref (ad g 73)), (1, .int x1_), (2, .int u2_)]) dX8_apart_208 rfl rfl (nle rfl) rfl ?_
    refine r_goto (pc := 211) (tgt := 153) dX8_apart_211 rfl ?_
    exact r_pick (ls1 := [(0, .ref (ad g 73)), (1, .int x1_), (2, .int u2_), (3, .int v30), (4, .int v31), (5, .int (v5_ + (1 : Int32)))]) [4, 5, 6, 2, 1, 0] rfl (ih v30 v31 (v5_ + (1 : Int32)) hr)
  replace hr := ite_f hc hr
  refine r_goto (pc := 196) (tgt := 208) dX8_apart_196 rfl ?_
  refine r_iinc (pc := 208) (j := 6) (v := (v5_ + (1 : Int32))) (ls1 := [(5, .int (v5_ + (1 : Int32))), (6, .int v30), (0, .ref (ad g 73)), (1, .int x1_), (2, .int u2_), (3, .int v3_), (4, .int v4_)]) dX8_apart_208 rfl rfl (nle rfl) rfl ?_
  refine r_goto (pc := 211) (tgt := 153) dX8_apart_211 rfl ?_
  exact r_pick (ls1 := [(0, .ref (ad g 73)), (1, .int x1_), (2, .int u2_), (3, .int v3_), (4, .int v4_), (5, .int (v5_ + (1 : Int32)))]) [2, 3, 4, 5, 6, 0] rfl (ih v3_ v4_ (v5_ + (1 : Int32)) hr)

set_option maxRecDepth 20000 in
theorem sX8_apart_L236 {g : GG} {r : Int32 × SS} {u2_ : Int32} {u4_ : Int32}  
    (n : Nat) : ∀ (v5_ : Int32) (v6_ : Int32) (σ_ : SS), X8_apart_L236 u2_ u4_ n v5_ v6_ σ_ = some r → WT σ_ → RR g mX8_apart (FinR g mX8_apart (some (.int r.1)) NF r.2) zF 236 [(0, .ref (ad g 73)), (2, .int u2_), (4, .int u4_), (5, .int v5_), (6, .int v6_)] [] σ_ := by
  unfold X8_apart_L236
  refine lp_ind (P := fun (rec : Int32 → Int32 → SS → Option (Int32 × SS)) => ∀ (v5_ : Int32) (v6_ : Int32) (σ_ : SS), rec v5_ v6_ σ_ = some r → WT σ_ → RR g mX8_apart (FinR g mX8_apart (some (.int r.1)) NF r.2) zF 236 [(0, .ref (ad g 73)), (2, .int u2_), (4, .int u4_), (5, .int v5_), (6, .int v6_)] [] σ_) ?_ ?_ n
  · intro v5_ v6_ σ_ hr; cases hr
  intro rec ih v5_ v6_ σ_ hr hw_
  refine r_iload (pc := 236) (j := 4) dX8_apart_236 rfl ?_
  refine r_iload_n (pc := 238) (j := 1) dX8_apart_238 rfl rfl ?_
  refine r_icmp_ge (pc := 239) (tgt := 310) dX8_apart_239 rfl (fun hc => ?_) (fun hc => ?_)
  · replace hr := ite_t hc hr
    refine r_iload (pc := 310) (j := 3) dX8_apart_310 rfl ?_
    exact l_osi hr (r_iret (pc := 312) (v := v5_) rfl rfl ⟨Nat.le_refl _, Nat.le_refl _⟩ dX8_apart_312)
  replace hr := ite_f hc hr
  refine r_aload_n (pc := 242) (j := 0) dX8_apart_242 rfl rfl ?_
  refine r_aload_n (pc := 243) (j := 0) dX8_apart_243 rfl rfl ?_
  refine gf8_59 (pc := 244) tw_5_153 hw_ dX8_apart_244 ?_
  refine r_iload (pc := 247) (j := 4) dX8_apart_247 rfl ?_
  obtain ⟨h34, hr⟩ := grd_inv hr
  refine x_iald (pc := 249) (k := (Int32.toNatClampNeg v6_)) rfl h34 rfl dX8_apart_249 ?_
  refine r_bipush (pc := 250) (v := (6 : Int32)) dX8_apart_250 rfl ?_
  refine r_idiv (pc := 252) dX8_apart_252 (by decide) ?_
  refine r_aload_n (pc := 253) (j := 0) dX8_apart_253 rfl rfl ?_
  refine gf8_26 (pc := 254) tw_5_120 hw_ dX8_apart_254 ?_
  refine r_iconst (pc := 257) (v := (3 : Int32)) dX8_apart_257 rfl ?_
  refine x_iald (pc := 258) (k := 3) rfl (by decide) rfl dX8_apart_258 ?_
  obtain ⟨σ35, eσ35, hr⟩ := bnd1_inv hr
  refine kX8_judges (pc := 259) eσ35 tw_7_107 ⟨nle rfl, nle rfl⟩ (nle rfl) dX8_apart_259 fun hσ35 => ?_
  refine r_iload (pc := 262) (j := 3) dX8_apart_262 rfl ?_
  refine r_aload_n (pc := 264) (j := 0) dX8_apart_264 rfl rfl ?_
  refine gf8_55 (pc := 265) tw_5_149 rfl dX8_apart_265 ?_
  refine r_aload_n (pc := 268) (j := 0) dX8_apart_268 rfl rfl ?_
  refine gf8_59 (pc := 269) tw_5_153 hσ35 dX8_apart_269 ?_
  refine r_iload (pc := 272) (j := 4) dX8_apart_272 rfl ?_
  refine x_iald (pc := 274) (k := (Int32.toNatClampNeg v6_)) rfl h34 rfl dX8_apart_274 ?_
  refine r_bipush (pc := 275) (v := (6 : Int32)) dX8_apart_275 rfl ?_
  refine r_irem (pc := 277) dX8_apart_277 (by decide) ?_
  refine kX8_has (pc := 278) (hf := rfl) tw_6_133 ⟨nle rfl, nle rfl⟩ (nle rfl) dX8_apart_278 ?_
  refine r_iload (pc := 281) (j := 4) dX8_apart_281 rfl ?_
  refine r_iload (pc := 283) (j := 2) dX8_apart_283 rfl ?_
  obtain ⟨j293, ej293, hr⟩ := vth_ex hr
  have hj293 : ∀ (s36 : Int32), j293 s36 = some r → RR g mX8_apart (FinR g mX8_apart (some (.int r.1)) NF r.2) zF 293 [(0, .ref (ad g 73)), (2, .int u2_), (4, .int u4_), (6, .int v6_)] [.int s36, .int (b2i (fX8_has σ35 (gI σ35 73 55) (irm (gI σ35 108 (Int32.toNatClampNeg v6_)) (6 : Int32)))), .int v5_] σ35 := by
    intro s36 hr
    replace hr := (congrFun ej293 s36).symm.trans hr
    refine r_icmp_ne (pc := 293) (tgt := 300) dX8_apart_293 rfl (fun hc => ?_) (fun hc => ?_)
    · replace hr := ite_f hc hr
      refine r_iconst (pc := 300) (v := (1 : Int32)) dX8_apart_300 rfl ?_
      refine r_iadd (pc := 301) dX8_apart_301 ?_
      refine r_topi fun v37 ev37 => ?_
      replace hr := vthen_inv hr v37 ev37
      refine r_istore (pc := 302) (ls1 := [(5, .int v37), (0, .ref (ad g 73)), (2, .int u2_), (4, .int u4_), (6, .int v6_)]) dX8_apart_302 (nle rfl) rfl ?_
      refine r_iinc (pc := 304) (j := 4) (v := (v6_ + (1 : Int32))) (ls1 := [(6, .int (v6_ + (1 : Int32))), (5, .int v37), (0, .ref (ad g 73)), (2, .int u2_), (4, .int u4_)]) dX8_apart_304 rfl rfl (nle rfl) rfl ?_
      refine r_goto (pc := 307) (tgt := 236) dX8_apart_307 rfl ?_
      exact r_pick (ls1 := [(0, .ref (ad g 73)), (2, .int u2_), (4, .int u4_), (5, .int v37), (6, .int (v6_ + (1 : Int32)))]) [2, 3, 4, 1, 0] rfl (ih v37 (v6_ + (1 : Int32)) σ35 hr hσ35)
    replace hr := ite_t hc hr
    refine r_iconst (pc := 296) (v := (0 : Int32)) dX8_apart_296 rfl ?_
    refine r_goto (pc := 297) (tgt := 301) dX8_apart_297 rfl ?_
    refine r_iadd (pc := 301) dX8_apart_301 ?_
    refine r_topi fun v38 ev38 => ?_
    replace hr := vthen_inv hr v38 ev38
    refine r_istore (pc := 302) (ls1 := [(5, .int v38), (0, .ref (ad g 73)), (2, .int u2_), (4, .int u4_), (6, .int v6_)]) dX8_apart_302 (nle rfl) rfl ?_
    refine r_iinc (pc := 304) (j := 4) (v := (v6_ + (1 : Int32))) (ls1 := [(6, .int (v6_ + (1 : Int32))), (5, .int v38), (0, .ref (ad g 73)), (2, .int u2_), (4, .int u4_)]) dX8_apart_304 rfl rfl (nle rfl) rfl ?_
    refine r_goto (pc := 307) (tgt := 236) dX8_apart_307 rfl ?_
    exact r_pick (ls1 := [(0, .ref (ad g 73)), (2, .int u2_), (4, .int u4_), (5, .int v38), (6, .int (v6_ + (1 : Int32)))]) [2, 3, 4, 1, 0] rfl (ih v38 (v6_ + (1 : Int32)) σ35 hr hσ35)
  refine r_icmp_ge (pc := 285) (tgt := 292) dX8_apart_285 rfl (fun hc => ?_) (fun hc => ?_)
  · replace hr := ite_t hc hr
    refine r_iconst (pc := 292) (v := (0 : Int32)) dX8_apart_292 rfl ?_
    exact r_pick (ls1 := [(0, .ref (ad g 73)), (2, .int u2_), (4, .int u4_), (6, .int v6_)]) [0, 1, 2, 4] rfl (hj293 (0 : Int32) hr)
  replace hr := ite_f hc hr
  refine r_iconst (pc := 288) (v := (1 : Int32)) dX8_apart_288 rfl ?_
  refine r_goto (pc := 289) (tgt := 293) dX8_apart_289 rfl ?_
  exact r_pick (ls1 := [(0, .ref (ad g 73)), (2, .int u2_), (4, .int u4_), (6, .int v6_)]) [0, 1, 2, 4] rfl (hj293 (1 : Int32) hr)

set_option maxRecDepth 20000 in
theorem sX8_apart {g : GG} {σ : SS} {a1 : Int32} {r : Int32 × SS} (hr : fX8_apart σ a1 = some r)  : Ct g mX8_apart [.ref (ad g 73), .int a1] NF σ (some (.int r.1)) NF r.2 := by
  refine Ct.of (by decide +kernel) (nle rfl) fun hw0 => ?_
  have hw := hw0 rfl
  unfold fX8_apart at hr
  change RR g mX8_apart (FinR g mX8_apart (some (.int r.1)) NF r.2) zF 0 [(0, .ref (ad g 73)), (1, .int a1)] [] σ
  refine r_aload_n (pc := 0) (j := 0) dX8_apart_0 rfl rfl ?_
  refine gf8_12 (pc := 1) tw_5_106 rfl dX8_apart_1 ?_
  refine r_if_eq (pc := 4) (tgt := 16) dX8_apart_4 rfl (fun hc => ?_) (fun hc => ?_)
  · replace hr := ite_t hc hr
    refine r_iconst (pc := 16) (v := (-1 : Int32)) dX8_apart_16 rfl ?_
    exact l_osi hr (r_iret (pc := 17) (v := (-1 : Int32)) rfl rfl ⟨Nat.le_refl _, Nat.le_refl _⟩ dX8_apart_17)
  replace hr := ite_f hc hr
  refine r_iload_n (pc := 7) (j := 1) dX8_apart_7 rfl rfl ?_
  refine r_iconst (pc := 8) (v := (0 : Int32)) dX8_apart_8 rfl ?_
  refine r_iconst (pc := 9) (v := (2 : Int32)) dX8_apart_9 rfl ?_
  refine kX8_in (pc := 10) (hf := rfl) tw_6_65 ⟨nle rfl, nle rfl⟩ (nle rfl) dX8_apart_10 ?_
  refine r_ifB_ne (pc := 13) (tgt := 18) dX8_apart_13 rfl (fun hc => ?_) (fun hc => ?_)
  · replace hr := ite_t hc hr
    refine r_aload_n (pc := 18) (j := 0) dX8_apart_18 rfl rfl ?_
    obtain ⟨b2, σ4, eσ4, hr⟩ := bnd_inv hr
    refine kX8_finds (pc := 19) eσ4 tw_7_94 ⟨nle rfl, nle rfl⟩ (nle rfl) dX8_apart_19 fun hσ4 => ?_
    refine r_ifB_ne (pc := 22) (tgt := 28) dX8_apart_22 rfl (fun hc => ?_) (fun hc => ?_)
    · replace hr := ite_t hc hr
      refine r_iconst (pc := 28) (v := (0 : Int32)) dX8_apart_28 rfl ?_
      refine r_istore_n (pc := 29) (ls1 := [(2, .int (0 : Int32)), (0, .ref (ad g 73)), (1, .int a1)]) dX8_apart_29 rfl (nle rfl) rfl ?_
      refine r_iconst (pc := 30) (v := (0 : Int32)) dX8_apart_30 rfl ?_
      refine r_istore_n (pc := 31) (ls1 := [(3, .int (0 : Int32)), (2, .int (0 : Int32)), (0, .ref (ad g 73)), (1, .int a1)]) dX8_apart_31 rfl (nle rfl) rfl ?_
      refine r_pick (ls1 := [(0, .ref (ad g 73)), (1, .int a1), (2, .int (0 : Int32)), (3, .int (0 : Int32))]) [2, 3, 1, 0] rfl ?_
      refine sX8_apart_L32    (fun v24 σ25 hr hσ25 => ?_) fuel (0 : Int32) (0 : Int32) σ4 hr hσ4
      refine r_iconst (pc := 145) (v := (0 : Int32)) dX8_apart_145 rfl ?_
      refine r_istore_n (pc := 146) (ls1 := [(3, .int (0 : Int32)), (0, .ref (ad g 73)), (1, .int a1), (2, .int v24)]) dX8_apart_146 rfl (nle rfl) rfl ?_
      refine r_iconst (pc := 147) (v := (0 : Int32)) dX8_apart_147 rfl ?_
      refine r_istore (pc := 148) (ls1 := [(4, .int (0 : Int32)), (3, .int (0 : Int32)), (0, .ref (ad g 73)), (1, .int a1), (2, .int v24)]) dX8_apart_148 (nle rfl) rfl ?_
      refine r_iconst (pc := 150) (v := (0 : Int32)) dX8_apart_150 rfl ?_
      refine r_istore (pc := 151) (ls1 := [(5, .int (0 : Int32)), (4, .int (0 : Int32)), (3, .int (0 : Int32)), (0, .ref (ad g 73)), (1, .int a1), (2, .int v24)]) dX8_apart_151 (nle rfl) rfl ?_
      refine r_pick (ls1 := [(0, .ref (ad g 73)), (1, .int a1), (2, .int v24), (3, .int (0 : Int32)), (4, .int (0 : Int32)), (5, .int (0 : Int32))]) [3, 4, 5, 2, 1, 0] rfl ?_
      refine sX8_apart_L153  hσ25  (fun v32 v33 hr => ?_) fuel (0 : Int32) (0 : Int32) (0 : Int32) hr
      refine r_iload_n (pc := 214) (j := 1) dX8_apart_214 rfl rfl ?_
      refine r_iconst (pc := 215) (v := (2 : Int32)) dX8_apart_215 rfl ?_
      refine r_icmp_ge (pc := 216) (tgt := 230) dX8_apart_216 rfl (fun hc => ?_) (fun hc => ?_)
      · replace hr := ite_t hc hr
        refine r_iconst (pc := 230) (v := (0 : Int32)) dX8_apart_230 rfl ?_
        refine r_istore (pc := 231) (ls1 := [(5, .int (0 : Int32)), (0, .ref (ad g 73)), (1, .int a1), (2, .int v24), (3, .int v32), (4, .int v33)]) dX8_apart_231 (nle rfl) rfl ?_
        refine r_iconst (pc := 233) (v := (0 : Int32)) dX8_apart_233 rfl ?_
        refine r_istore (pc := 234) (ls1 := [(6, .int (0 : Int32)), (5, .int (0 : Int32)), (0, .ref (ad g 73)), (1, .int a1), (2, .int v24), (3, .int v32), (4, .int v33)]) dX8_apart_234 (nle rfl) rfl ?_
        refine r_pick (ls1 := [(0, .ref (ad g 73)), (2, .int v24), (4, .int v33), (5, .int (0 : Int32)), (6, .int (0 : Int32))]) [2, 4, 6, 1, 0] rfl ?_
        refine sX8_apart_L236     fuel (0 : Int32) (0 : Int32) σ25 hr hσ25
      replace hr := ite_f hc hr
      refine r_iload_n (pc := 219) (j := 1) dX8_apart_219 rfl rfl ?_
      refine r_if_ne (pc := 220) (tgt := 227) dX8_apart_220 rfl (fun hc => ?_) (fun hc => ?_)
      · replace hr := ite_f hc hr
        refine r_iload (pc := 227) (j := 4) dX8_apart_227 rfl ?_
        exact l_osi hr (r_iret (pc := 229) (v := v33) rfl rfl ⟨Nat.le_refl _, Nat.le_refl _⟩ dX8_apart_229)
      replace hr := ite_t hc hr
      refine r_iload_n (pc := 223) (j := 3) dX8_apart_223 rfl rfl ?_
      refine r_goto (pc := 224) (tgt := 229) dX8_apart_224 rfl ?_
      exact l_osi hr (r_iret (pc := 229) (v := v32) rfl rfl ⟨Nat.le_refl _, Nat.le_refl _⟩ dX8_apart_229)
    replace hr := ite_f hc hr
    refine r_bipush (pc := 25) (v := (-2 : Int32)) dX8_apart_25 rfl ?_
    exact l_osi hr (r_iret (pc := 27) (v := (-2 : Int32)) rfl rfl ⟨Nat.le_refl _, Nat.le_refl _⟩ dX8_apart_27)
  replace hr := ite_f hc hr
  refine r_iconst (pc := 16) (v := (-1 : Int32)) dX8_apart_16 rfl ?_
  exact l_osi hr (r_iret (pc := 17) (v := (-1 : Int32)) rfl rfl ⟨Nat.le_refl _, Nat.le_refl _⟩ dX8_apart_17)

theorem kX8_apart {g : GG} {σ : SS} {a1 : Int32} {v : Int32} {σ2 : SS} {M : MM} {F : State → Array Value → List Frame → State → Prop} {pc index : Nat} {ls : List (Nat × Value)} {rest : List Value} (hf : fX8_apart σ a1 = some (v, σ2))  (hl : Cond.methodLink M.1.cls index yX8_apart ∈ lw_gt) (hR : mX8_apart.2.2.2.2.frames + 1 ≤ M.2.2.2.2.frames ∧ 8 + (mX8_apart.2.2.1 + 11) + mX8_apart.2.2.2.2.locals ≤ M.2.2.2.2.locals) (hrest : (rest.map fun v => v.category).sum ≤ 8) (hd : decode M.2.1 pc = .ok (.invokevirtual index, 3)) (k : WT σ2 → RR g M F zF (pc + 3) ls (.int v :: rest) σ2) : RR g M F zF pc ls (.int a1 :: .ref (ad g 73) :: rest) σ :=
  r_callV (N := mX8_apart) (nn := 1) (o1 := some (.int v)) (sX8_apart hf ) (rfl : shp 73 = (8, 0)) (by decide) (shp_le (rfl : shp 73 = (8, 0)) (nle rfl)) (ci := 8) rfl rfl tw_7_150 tw_1_10 hl tw_7_148 tw_7_149 ⟨by decide, by decide, rfl⟩ hR rfl hrest hd ⟨Nat.zero_le _, Nat.zero_le _⟩ rfl (fun h => k (h rfl))

theorem dX3_leastMargin_0 : decode cX3_leastMargin 0 = .ok (.aload_n 0, 1) := by decide +kernel
theorem dX3_leastMargin_1 : decode cX3_leastMargin 1 = .ok (.getfield 47, 3) := by decide +kernel
theorem dX3_leastMargin_4 : decode cX3_leastMargin 4 = .ok (.iload_n 1, 1) := by decide +kernel
theorem dX3_leastMargin_5 : decode cX3_leastMargin 5 = .ok (.iaload, 1) := by decide +kernel
theorem dX3_leastMargin_6 : decode cX3_leastMargin 6 = .ok (.istore_n 2, 1) := by decide +kernel
theorem dX3_leastMargin_7 : decode cX3_leastMargin 7 = .ok (.aload_n 0, 1) := by decide +kernel
theorem dX3_leastMargin_8 : decode cX3_leastMargin 8 = .ok (.getfield 9, 3) := by decide +kernel
theorem dX3_leastMargin_11 : decode cX3_leastMargin 11 = .ok (.iconst 3, 1) := by decide +kernel
theorem dX3_leastMargin_12 : decode cX3_leastMargin 12 = .ok (.iaload, 1) := by decide +kernel
theorem dX3_leastMargin_13 : decode cX3_leastMargin 13 = .ok (.iload_n 2, 1) := by decide +kernel
theorem dX3_leastMargin_14 : decode cX3_leastMargin 14 = .ok (.if_icmp .gt 5, 3) := by decide +kernel
theorem dX3_leastMargin_17 : decode cX3_leastMargin 17 = .ok (.iconst 1, 1) := by decide +kernel
theorem dX3_leastMargin_18 : decode cX3_leastMargin 18 = .ok (.ireturn, 1) := by decide +kernel
theorem dX3_leastMargin_19 : decode cX3_leastMargin 19 = .ok (.aload_n 0, 1) := by decide +kernel
theorem dX3_leastMargin_20 : decode cX3_leastMargin 20 = .ok (.getfield 9, 3) := by decide +kernel
theorem dX3_leastMargin_23 : decode cX3_leastMargin 23 = .ok (.iconst 3, 1) := by decide +kernel
theorem dX3_leastMargin_24 : decode cX3_leastMargin 24 = .ok (.iaload, 1) := by decide +kernel
theorem dX3_leastMargin_25 : decode cX3_leastMargin 25 = .ok (.iconst 2, 1) := by decide +kernel
theorem dX3_leastMargin_26 : decode cX3_leastMargin 26 = .ok (.iload_n 2, 1) := by decide +kernel
theorem dX3_leastMargin_27 : decode cX3_leastMargin 27 = .ok (.imul, 1) := by decide +kernel
theorem dX3_leastMargin_28 : decode cX3_leastMargin 28 = .ok (.if_icmp .gt 9, 3) := by decide +kernel
theorem dX3_leastMargin_31 : decode cX3_leastMargin 31 = .ok (.iload_n 2, 1) := by decide +kernel
theorem dX3_leastMargin_32 : decode cX3_leastMargin 32 = .ok (.iconst 1, 1) := by decide +kernel
theorem dX3_leastMargin_33 : decode cX3_leastMargin 33 = .ok (.iadd, 1) := by decide +kernel
theorem dX3_leastMargin_34 : decode cX3_leastMargin 34 = .ok (.goto 8, 3) := by decide +kernel
theorem dX3_leastMargin_37 : decode cX3_leastMargin 37 = .ok (.iconst 2, 1) := by decide +kernel
theorem dX3_leastMargin_38 : decode cX3_leastMargin 38 = .ok (.iload_n 2, 1) := by decide +kernel
theorem dX3_leastMargin_39 : decode cX3_leastMargin 39 = .ok (.imul, 1) := by decide +kernel
theorem dX3_leastMargin_40 : decode cX3_leastMargin 40 = .ok (.iconst 1, 1) := by decide +kernel
theorem dX3_leastMargin_41 : decode cX3_leastMargin 41 = .ok (.iadd, 1) := by decide +kernel
theorem dX3_leastMargin_42 : decode cX3_leastMargin 42 = .ok (.ireturn, 1) := by decide +kernel
def mX3_leastMargin : MM := (yX3_leastMargin, cX3_leastMargin, 3, Option.some Jvm.ClassFile.FieldType.int, { frames := 0, cells := 0, slots := 0, locals := 0 })
def fX3_leastMargin (σ0 : SS) (a1 : Int32) : Option Int32 :=
  grd (inb a1 12) <|
  vthen (gI σ0 56 (Int32.toNatClampNeg a1)) fun v2 =>
  if v2 < (gI σ0 32 3) then (
    if ((2 : Int32) * v2) < (gI σ0 32 3) then (
      some (((2 : Int32) * v2) + (1 : Int32))
      ) else (
      some (v2 + (1 : Int32))
      )
    ) else (
    some (1 : Int32)
    )

set_option maxRecDepth 20000 in
theorem sX3_leastMargin {g : GG} {σ0 : SS} {a1 : Int32} {r : Int32} (hr : fX3_leastMargin σ0 a1 = some r)  : Ct g mX3_leastMargin [.ref (ad g 31), .int a1] NF σ0 (some (.int r)) NF σ0 := by
  refine Ct.of (by decide +kernel) (nle rfl) fun hw0 => ?_
  have hw := hw0 rfl
  unfold fX3_leastMargin at hr
  change RR g mX3_leastMargin (FinR g mX3_leastMargin (some (.int r)) NF σ0) zF 0 [(0, .ref (ad g 31)), (1, .int a1)] [] σ0
  refine r_aload_n (pc := 0) (j := 0) dX3_leastMargin_0 rfl rfl ?_
  refine gf3_10 (pc := 1) tw_2_43 hw dX3_leastMargin_1 ?_
  refine r_iload_n (pc := 4) (j := 1) dX3_leastMargin_4 rfl rfl ?_
  obtain ⟨h1, hr⟩ := grd_inv hr
  refine x_iald (pc := 5) (k := (Int32.toNatClampNeg a1)) rfl h1 rfl dX3_leastMargin_5 ?_
  refine r_topi fun v2 ev2 => ?_
  replace hr := vthen_inv hr v2 ev2
  refine r_istore_n (pc := 6) (ls1 := [(2, .int v2), (0, .ref (ad g 31)), (1, .int a1)]) dX3_leastMargin_6 rfl (nle rfl) rfl ?_
  refine r_aload_n (pc := 7) (j := 1) dX3_leastMargin_7 rfl rfl ?_
  refine gf3_0 (pc := 8) tw_2_22 hw dX3_leastMargin_8 ?_
  refine r_iconst (pc := 11) (v := (3 : Int32)) dX3_leastMargin_11 rfl ?_
  refine x_iald (pc := 12) (k := 3) rfl (by decide) rfl dX3_leastMargin_12 ?_
  refine r_iload_n (pc := 13) (j := 0) dX3_leastMargin_13 rfl rfl ?_
  refine r_icmp_gt (pc := 14) (tgt := 19) dX3_leastMargin_14 rfl (fun hc => ?_) (fun hc => ?_)
  · replace hr := ite_t hc hr
    refine r_aload_n (pc := 19) (j := 1) dX3_leastMargin_19 rfl rfl ?_
    refine gf3_0 (pc := 20) tw_2_22 hw dX3_leastMargin_20 ?_
    refine r_iconst (pc := 23) (v := (3 : Int32)) dX3_leastMargin_23 rfl ?_
    refine x_iald (pc := 24) (k := 3) rfl (by decide) rfl dX3_leastMargin_24 ?_
    refine r_iconst (pc := 25) (v := (2 : Int32)) dX3_leastMargin_25 rfl ?_
    refine r_iload_n (pc := 26) (j := 0) dX3_leastMargin_26 rfl rfl ?_
    refine r_imul (pc := 27) dX3_leastMargin_27 ?_
    refine r_icmp_gt (pc := 28) (tgt := 37) dX3_leastMargin_28 rfl (fun hc => ?_) (fun hc => ?_)
    · replace hr := ite_t hc hr
      refine r_iconst (pc := 37) (v := (2 : Int32)) dX3_leastMargin_37 rfl ?_
      refine r_iload_n (pc := 38) (j := 0) dX3_leastMargin_38 rfl rfl ?_
      refine r_imul (pc := 39) dX3_leastMargin_39 ?_
      refine r_iconst (pc := 40) (v := (1 : Int32)) dX3_leastMargin_40 rfl ?_
      refine r_iadd (pc := 41) dX3_leastMargin_41 ?_
      exact l_opi hr (r_iret (pc := 42) (v := (((2 : Int32) * v2) + (1 : Int32))) rfl rfl ⟨Nat.le_refl _, Nat.le_refl _⟩ dX3_leastMargin_42)
    replace hr := ite_f hc hr
    refine r_iload_n (pc := 31) (j := 0) dX3_leastMargin_31 rfl rfl ?_
    refine r_iconst (pc := 32) (v := (1 : Int32)) dX3_leastMargin_32 rfl ?_
    refine r_iadd (pc := 33) dX3_leastMargin_33 ?_
    refine r_goto (pc := 34) (tgt := 42) dX3_leastMargin_34 rfl ?_
    exact l_opi hr (r_iret (pc := 42) (v := (v2 + (1 : Int32))) rfl rfl ⟨Nat.le_refl _, Nat.le_refl _⟩ dX3_leastMargin_42)
  replace hr := ite_f hc hr
  refine r_iconst (pc := 17) (v := (1 : Int32)) dX3_leastMargin_17 rfl ?_
  exact l_opi hr (r_iret (pc := 18) (v := (1 : Int32)) rfl rfl ⟨Nat.le_refl _, Nat.le_refl _⟩ dX3_leastMargin_18)

theorem kX3_leastMargin {g : GG} {σ0 : SS} {a1 : Int32} {v : Int32} {M : MM} {F : State → Array Value → List Frame → State → Prop} {pc index : Nat} {ls : List (Nat × Value)} {rest : List Value} (hf : fX3_leastMargin σ0 a1 = some v)  (hl : Cond.methodLink M.1.cls index yX3_leastMargin ∈ lw_gt) (hR : mX3_leastMargin.2.2.2.2.frames + 1 ≤ M.2.2.2.2.frames ∧ 8 + (mX3_leastMargin.2.2.1 + 11) + mX3_leastMargin.2.2.2.2.locals ≤ M.2.2.2.2.locals) (hrest : (rest.map fun v => v.category).sum ≤ 8) (hd : decode M.2.1 pc = .ok (.invokevirtual index, 3)) (k : RR g M F zF (pc + 3) ls (.int v :: rest) σ0) : RR g M F zF pc ls (.int a1 :: .ref (ad g 31) :: rest) σ0 :=
  r_callV (N := mX3_leastMargin) (nn := 1) (o1 := some (.int v)) (sX3_leastMargin hf ) (rfl : shp 31 = (3, 0)) (by decide) (shp_le (rfl : shp 31 = (3, 0)) (nle rfl)) (ci := 3) rfl rfl tw_4_206 tw_1_5 hl tw_4_204 tw_4_205 ⟨by decide, by decide, rfl⟩ hR rfl hrest hd ⟨Nat.zero_le _, Nat.zero_le _⟩ rfl (fun h => k)

theorem dX3_greatestMargin_0 : decode cX3_greatestMargin 0 = .ok (.aload_n 0, 1) := by decide +kernel
theorem dX3_greatestMargin_1 : decode cX3_greatestMargin 1 = .ok (.getfield 47, 3) := by decide +kernel
theorem dX3_greatestMargin_4 : decode cX3_greatestMargin 4 = .ok (.iload_n 1, 1) := by decide +kernel
theorem dX3_greatestMargin_5 : decode cX3_greatestMargin 5 = .ok (.iaload, 1) := by decide +kernel
theorem dX3_greatestMargin_6 : decode cX3_greatestMargin 6 = .ok (.istore_n 2, 1) := by decide +kernel
theorem dX3_greatestMargin_7 : decode cX3_greatestMargin 7 = .ok (.aload_n 0, 1) := by decide +kernel
theorem dX3_greatestMargin_8 : decode cX3_greatestMargin 8 = .ok (.getfield 9, 3) := by decide +kernel
theorem dX3_greatestMargin_11 : decode cX3_greatestMargin 11 = .ok (.iconst 3, 1) := by decide +kernel
theorem dX3_greatestMargin_12 : decode cX3_greatestMargin 12 = .ok (.iaload, 1) := by decide +kernel
theorem dX3_greatestMargin_13 : decode cX3_greatestMargin 13 = .ok (.iload_n 2, 1) := by decide +kernel
theorem dX3_greatestMargin_14 : decode cX3_greatestMargin 14 = .ok (.if_icmp .gt 11, 3) := by decide +kernel
theorem dX3_greatestMargin_17 : decode cX3_greatestMargin 17 = .ok (.iload_n 2, 1) := by decide +kernel
theorem dX3_greatestMargin_18 : decode cX3_greatestMargin 18 = .ok (.sipush 200, 3) := by decide +kernel
theorem dX3_greatestMargin_21 : decode cX3_greatestMargin 21 = .ok (.invokestatic 109, 3) := by decide +kernel
theorem dX3_greatestMargin_24 : decode cX3_greatestMargin 24 = .ok (.ireturn, 1) := by decide +kernel
theorem dX3_greatestMargin_25 : decode cX3_greatestMargin 25 = .ok (.aload_n 0, 1) := by decide +kernel
theorem dX3_greatestMargin_26 : decode cX3_greatestMargin 26 = .ok (.getfield 9, 3) := by decide +kernel
theorem dX3_greatestMargin_29 : decode cX3_greatestMargin 29 = .ok (.iconst 3, 1) := by decide +kernel
theorem dX3_greatestMargin_30 : decode cX3_greatestMargin 30 = .ok (.iaload, 1) := by decide +kernel
theorem dX3_greatestMargin_31 : decode cX3_greatestMargin 31 = .ok (.iconst 2, 1) := by decide +kernel
theorem dX3_greatestMargin_32 : decode cX3_greatestMargin 32 = .ok (.iload_n 2, 1) := by decide +kernel
theorem dX3_greatestMargin_33 : decode cX3_greatestMargin 33 = .ok (.imul, 1) := by decide +kernel
theorem dX3_greatestMargin_34 : decode cX3_greatestMargin 34 = .ok (.if_icmp .gt 15, 3) := by decide +kernel
theorem dX3_greatestMargin_37 : decode cX3_greatestMargin 37 = .ok (.iconst 2, 1) := by decide +kernel
theorem dX3_greatestMargin_38 : decode cX3_greatestMargin 38 = .ok (.iload_n 2, 1) := by decide +kernel
theorem dX3_greatestMargin_39 : decode cX3_greatestMargin 39 = .ok (.imul, 1) := by decide +kernel
theorem dX3_greatestMargin_40 : decode cX3_greatestMargin 40 = .ok (.sipush 200, 3) := by decide +kernel
theorem dX3_greatestMargin_43 : decode cX3_greatestMargin 43 = .ok (.invokestatic 109, 3) := by decide +kernel
theorem dX3_greatestMargin_46 : decode cX3_greatestMargin 46 = .ok (.goto 6, 3) := by decide +kernel
theorem dX3_greatestMargin_49 : decode cX3_greatestMargin 49 = .ok (.sipush 200, 3) := by decide +kernel
theorem dX3_greatestMargin_52 : decode cX3_greatestMargin 52 = .ok (.ireturn, 1) := by decide +kernel
def mX3_greatestMargin : MM := (yX3_greatestMargin, cX3_greatestMargin, 3, Option.some Jvm.ClassFile.FieldType.int, { frames := 1, cells := 0, slots := 0, locals := 21 })
def fX3_greatestMargin (σ0 : SS) (a1 : Int32) : Option Int32 :=
  grd (inb a1 12) <|
  vthen (gI σ0 56 (Int32.toNatClampNeg a1)) fun v2 =>
  if v2 < (gI σ0 32 3) then (
    if ((2 : Int32) * v2) < (gI σ0 32 3) then (
      some (200 : Int32)
      ) else (
      some (fJ9_min_7cf53 σ0 ((2 : Int32) * v2) (200 : Int32))
      )
    ) else (
    some (fJ9_min_7cf53 σ0 v2 (200 : Int32))
    )

set_option maxRecDepth 20000 in
theorem sX3_greatestMargin {g : GG} {σ0 : SS} {a1 : Int32} {r : Int32} (hr : fX3_greatestMargin σ0 a1 = some r)  : Ct g mX3_greatestMargin [.ref (ad g 31), .int a1] NF σ0 (some (.int r)) NF σ0 := by
  refine Ct.of (by decide +kernel) (nle rfl) fun hw0 => ?_
  have hw := hw0 rfl
  unfold fX3_greatestMargin at hr
  change RR g mX3_greatestMargin (FinR g mX3_greatestMargin (some (.int r)) NF σ0) zF 0 [(0, .ref (ad g 31)), (1, .int a1)] [] σ0
  refine r_aload_n (pc := 0) (j := 0) dX3_greatestMargin_0 rfl rfl ?_
  refine gf3_10 (pc := 1) tw_2_43 hw dX3_greatestMargin_1 ?_
  refine r_iload_n (pc := 4) (j := 1) dX3_greatestMargin_4 rfl rfl ?_
  obtain ⟨h1, hr⟩ := grd_inv hr
  refine x_iald (pc := 5) (k := (Int32.toNatClampNeg a1)) rfl h1 rfl dX3_greatestMargin_5 ?_
  refine r_topi fun v2 ev2 => ?_
  replace hr := vthen_inv hr v2 ev2
  refine r_istore_n (pc := 6) (ls1 := [(2, .int v2), (0, .ref (ad g 31)), (1, .int a1)]) dX3_greatestMargin_6 rfl (nle rfl) rfl ?_
  refine r_aload_n (pc := 7) (j := 1) dX3_greatestMargin_7 rfl rfl ?_
  refine gf3_0 (pc := 8) tw_2_22 hw dX3_greatestMargin_8 ?_
  refine r_iconst (pc := 11) (v := (3 : Int32)) dX3_greatestMargin_11 rfl ?_
  refine x_iald (pc := 12) (k := 3) rfl (by decide) rfl dX3_greatestMargin_12 ?_
  refine r_iload_n (pc := 13) (j := 0) dX3_greatestMargin_13 rfl rfl ?_
  refine r_icmp_gt (pc := 14) (tgt := 25) dX3_greatestMargin_14 rfl (fun hc => ?_) (fun hc => ?_)
  · replace hr := ite_t hc hr
    refine r_aload_n (pc := 25) (j := 1) dX3_greatestMargin_25 rfl rfl ?_
    refine gf3_0 (pc := 26) tw_2_22 hw dX3_greatestMargin_26 ?_
    refine r_iconst (pc := 29) (v := (3 : Int32)) dX3_greatestMargin_29 rfl ?_
    refine x_iald (pc := 30) (k := 3) rfl (by decide) rfl dX3_greatestMargin_30 ?_
    refine r_iconst (pc := 31) (v := (2 : Int32)) dX3_greatestMargin_31 rfl ?_
    refine r_iload_n (pc := 32) (j := 0) dX3_greatestMargin_32 rfl rfl ?_
    refine r_imul (pc := 33) dX3_greatestMargin_33 ?_
    refine r_icmp_gt (pc := 34) (tgt := 49) dX3_greatestMargin_34 rfl (fun hc => ?_) (fun hc => ?_)
    · replace hr := ite_t hc hr
      refine r_sipush (pc := 49) (v := (200 : Int32)) dX3_greatestMargin_49 rfl ?_
      exact l_opi hr (r_iret (pc := 52) (v := (200 : Int32)) rfl rfl ⟨Nat.le_refl _, Nat.le_refl _⟩ dX3_greatestMargin_52)
    replace hr := ite_f hc hr
    refine r_iconst (pc := 37) (v := (2 : Int32)) dX3_greatestMargin_37 rfl ?_
    refine r_iload_n (pc := 38) (j := 0) dX3_greatestMargin_38 rfl rfl ?_
    refine r_imul (pc := 39) dX3_greatestMargin_39 ?_
    refine r_sipush (pc := 40) (v := (200 : Int32)) dX3_greatestMargin_40 rfl ?_
    refine kJ9_min_7cf53 (pc := 43) (hf := rfl) tw_4_129 ⟨nle rfl, nle rfl⟩ (nle rfl) dX3_greatestMargin_43 ?_
    refine r_goto (pc := 46) (tgt := 52) dX3_greatestMargin_46 rfl ?_
    exact l_opi hr (r_iret (pc := 52) (v := (fJ9_min_7cf53 σ0 ((2 : Int32) * v2) (200 : Int32))) rfl rfl ⟨Nat.le_refl _, Nat.le_refl _⟩ dX3_greatestMargin_52)
  replace hr := ite_f hc hr
  refine r_iload_n (pc := 17) (j := 0) dX3_greatestMargin_17 rfl rfl ?_
  refine r_sipush (pc := 18) (v := (200 : Int32)) dX3_greatestMargin_18 rfl ?_
  refine kJ9_min_7cf53 (pc := 21) (hf := rfl) tw_4_129 ⟨nle rfl, nle rfl⟩ (nle rfl) dX3_greatestMargin_21 ?_
  exact l_opi hr (r_iret (pc := 24) (v := (fJ9_min_7cf53 σ0 v2 (200 : Int32))) rfl rfl ⟨Nat.le_refl _, Nat.le_refl _⟩ dX3_greatestMargin_24)

theorem kX3_greatestMargin {g : GG} {σ0 : SS} {a1 : Int32} {v : Int32} {M : MM} {F : State → Array Value → List Frame → State → Prop} {pc index : Nat} {ls : List (Nat × Value)} {rest : List Value} (hf : fX3_greatestMargin σ0 a1 = some v)  (hl : Cond.methodLink M.1.cls index yX3_greatestMargin ∈ lw_gt) (hR : mX3_greatestMargin.2.2.2.2.frames + 1 ≤ M.2.2.2.2.frames ∧ 8 + (mX3_greatestMargin.2.2.1 + 11) + mX3_greatestMargin.2.2.2.2.locals ≤ M.2.2.2.2.locals) (hrest : (rest.map fun v => v.category).sum ≤ 8) (hd : decode M.2.1 pc = .ok (.invokevirtual index, 3)) (k : RR g M F zF (pc + 3) ls (.int v :: rest) σ0) : RR g M F zF pc ls (.int a1 :: .ref (ad g 31) :: rest) σ0 :=
  r_callV (N := mX3_greatestMargin) (nn := 1) (o1 := some (.int v)) (sX3_greatestMargin hf ) (rfl : shp 31 = (3, 0)) (by decide) (shp_le (rfl : shp 31 = (3, 0)) (nle rfl)) (ci := 3) rfl rfl tw_4_210 tw_1_5 hl tw_4_208 tw_4_209 ⟨by decide, by decide, rfl⟩ hR rfl hrest hd ⟨Nat.zero_le _, Nat.zero_le _⟩ rfl (fun h => k)

theorem dX7_steady_0 : decode cX7_steady 0 = .ok (.aload_n 0, 1) := by decide +kernel
theorem dX7_steady_1 : decode cX7_steady 1 = .ok (.getfield 32, 3) := by decide +kernel
theorem dX7_steady_4 : decode cX7_steady 4 = .ok (.iload_n 1, 1) := by decide +kernel
theorem dX7_steady_5 : decode cX7_steady 5 = .ok (.invokevirtual 121, 3) := by decide +kernel
theorem dX7_steady_8 : decode cX7_steady 8 = .ok (.ifCond .eq 12, 3) := by decide +kernel
theorem dX7_steady_11 : decode cX7_steady 11 = .ok (.iload_n 2, 1) := by decide +kernel
theorem dX7_steady_12 : decode cX7_steady 12 = .ok (.ifCond .lt 8, 3) := by decide +kernel
theorem dX7_steady_15 : decode cX7_steady 15 = .ok (.iload_n 2, 1) := by decide +kernel
theorem dX7_steady_16 : decode cX7_steady 16 = .ok (.iconst 1, 1) := by decide +kernel
theorem dX7_steady_17 : decode cX7_steady 17 = .ok (.if_icmp .le 5, 3) := by decide +kernel
theorem dX7_steady_20 : decode cX7_steady 20 = .ok (.iconst (-1), 1) := by decide +kernel
theorem dX7_steady_21 : decode cX7_steady 21 = .ok (.ireturn, 1) := by decide +kernel
theorem dX7_steady_22 : decode cX7_steady 22 = .ok (.aload_n 0, 1) := by decide +kernel
theorem dX7_steady_23 : decode cX7_steady 23 = .ok (.getfield 62, 3) := by decide +kernel
theorem dX7_steady_26 : decode cX7_steady 26 = .ok (.aload_n 0, 1) := by decide +kernel
theorem dX7_steady_27 : decode cX7_steady 27 = .ok (.getfield 18, 3) := by decide +kernel
theorem dX7_steady_30 : decode cX7_steady 30 = .ok (.aload_n 0, 1) := by decide +kernel
theorem dX7_steady_31 : decode cX7_steady 31 = .ok (.getfield 32, 3) := by decide +kernel
theorem dX7_steady_34 : decode cX7_steady 34 = .ok (.invokevirtual 303, 3) := by decide +kernel
theorem dX7_steady_37 : decode cX7_steady 37 = .ok (.ifCond .ne 6, 3) := by decide +kernel
theorem dX7_steady_40 : decode cX7_steady 40 = .ok (.bipush (-2), 2) := by decide +kernel
theorem dX7_steady_42 : decode cX7_steady 42 = .ok (.ireturn, 1) := by decide +kernel
theorem dX7_steady_43 : decode cX7_steady 43 = .ok (.iload_n 2, 1) := by decide +kernel
theorem dX7_steady_44 : decode cX7_steady 44 = .ok (.ifCond .ne 14, 3) := by decide +kernel
theorem dX7_steady_47 : decode cX7_steady 47 = .ok (.aload_n 0, 1) := by decide +kernel
theorem dX7_steady_48 : decode cX7_steady 48 = .ok (.getfield 62, 3) := by decide +kernel
theorem dX7_steady_51 : decode cX7_steady 51 = .ok (.iload_n 1, 1) := by decide +kernel
theorem dX7_steady_52 : decode cX7_steady 52 = .ok (.invokevirtual 341, 3) := by decide +kernel
theorem dX7_steady_55 : decode cX7_steady 55 = .ok (.goto 11, 3) := by decide +kernel
theorem dX7_steady_58 : decode cX7_steady 58 = .ok (.aload_n 0, 1) := by decide +kernel
theorem dX7_steady_59 : decode cX7_steady 59 = .ok (.getfield 62, 3) := by decide +kernel
theorem dX7_steady_62 : decode cX7_steady 62 = .ok (.iload_n 1, 1) := by decide +kernel
theorem dX7_steady_63 : decode cX7_steady 63 = .ok (.invokevirtual 344, 3) := by decide +kernel
theorem dX7_steady_66 : decode cX7_steady 66 = .ok (.ireturn, 1) := by decide +kernel
def mX7_steady : MM := (yX7_steady, cX7_steady, 3, Option.some Jvm.ClassFile.FieldType.int, { frames := 6, cells := 0, slots := 0, locals := 148 })
def fX7_steady (σ : SS) (a1 : Int32) (a2 : Int32) : Option (Int32 × SS) :=
  if (fX1_hasQuestion σ (gR σ 1 5) a1) = true then (
    if a2 < 0 then (
      some ((-1 : Int32), σ)
      ) else (
      if a2 ≤ (1 : Int32) then (
        bnd (fX3_read σ (gR σ 1 2) (gR σ 1 5)) fun b2 σ4 =>
        if b2 = true then (
          if a2 = 0 then (
            bnd1 (fX3_leastMargin σ4 a1) fun v8 =>
            some (v8, σ4)
            ) else (
            bnd1 (fX3_greatestMargin σ4 a1) fun v5 =>
            some (v5, σ4)
            )
          ) else (
          some ((-2 : Int32), σ4)
          )
        ) else (
        some ((-1 : Int32), σ)
        )
      )
    ) else (
    some ((-1 : Int32), σ)
    )

set_option maxRecDepth 20000 in
theorem sX7_steady {g : GG} {σ : SS} {a1 : Int32} {a2 : Int32} {r : Int32 × SS} (hr : fX7_steady σ a1 a2 = some r)  : Ct g mX7_steady [.ref (ad g 1), .int a1, .int a2] NF σ (some (.int r.1)) NF r.2 := by
  refine Ct.of (by decide +kernel) (nle rfl) fun hw0 => ?_
  have hw := hw0 rfl
  unfold fX7_steady at hr
  change RR g mX7_steady (FinR g mX7_steady (some (.int r.1)) NF r.2) zF 0 [(0, .ref (ad g 1)), (1, .int a1), (2, .int a2)] [] σ
  refine r_aload_n (pc := 0) (j := 0) dX7_steady_0 rfl rfl ?_
  refine gf7_5 (pc := 1) tw_2_114 hw dX7_steady_1 ?_
  refine r_iload_n (pc := 4) (j := 1) dX7_steady_4 rfl rfl ?_
  refine kX1_hasQuestion (pc := 5) (hf := rfl) (wt_fo hw).1 tw_3_87 ⟨nle rfl, nle rfl⟩ (nle rfl) dX7_steady_5 ?_
  refine r_ifB_eq (pc := 8) (tgt := 20) dX7_steady_8 rfl (fun hc => ?_) (fun hc => ?_)
  · replace hr := ite_f hc hr
    refine r_iconst (pc := 20) (v := (-1 : Int32)) dX7_steady_20 rfl ?_
    exact l_osi hr (r_iret (pc := 21) (v := (-1 : Int32)) rfl rfl ⟨Nat.le_refl _, Nat.le_refl _⟩ dX7_steady_21)
  replace hr := ite_t hc hr
  refine r_iload_n (pc := 11) (j := 2) dX7_steady_11 rfl rfl ?_
  refine r_if_lt (pc := 12) (tgt := 20) dX7_steady_12 rfl (fun hc => ?_) (fun hc => ?_)
  · replace hr := ite_t hc hr
    refine r_iconst (pc := 20) (v := (-1 : Int32)) dX7_steady_20 rfl ?_
    exact l_osi hr (r_iret (pc := 21) (v := (-1 : Int32)) rfl rfl ⟨Nat.le_refl _, Nat.le_refl _⟩ dX7_steady_21)
  replace hr := ite_f hc hr
  refine r_iload_n (pc := 15) (j := 2) dX7_steady_15 rfl rfl ?_
  refine r_iconst (pc := 16) (v := (1 : Int32)) dX7_steady_16 rfl ?_
  refine r_icmp_le (pc := 17) (tgt := 22) dX7_steady_17 rfl (fun hc => ?_) (fun hc => ?_)
  · replace hr := ite_t hc hr
    refine r_aload_n (pc := 22) (j := 0) dX7_steady_22 rfl rfl ?_
    refine gf7_12 (pc := 23) tw_2_121 hw dX7_steady_23 ?_
    refine r_aload_n (pc := 26) (j := 0) dX7_steady_26 rfl rfl ?_
    refine gf7_2 (pc := 27) tw_2_111 hw dX7_steady_27 ?_
    refine r_aload_n (pc := 30) (j := 0) dX7_steady_30 rfl rfl ?_
    refine gf7_5 (pc := 31) tw_2_114 hw dX7_steady_31 ?_
    obtain ⟨b2, σ4, eσ4, hr⟩ := bnd_inv hr
    refine kX3_read (pc := 34) eσ4 (wt_sc hw).1 (wt_fo hw).1 tw_4_135 ⟨nle rfl, nle rfl⟩ (nle rfl) dX7_steady_34 fun hσ4 => ?_
    refine r_ifB_ne (pc := 37) (tgt := 43) dX7_steady_37 rfl (fun hc => ?_) (fun hc => ?_)
    · replace hr := ite_t hc hr
      refine r_iload_n (pc := 43) (j := 2) dX7_steady_43 rfl rfl ?_
      refine r_if_ne (pc := 44) (tgt := 58) dX7_steady_44 rfl (fun hc => ?_) (fun hc => ?_)
      · replace hr := ite_f hc hr
        refine r_aload_n (pc := 58) (j := 0) dX7_steady_58 rfl rfl ?_
        refine gf7_12 (pc := 59) tw_2_121 hσ4 dX7_steady_59 ?_
        refine r_iload_n (pc := 62) (j := 1) dX7_steady_62 rfl rfl ?_
        obtain ⟨v5, hv5, hr⟩ := bnd1_inv hr
        refine kX3_greatestMargin (pc := 63) hv5 tw_4_207 ⟨nle rfl, nle rfl⟩ (nle rfl) dX7_steady_63 ?_
        exact l_osi hr (r_iret (pc := 66) (v := v5) rfl rfl ⟨Nat.le_refl _, Nat.le_refl _⟩ dX7_steady_66)
      replace hr := ite_t hc hr
      refine r_aload_n (pc := 47) (j := 0) dX7_steady_47 rfl rfl ?_
      refine gf7_12 (pc := 48) tw_2_121 hσ4 dX7_steady_48 ?_
      refine r_iload_n (pc := 51) (j := 1) dX7_steady_51 rfl rfl ?_
      obtain ⟨v8, hv8, hr⟩ := bnd1_inv hr
      refine kX3_leastMargin (pc := 52) hv8 tw_4_203 ⟨nle rfl, nle rfl⟩ (nle rfl) dX7_steady_52 ?_
      refine r_goto (pc := 55) (tgt := 66) dX7_steady_55 rfl ?_
      exact l_osi hr (r_iret (pc := 66) (v := v8) rfl rfl ⟨Nat.le_refl _, Nat.le_refl _⟩ dX7_steady_66)
    replace hr := ite_f hc hr
    refine r_bipush (pc := 40) (v := (-2 : Int32)) dX7_steady_40 rfl ?_
    exact l_osi hr (r_iret (pc := 42) (v := (-2 : Int32)) rfl rfl ⟨Nat.le_refl _, Nat.le_refl _⟩ dX7_steady_42)
  replace hr := ite_f hc hr
  refine r_iconst (pc := 20) (v := (-1 : Int32)) dX7_steady_20 rfl ?_
  exact l_osi hr (r_iret (pc := 21) (v := (-1 : Int32)) rfl rfl ⟨Nat.le_refl _, Nat.le_refl _⟩ dX7_steady_21)

theorem kX7_steady {g : GG} {σ : SS} {a1 : Int32} {a2 : Int32} {v : Int32} {σ2 : SS} {M : MM} {F : State → Array Value → List Frame → State → Prop} {pc index : Nat} {ls : List (Nat × Value)} {rest : List Value} (hf : fX7_steady σ a1 a2 = some (v, σ2))  (hl : Cond.methodLink M.1.cls index yX7_steady ∈ lw_gt) (hR : mX7_steady.2.2.2.2.frames + 1 ≤ M.2.2.2.2.frames ∧ 8 + (mX7_steady.2.2.1 + 11) + mX7_steady.2.2.2.2.locals ≤ M.2.2.2.2.locals) (hrest : (rest.map fun v => v.category).sum ≤ 8) (hd : decode M.2.1 pc = .ok (.invokevirtual index, 3)) (k : WT σ2 → RR g M F zF (pc + 3) ls (.int v :: rest) σ2) : RR g M F zF pc ls (.int a2 :: .int a1 :: .ref (ad g 1) :: rest) σ :=
  r_callV (N := mX7_steady) (nn := 2) (o1 := some (.int v)) (sX7_steady hf ) (rfl : shp 1 = (7, 0)) (by decide) (shp_le (rfl : shp 1 = (7, 0)) (nle rfl)) (ci := 7) rfl rfl tw_4_202 tw_1_1 hl tw_4_200 tw_4_201 ⟨by decide, by decide, rfl⟩ hR rfl hrest hd ⟨Nat.zero_le _, Nat.zero_le _⟩ rfl (fun h => k (h rfl))

theorem dX8_steady_0 : decode cX8_steady 0 = .ok (.aload_n 0, 1) := by decide +kernel
theorem dX8_steady_1 : decode cX8_steady 1 = .ok (.iload_n 1, 1) := by decide +kernel
theorem dX8_steady_2 : decode cX8_steady 2 = .ok (.invokevirtual 269, 3) := by decide +kernel
theorem dX8_steady_5 : decode cX8_steady 5 = .ok (.ifCond .eq 12, 3) := by decide +kernel
theorem dX8_steady_8 : decode cX8_steady 8 = .ok (.iload_n 2, 1) := by decide +kernel
theorem dX8_steady_9 : decode cX8_steady 9 = .ok (.iconst 0, 1) := by decide +kernel
theorem dX8_steady_10 : decode cX8_steady 10 = .ok (.iconst 1, 1) := by decide +kernel
theorem dX8_steady_11 : decode cX8_steady 11 = .ok (.invokestatic 165, 3) := by decide +kernel
theorem dX8_steady_14 : decode cX8_steady 14 = .ok (.ifCond .ne 5, 3) := by decide +kernel
theorem dX8_steady_17 : decode cX8_steady 17 = .ok (.iconst (-1), 1) := by decide +kernel
theorem dX8_steady_18 : decode cX8_steady 18 = .ok (.ireturn, 1) := by decide +kernel
theorem dX8_steady_19 : decode cX8_steady 19 = .ok (.aload_n 0, 1) := by decide +kernel
theorem dX8_steady_20 : decode cX8_steady 20 = .ok (.invokevirtual 373, 3) := by decide +kernel
theorem dX8_steady_23 : decode cX8_steady 23 = .ok (.ifCond .ne 6, 3) := by decide +kernel
theorem dX8_steady_26 : decode cX8_steady 26 = .ok (.bipush (-2), 2) := by decide +kernel
theorem dX8_steady_28 : decode cX8_steady 28 = .ok (.ireturn, 1) := by decide +kernel
theorem dX8_steady_29 : decode cX8_steady 29 = .ok (.aload_n 0, 1) := by decide +kernel
theorem dX8_steady_30 : decode cX8_steady 30 = .ok (.iload_n 1, 1) := by decide +kernel
theorem dX8_steady_31 : decode cX8_steady 31 = .ok (.aload_n 0, 1) := by decide +kernel
theorem dX8_steady_32 : decode cX8_steady 32 = .ok (.getfield 53, 3) := by decide +kernel
theorem dX8_steady_35 : decode cX8_steady 35 = .ok (.iconst 3, 1) := by decide +kernel
theorem dX8_steady_36 : decode cX8_steady 36 = .ok (.iaload, 1) := by decide +kernel
theorem dX8_steady_37 : decode cX8_steady 37 = .ok (.invokevirtual 401, 3) := by decide +kernel
theorem dX8_steady_40 : decode cX8_steady 40 = .ok (.aload_n 0, 1) := by decide +kernel
theorem dX8_steady_41 : decode cX8_steady 41 = .ok (.getfield 385, 3) := by decide +kernel
theorem dX8_steady_44 : decode cX8_steady 44 = .ok (.istore_n 3, 1) := by decide +kernel
theorem dX8_steady_45 : decode cX8_steady 45 = .ok (.aload_n 0, 1) := by decide +kernel
theorem dX8_steady_46 : decode cX8_steady 46 = .ok (.getfield 391, 3) := by decide +kernel
theorem dX8_steady_49 : decode cX8_steady 49 = .ok (.istore 4, 2) := by decide +kernel
theorem dX8_steady_51 : decode cX8_steady 51 = .ok (.iload_n 2, 1) := by decide +kernel
theorem dX8_steady_52 : decode cX8_steady 52 = .ok (.ifCond .ne 7, 3) := by decide +kernel
theorem dX8_steady_55 : decode cX8_steady 55 = .ok (.iconst (-1), 1) := by decide +kernel
theorem dX8_steady_56 : decode cX8_steady 56 = .ok (.goto 4, 3) := by decide +kernel
theorem dX8_steady_59 : decode cX8_steady 59 = .ok (.iconst 1, 1) := by decide +kernel
theorem dX8_steady_60 : decode cX8_steady 60 = .ok (.istore 5, 2) := by decide +kernel
theorem dX8_steady_62 : decode cX8_steady 62 = .ok (.aload_n 0, 1) := by decide +kernel
theorem dX8_steady_63 : decode cX8_steady 63 = .ok (.getfield 53, 3) := by decide +kernel
theorem dX8_steady_66 : decode cX8_steady 66 = .ok (.iconst 3, 1) := by decide +kernel
theorem dX8_steady_67 : decode cX8_steady 67 = .ok (.iaload, 1) := by decide +kernel
theorem dX8_steady_68 : decode cX8_steady 68 = .ok (.istore 6, 2) := by decide +kernel
theorem dX8_steady_70 : decode cX8_steady 70 = .ok (.iconst 1, 1) := by decide +kernel
theorem dX8_steady_71 : decode cX8_steady 71 = .ok (.istore 7, 2) := by decide +kernel
theorem dX8_steady_73 : decode cX8_steady 73 = .ok (.iload 7, 2) := by decide +kernel
theorem dX8_steady_75 : decode cX8_steady 75 = .ok (.ifCond .eq 71, 3) := by decide +kernel
theorem dX8_steady_78 : decode cX8_steady 78 = .ok (.aload_n 0, 1) := by decide +kernel
theorem dX8_steady_79 : decode cX8_steady 79 = .ok (.iload_n 1, 1) := by decide +kernel
theorem dX8_steady_80 : decode cX8_steady 80 = .ok (.iload 6, 2) := by decide +kernel
theorem dX8_steady_82 : decode cX8_steady 82 = .ok (.iload 5, 2) := by decide +kernel
theorem dX8_steady_84 : decode cX8_steady 84 = .ok (.iadd, 1) := by decide +kernel
theorem dX8_steady_85 : decode cX8_steady 85 = .ok (.invokevirtual 401, 3) := by decide +kernel
theorem dX8_steady_88 : decode cX8_steady 88 = .ok (.iload 6, 2) := by decide +kernel
theorem dX8_steady_90 : decode cX8_steady 90 = .ok (.iload 5, 2) := by decide +kernel
theorem dX8_steady_92 : decode cX8_steady 92 = .ok (.iadd, 1) := by decide +kernel
theorem dX8_steady_93 : decode cX8_steady 93 = .ok (.iconst 1, 1) := by decide +kernel
theorem dX8_steady_94 : decode cX8_steady 94 = .ok (.sipush 200, 3) := by decide +kernel
theorem dX8_steady_97 : decode cX8_steady 97 = .ok (.invokestatic 165, 3) := by decide +kernel
theorem dX8_steady_100 : decode cX8_steady 100 = .ok (.ifCond .eq 24, 3) := by decide +kernel
theorem dX8_steady_103 : decode cX8_steady 103 = .ok (.aload_n 0, 1) := by decide +kernel
theorem dX8_steady_104 : decode cX8_steady 104 = .ok (.getfield 385, 3) := by decide +kernel
theorem dX8_steady_107 : decode cX8_steady 107 = .ok (.iload_n 3, 1) := by decide +kernel
theorem dX8_steady_108 : decode cX8_steady 108 = .ok (.if_icmp .ne 16, 3) := by decide +kernel
theorem dX8_steady_111 : decode cX8_steady 111 = .ok (.aload_n 0, 1) := by decide +kernel
theorem dX8_steady_112 : decode cX8_steady 112 = .ok (.getfield 391, 3) := by decide +kernel
theorem dX8_steady_115 : decode cX8_steady 115 = .ok (.iload 4, 2) := by decide +kernel
theorem dX8_steady_117 : decode cX8_steady 117 = .ok (.if_icmp .ne 7, 3) := by decide +kernel
theorem dX8_steady_120 : decode cX8_steady 120 = .ok (.iconst 1, 1) := by decide +kernel
theorem dX8_steady_121 : decode cX8_steady 121 = .ok (.goto 4, 3) := by decide +kernel
theorem dX8_steady_124 : decode cX8_steady 124 = .ok (.iconst 0, 1) := by decide +kernel
theorem dX8_steady_125 : decode cX8_steady 125 = .ok (.istore 7, 2) := by decide +kernel
theorem dX8_steady_127 : decode cX8_steady 127 = .ok (.iload 6, 2) := by decide +kernel
theorem dX8_steady_129 : decode cX8_steady 129 = .ok (.iload 7, 2) := by decide +kernel
theorem dX8_steady_131 : decode cX8_steady 131 = .ok (.ifCond .eq 8, 3) := by decide +kernel
theorem dX8_steady_134 : decode cX8_steady 134 = .ok (.iload 5, 2) := by decide +kernel
theorem dX8_steady_136 : decode cX8_steady 136 = .ok (.goto 4, 3) := by decide +kernel
theorem dX8_steady_139 : decode cX8_steady 139 = .ok (.iconst 0, 1) := by decide +kernel
theorem dX8_steady_140 : decode cX8_steady 140 = .ok (.iadd, 1) := by decide +kernel
theorem dX8_steady_141 : decode cX8_steady 141 = .ok (.istore 6, 2) := by decide +kernel
theorem dX8_steady_143 : decode cX8_steady 143 = .ok (.goto (-70), 3) := by decide +kernel
theorem dX8_steady_146 : decode cX8_steady 146 = .ok (.iload 6, 2) := by decide +kernel
theorem dX8_steady_148 : decode cX8_steady 148 = .ok (.ireturn, 1) := by decide +kernel
def mX8_steady : MM := (yX8_steady, cX8_steady, 8, Option.some Jvm.ClassFile.FieldType.int, { frames := 7, cells := 0, slots := 0, locals := 158 })
def X8_steady_L73 (u1_ : Int32) (u3_ : Int32) (u4_ : Int32) (u5_ : Int32)  : Nat → Int32 → Int32 → SS → Option (Int32 × SS) :=
  lp (fun _ _ _ => none) fun rec v6_ v7_ σ_ =>
    if v7_ = 0 then (
      some (v6_, σ_)
      ) else (
      bnd1 (fX8_judges σ_ u1_ (v6_ + u5_)) fun σ13 =>
      vthen (fun (s14 : Int32) =>
        if s14 = 0 then (
          vthen (v6_ + (0 : Int32)) fun v15 =>
          rec v15 s14 σ13
          ) else (
          vthen (v6_ + u5_) fun v16 =>
          rec v16 s14 σ13
          )
        ) fun j125 =>
      vthen (fun (_u : Unit) =>
        j125 (0 : Int32)
        ) fun j124 =>
      if (fX8_in σ13 (v6_ + u5_) (1 : Int32) (200 : Int32)) = true then (
        if (gI σ13 73 55) = u3_ then (
          if (gI σ13 73 56) = u4_ then (
            j125 (1 : Int32)
            ) else (
            j124 ()
            )
          ) else (
          j124 ()
          )
        ) else (
        j124 ()
        )
      )

def fX8_steady (σ : SS) (a1 : Int32) (a2 : Int32) : Option (Int32 × SS) :=
  bnd1 (fX8_isQuestion σ a1) fun b2 =>
  if b2 = true then (
    if (fX8_in σ a2 (0 : Int32) (1 : Int32)) = true then (
      bnd (fX8_finds σ) fun b5 σ7 =>
      if b5 = true then (
        bnd1 (fX8_judges σ7 a1 (gI σ7 88 3)) fun σ8 =>
        vthen (gI σ8 73 55) fun v9 =>
        vthen (gI σ8 73 56) fun v10 =>
        vthen (fun (s11 : Int32) =>
          vthen (gI σ8 88 3) fun v12 =>
          X8_steady_L73 a1 v9 v10 s11
          fuel v12 (1 : Int32) σ8
          ) fun j60 =>
        if a2 = 0 then (
          j60 (-1 : Int32)
          ) else (
          j60 (1 : Int32)
          )
        ) else (
        some ((-2 : Int32), σ7)
        )
      ) else (
      some ((-1 : Int32), σ)
      )
    ) else (
    some ((-1 : Int32), σ)
    )

set_option maxRecDepth 20000 in
theorem sX8_steady_L73 {g : GG} {r : Int32 × SS} {u1_ : Int32} {u3_ : Int32} {u4_ : Int32} {u5_ : Int32}  
    (n : Nat) : ∀ (v6_ : Int32) (v7_ : Int32) (σ_ : SS), X8_steady_L73 u1_ u3_ u4_ u5_ n v6_ v7_ σ_ = some r → WT σ_ → RR g mX8_steady (FinR g mX8_steady (some (.int r.1)) NF r.2) zF 73 [(0, .ref (ad g 73)), (1, .int u1_), (3, .int u3_), (4, .int u4_), (5, .int u5_), (6, .int v6_), (7, .int v7_)] [] σ_ := by
  unfold X8_steady_L73
  refine lp_ind (P := fun (rec : Int32 → Int32 → SS → Option (Int32 × SS)) => ∀ (v6_ : Int32) (v7_ : Int32) (σ_ : SS), rec v6_ v7_ σ_ = some r → WT σ_ → RR g mX8_steady (FinR g mX8_steady (some (.int r.1)) NF r.2) zF 73 [(0, .ref (ad g 73)), (1, .int u1_), (3, .int u3_), (4, .int u4_), (5, .int u5_), (6, .int v6_), (7, .int v7_)] [] σ_) ?_ ?_ n
  · intro v6_ v7_ σ_ hr; cases hr
  intro rec ih v6_ v7_ σ_ hr hw_
  refine r_iload (pc := 73) (j := 6) dX8_steady_73 rfl ?_
  refine r_if_eq (pc := 75) (tgt := 146) dX8_steady_75 rfl (fun hc => ?_) (fun hc => ?_)
  · replace hr := ite_t hc hr
    refine r_iload (pc := 146) (j := 5) dX8_steady_146 rfl ?_
    exact l_osi hr (r_iret (pc := 148) (v := v6_) rfl rfl ⟨Nat.le_refl _, Nat.le_refl _⟩ dX8_steady_148)
  replace hr := ite_f hc hr
  refine r_aload_n (pc := 78) (j := 0) dX8_steady_78 rfl rfl ?_
  refine r_iload_n (pc := 79) (j := 1) dX8_steady_79 rfl rfl ?_
  refine r_iload (pc := 80) (j := 5) dX8_steady_80 rfl ?_
  refine r_iload (pc := 82) (j := 4) dX8_steady_82 rfl ?_
  refine r_iadd (pc := 84) dX8_steady_84 ?_
  obtain ⟨σ13, eσ13, hr⟩ := bnd1_inv hr
  refine kX8_judges (pc := 85) eσ13 tw_7_107 ⟨nle rfl, nle rfl⟩ (nle rfl) dX8_steady_85 fun hσ13 => ?_
  refine r_iload (pc := 88) (j := 5) dX8_steady_88 rfl ?_
  refine r_iload (pc := 90) (j := 4) dX8_steady_90 rfl ?_
  refine r_iadd (pc := 92) dX8_steady_92 ?_
  refine r_iconst (pc := 93) (v := (1 : Int32)) dX8_steady_93 rfl ?_
  refine r_sipush (pc := 94) (v := (200 : Int32)) dX8_steady_94 rfl ?_
  refine kX8_in (pc := 97) (hf := rfl) tw_6_65 ⟨nle rfl, nle rfl⟩ (nle rfl) dX8_steady_97 ?_
  obtain ⟨j125, ej125, hr⟩ := vth_ex hr
  have hj125 : ∀ (s14 : Int32), j125 s14 = some r → RR g mX8_steady (FinR g mX8_steady (some (.int r.1)) NF r.2) zF 125 [(0, .ref (ad g 73)), (1, .int u1_), (3, .int u3_), (4, .int u4_), (5, .int u5_), (6, .int v6_)] [.int s14] σ13 := by
    intro s14 hr
    replace hr := (congrFun ej125 s14).symm.trans hr
    refine r_istore (pc := 125) (ls1 := [(7, .int s14), (0, .ref (ad g 73)), (1, .int u1_), (3, .int u3_), (4, .int u4_), (5, .int u5_), (6, .int v6_)]) dX8_steady_125 (nle rfl) rfl ?_
    refine r_iload (pc := 127) (j := 6) dX8_steady_127 rfl ?_
    refine r_iload (pc := 129) (j := 0) dX8_steady_129 rfl ?_
    refine r_if_eq (pc := 131) (tgt := 139) dX8_steady_131 rfl (fun hc => ?_) (fun hc => ?_)
    · replace hr := ite_t hc hr
      refine r_iconst (pc := 139) (v := (0 : Int32)) dX8_steady_139 rfl ?_
      refine r_iadd (pc := 140) dX8_steady_140 ?_
      refine r_topi fun v15 ev15 => ?_
      replace hr := vthen_inv hr v15 ev15
      refine r_istore (pc := 141) (ls1 := [(6, .int v15), (7, .int s14), (0, .ref (ad g 73)), (1, .int u1_), (3, .int u3_), (4, .int u4_), (5, .int u5_)]) dX8_steady_141 (nle rfl) rfl ?_
      refine r_goto (pc := 143) (tgt := 73) dX8_steady_143 rfl ?_
      exact r_pick (ls1 := [(0, .ref (ad g 73)), (1, .int u1_), (3, .int u3_), (4, .int u4_), (5, .int u5_), (6, .int v15), (7, .int s14)]) [2, 3, 4, 5, 6, 0, 1] rfl (ih v15 s14 σ13 hr hσ13)
    replace hr := ite_f hc hr
    refine r_iload (pc := 134) (j := 5) dX8_steady_134 rfl ?_
    refine r_goto (pc := 136) (tgt := 140) dX8_steady_136 rfl ?_
    refine r_iadd (pc := 140) dX8_steady_140 ?_
    refine r_topi fun v16 ev16 => ?_
    replace hr := vthen_inv hr v16 ev16
    refine r_istore (pc := 141) (ls1 := [(6, .int v16), (7, .int s14), (0, .ref (ad g 73)), (1, .int u1_), (3, .int u3_), (4, .int u4_), (5, .int u5_)]) dX8_steady_141 (nle rfl) rfl ?_
    refine r_goto (pc := 143) (tgt := 73) dX8_steady_143 rfl ?_
    exact r_pick (ls1 := [(0, .ref (ad g 73)), (1, .int u1_), (3, .int u3_), (4, .int u4_), (5, .int u5_), (6, .int v16), (7, .int s14)]) [2, 3, 4, 5, 6, 0, 1] rfl (ih v16 s14 σ13 hr hσ13)
  obtain ⟨j124, ej124, hr⟩ := vth_ex hr
  have hj124 : j124 () = some r → RR g mX8_steady (FinR g mX8_steady (some (.int r.1)) NF r.2) zF 124 [(0, .ref (ad g 73)), (1, .int u1_), (3, .int u3_), (4, .int u4_), (5, .int u5_), (6, .int v6_)] [] σ13 := by
    intro  hr
    replace hr := (congrFun ej124 ()).symm.trans hr
    refine r_iconst (pc := 124) (v := (0 : Int32)) dX8_steady_124 rfl ?_
    exact r_pick (ls1 := [(0, .ref (ad g 73)), (1, .int u1_), (3, .int u3_), (4, .int u4_), (5, .int u5_), (6, .int v6_)]) [0, 1, 2, 3, 4, 5] rfl (hj125 (0 : Int32) hr)
  refine r_ifB_eq (pc := 100) (tgt := 124) dX8_steady_100 rfl (fun hc => ?_) (fun hc => ?_)
  · replace hr := ite_f hc hr
    exact r_pick (ls1 := [(0, .ref (ad g 73)), (1, .int u1_), (3, .int u3_), (4, .int u4_), (5, .int u5_), (6, .int v6_)]) [0, 1, 2, 3, 4, 5] rfl (hj124  hr)
  replace hr := ite_t hc hr
  refine r_aload_n (pc := 103) (j := 0) dX8_steady_103 rfl rfl ?_
  refine gf8_55 (pc := 104) tw_5_149 rfl dX8_steady_104 ?_
  refine r_iload_n (pc := 107) (j := 2) dX8_steady_107 rfl rfl ?_
  refine r_icmp_ne (pc := 108) (tgt := 124) dX8_steady_108 rfl (fun hc => ?_) (fun hc => ?_)
  · replace hr := ite_f hc hr
    exact r_pick (ls1 := [(0, .ref (ad g 73)), (1, .int u1_), (3, .int u3_), (4, .int u4_), (5, .int u5_), (6, .int v6_)]) [0, 1, 2, 3, 4, 5] rfl (hj124  hr)
  replace hr := ite_t hc hr
  refine r_aload_n (pc := 111) (j := 0) dX8_steady_111 rfl rfl ?_
  refine gf8_56 (pc := 112) tw_5_150 rfl dX8_steady_112 ?_
  refine r_iload (pc := 115) (j := 3) dX8_steady_115 rfl ?_
  refine r_icmp_ne (pc := 117) (tgt := 124) dX8_steady_117 rfl (fun hc => ?_) (fun hc => ?_)
  · replace hr := ite_f hc hr
    exact r_pick (ls1 := [(0, .ref (ad g 73)), (1, .int u1_), (3, .int u3_), (4, .int u4_), (5, .int u5_), (6, .int v6_)]) [0, 1, 2, 3, 4, 5] rfl (hj124  hr)
  replace hr := ite_t hc hr
  refine r_iconst (pc := 120) (v := (1 : Int32)) dX8_steady_120 rfl ?_
  refine r_goto (pc := 121) (tgt := 125) dX8_steady_121 rfl ?_
  exact r_pick (ls1 := [(0, .ref (ad g 73)), (1, .int u1_), (3, .int u3_), (4, .int u4_), (5, .int u5_), (6, .int v6_)]) [0, 1, 2, 3, 4, 5] rfl (hj125 (1 : Int32) hr)

set_option maxRecDepth 20000 in
theorem sX8_steady {g : GG} {σ : SS} {a1 : Int32} {a2 : Int32} {r : Int32 × SS} (hr : fX8_steady σ a1 a2 = some r)  : Ct g mX8_steady [.ref (ad g 73), .int a1, .int a2] NF σ (some (.int r.1)) NF r.2 := by
  refine Ct.of (by decide +kernel) (nle rfl) fun hw0 => ?_
  have hw := hw0 rfl
  unfold fX8_steady at hr
  change RR g mX8_steady (FinR g mX8_steady (some (.int r.1)) NF r.2) zF 0 [(0, .ref (ad g 73)), (1, .int a1), (2, .int a2)] [] σ
  refine r_aload_n (pc := 0) (j := 0) dX8_steady_0 rfl rfl ?_
  refine r_iload_n (pc := 1) (j := 1) dX8_steady_1 rfl rfl ?_
  obtain ⟨b2, hb2, hr⟩ := bnd1_inv hr
  refine kX8_isQuestion (pc := 2) hb2 tw_6_141 ⟨nle rfl, nle rfl⟩ (nle rfl) dX8_steady_2 ?_
  refine r_ifB_eq (pc := 5) (tgt := 17) dX8_steady_5 rfl (fun hc => ?_) (fun hc => ?_)
  · replace hr := ite_f hc hr
    refine r_iconst (pc := 17) (v := (-1 : Int32)) dX8_steady_17 rfl ?_
    exact l_osi hr (r_iret (pc := 18) (v := (-1 : Int32)) rfl rfl ⟨Nat.le_refl _, Nat.le_refl _⟩ dX8_steady_18)
  replace hr := ite_t hc hr
  refine r_iload_n (pc := 8) (j := 2) dX8_steady_8 rfl rfl ?_
  refine r_iconst (pc := 9) (v := (0 : Int32)) dX8_steady_9 rfl ?_
  refine r_iconst (pc := 10) (v := (1 : Int32)) dX8_steady_10 rfl ?_
  refine kX8_in (pc := 11) (hf := rfl) tw_6_65 ⟨nle rfl, nle rfl⟩ (nle rfl) dX8_steady_11 ?_
  refine r_ifB_ne (pc := 14) (tgt := 19) dX8_steady_14 rfl (fun hc => ?_) (fun hc => ?_)
  · replace hr := ite_t hc hr
    refine r_aload_n (pc := 19) (j := 0) dX8_steady_19 rfl rfl ?_
    obtain ⟨b5, σ7, eσ7, hr⟩ := bnd_inv hr
    refine kX8_finds (pc := 20) eσ7 tw_7_94 ⟨nle rfl, nle rfl⟩ (nle rfl) dX8_steady_20 fun hσ7 => ?_
    refine r_ifB_ne (pc := 23) (tgt := 29) dX8_steady_23 rfl (fun hc => ?_) (fun hc => ?_)
    · replace hr := ite_t hc hr
      refine r_aload_n (pc := 29) (j := 0) dX8_steady_29 rfl rfl ?_
      refine r_iload_n (pc := 30) (j := 1) dX8_steady_30 rfl rfl ?_
      refine r_aload_n (pc := 31) (j := 0) dX8_steady_31 rfl rfl ?_
      refine gf8_26 (pc := 32) tw_5_120 hσ7 dX8_steady_32 ?_
      refine r_iconst (pc := 35) (v := (3 : Int32)) dX8_steady_35 rfl ?_
      refine x_iald (pc := 36) (k := 3) rfl (by decide) rfl dX8_steady_36 ?_
      obtain ⟨σ8, eσ8, hr⟩ := bnd1_inv hr
      refine kX8_judges (pc := 37) eσ8 tw_7_107 ⟨nle rfl, nle rfl⟩ (nle rfl) dX8_steady_37 fun hσ8 => ?_
      refine r_aload_n (pc := 40) (j := 0) dX8_steady_40 rfl rfl ?_
      refine gf8_55 (pc := 41) tw_5_149 rfl dX8_steady_41 ?_
      refine r_topi fun v9 ev9 => ?_
      replace hr := vthen_inv hr v9 ev9
      refine r_istore_n (pc := 44) (ls1 := [(3, .int v9), (0, .ref (ad g 73)), (1, .int a1), (2, .int a2)]) dX8_steady_44 rfl (nle rfl) rfl ?_
      refine r_aload_n (pc := 45) (j := 1) dX8_steady_45 rfl rfl ?_
      refine gf8_56 (pc := 46) tw_5_150 rfl dX8_steady_46 ?_
      refine r_topi fun v10 ev10 => ?_
      replace hr := vthen_inv hr v10 ev10
      refine r_istore (pc := 49) (ls1 := [(4, .int v10), (3, .int v9), (0, .ref (ad g 73)), (1, .int a1), (2, .int a2)]) dX8_steady_49 (nle rfl) rfl ?_
      refine r_iload_n (pc := 51) (j := 4) dX8_steady_51 rfl rfl ?_
      obtain ⟨j60, ej60, hr⟩ := vth_ex hr
      have hj60 : ∀ (s11 : Int32), j60 s11 = some r → RR g mX8_steady (FinR g mX8_steady (some (.int r.1)) NF r.2) zF 60 [(0, .ref (ad g 73)), (1, .int a1), (3, .int v9), (4, .int v10)] [.int s11] σ8 := by
        intro s11 hr
        replace hr := (congrFun ej60 s11).symm.trans hr
        refine r_istore (pc := 60) (ls1 := [(5, .int s11), (0, .ref (ad g 73)), (1, .int a1), (3, .int v9), (4, .int v10)]) dX8_steady_60 (nle rfl) rfl ?_
        refine r_aload_n (pc := 62) (j := 1) dX8_steady_62 rfl rfl ?_
        refine gf8_26 (pc := 63) tw_5_120 hσ8 dX8_steady_63 ?_
        refine r_iconst (pc := 66) (v := (3 : Int32)) dX8_steady_66 rfl ?_
        refine x_iald (pc := 67) (k := 3) rfl (by decide) rfl dX8_steady_67 ?_
        refine r_topi fun v12 ev12 => ?_
        replace hr := vthen_inv hr v12 ev12
        refine r_istore (pc := 68) (ls1 := [(6, .int v12), (5, .int s11), (0, .ref (ad g 73)), (1, .int a1), (3, .int v9), (4, .int v10)]) dX8_steady_68 (nle rfl) rfl ?_
        refine r_iconst (pc := 70) (v := (1 : Int32)) dX8_steady_70 rfl ?_
        refine r_istore (pc := 71) (ls1 := [(7, .int (1 : Int32)), (6, .int v12), (5, .int s11), (0, .ref (ad g 73)), (1, .int a1), (3, .int v9), (4, .int v10)]) dX8_steady_71 (nle rfl) rfl ?_
        refine r_pick (ls1 := [(0, .ref (ad g 73)), (1, .int a1), (3, .int v9), (4, .int v10), (5, .int s11), (6, .int v12), (7, .int (1 : Int32))]) [3, 4, 5, 6, 2, 1, 0] rfl ?_
        refine sX8_steady_L73     fuel v12 (1 : Int32) σ8 hr hσ8
      refine r_if_ne (pc := 52) (tgt := 59) dX8_steady_52 rfl (fun hc => ?_) (fun hc => ?_)
      · replace hr := ite_f hc hr
        refine r_iconst (pc := 59) (v := (1 : Int32)) dX8_steady_59 rfl ?_
        exact r_pick (ls1 := [(0, .ref (ad g 73)), (1, .int a1), (3, .int v9), (4, .int v10)]) [2, 3, 1, 0] rfl (hj60 (1 : Int32) hr)
      replace hr := ite_t hc hr
      refine r_iconst (pc := 55) (v := (-1 : Int32)) dX8_steady_55 rfl ?_
      refine r_goto (pc := 56) (tgt := 60) dX8_steady_56 rfl ?_
      exact r_pick (ls1 := [(0, .ref (ad g 73)), (1, .int a1), (3, .int v9), (4, .int v10)]) [2, 3, 1, 0] rfl (hj60 (-1 : Int32) hr)
    replace hr := ite_f hc hr
    refine r_bipush (pc := 26) (v := (-2 : Int32)) dX8_steady_26 rfl ?_
    exact l_osi hr (r_iret (pc := 28) (v := (-2 : Int32)) rfl rfl ⟨Nat.le_refl _, Nat.le_refl _⟩ dX8_steady_28)
  replace hr := ite_f hc hr
  refine r_iconst (pc := 17) (v := (-1 : Int32)) dX8_steady_17 rfl ?_
  exact l_osi hr (r_iret (pc := 18) (v := (-1 : Int32)) rfl rfl ⟨Nat.le_refl _, Nat.le_refl _⟩ dX8_steady_18)

theorem kX8_steady {g : GG} {σ : SS} {a1 : Int32} {a2 : Int32} {v : Int32} {σ2 : SS} {M : MM} {F : State → Array Value → List Frame → State → Prop} {pc index : Nat} {ls : List (Nat × Value)} {rest : List Value} (hf : fX8_steady σ a1 a2 = some (v, σ2))  (hl : Cond.methodLink M.1.cls index yX8_steady ∈ lw_gt) (hR : mX8_steady.2.2.2.2.frames + 1 ≤ M.2.2.2.2.frames ∧ 8 + (mX8_steady.2.2.1 + 11) + mX8_steady.2.2.2.2.locals ≤ M.2.2.2.2.locals) (hrest : (rest.map fun v => v.category).sum ≤ 8) (hd : decode M.2.1 pc = .ok (.invokevirtual index, 3)) (k : WT σ2 → RR g M F zF (pc + 3) ls (.int v :: rest) σ2) : RR g M F zF pc ls (.int a2 :: .int a1 :: .ref (ad g 73) :: rest) σ :=
  r_callV (N := mX8_steady) (nn := 2) (o1 := some (.int v)) (sX8_steady hf ) (rfl : shp 73 = (8, 0)) (by decide) (shp_le (rfl : shp 73 = (8, 0)) (nle rfl)) (ci := 8) rfl rfl tw_7_154 tw_1_10 hl tw_7_152 tw_7_153 ⟨by decide, by decide, rfl⟩ hR rfl hrest hd ⟨Nat.zero_le _, Nat.zero_le _⟩ rfl (fun h => k (h rfl))

theorem dX7_corner_0 : decode cX7_corner 0 = .ok (.iload_n 1, 1) := by decide +kernel
theorem dX7_corner_1 : decode cX7_corner 1 = .ok (.ifCond .lt 28, 3) := by decide +kernel
theorem dX7_corner_4 : decode cX7_corner 4 = .ok (.iload_n 1, 1) := by decide +kernel
theorem dX7_corner_5 : decode cX7_corner 5 = .ok (.iconst 4, 1) := by decide +kernel
theorem dX7_corner_6 : decode cX7_corner 6 = .ok (.if_icmp .ge 23, 3) := by decide +kernel
theorem dX7_corner_9 : decode cX7_corner 9 = .ok (.iload_n 2, 1) := by decide +kernel
theorem dX7_corner_10 : decode cX7_corner 10 = .ok (.ifCond .lt 19, 3) := by decide +kernel
theorem dX7_corner_13 : decode cX7_corner 13 = .ok (.iload_n 2, 1) := by decide +kernel
theorem dX7_corner_14 : decode cX7_corner 14 = .ok (.bipush 40, 2) := by decide +kernel
theorem dX7_corner_16 : decode cX7_corner 16 = .ok (.if_icmp .ge 13, 3) := by decide +kernel
theorem dX7_corner_19 : decode cX7_corner 19 = .ok (.iload_n 3, 1) := by decide +kernel
theorem dX7_corner_20 : decode cX7_corner 20 = .ok (.ifCond .lt 9, 3) := by decide +kernel
theorem dX7_corner_23 : decode cX7_corner 23 = .ok (.iload_n 3, 1) := by decide +kernel
theorem dX7_corner_24 : decode cX7_corner 24 = .ok (.bipush 40, 2) := by decide +kernel
theorem dX7_corner_26 : decode cX7_corner 26 = .ok (.if_icmp .lt 5, 3) := by decide +kernel
theorem dX7_corner_29 : decode cX7_corner 29 = .ok (.iconst 0, 1) := by decide +kernel
theorem dX7_corner_30 : decode cX7_corner 30 = .ok (.ireturn, 1) := by decide +kernel
theorem dX7_corner_31 : decode cX7_corner 31 = .ok (.aload_n 0, 1) := by decide +kernel
theorem dX7_corner_32 : decode cX7_corner 32 = .ok (.getfield 50, 3) := by decide +kernel
theorem dX7_corner_35 : decode cX7_corner 35 = .ok (.iload_n 1, 1) := by decide +kernel
theorem dX7_corner_36 : decode cX7_corner 36 = .ok (.iload_n 2, 1) := by decide +kernel
theorem dX7_corner_37 : decode cX7_corner 37 = .ok (.iastore, 1) := by decide +kernel
theorem dX7_corner_38 : decode cX7_corner 38 = .ok (.aload_n 0, 1) := by decide +kernel
theorem dX7_corner_39 : decode cX7_corner 39 = .ok (.getfield 53, 3) := by decide +kernel
theorem dX7_corner_42 : decode cX7_corner 42 = .ok (.iload_n 1, 1) := by decide +kernel
theorem dX7_corner_43 : decode cX7_corner 43 = .ok (.iload_n 3, 1) := by decide +kernel
theorem dX7_corner_44 : decode cX7_corner 44 = .ok (.iastore, 1) := by decide +kernel
theorem dX7_corner_45 : decode cX7_corner 45 = .ok (.iconst 1, 1) := by decide +kernel
theorem dX7_corner_46 : decode cX7_corner 46 = .ok (.ireturn, 1) := by decide +kernel
def mX7_corner : MM := (yX7_corner, cX7_corner, 4, Option.some Jvm.ClassFile.FieldType.boolean, { frames := 0, cells := 0, slots := 0, locals := 0 })
def fX7_corner (σ : SS) (a1 : Int32) (a2 : Int32) (a3 : Int32) : Option (Bool × SS) :=
  if a1 < 0 then (
    some (false, σ)
    ) else (
    if (4 : Int32) ≤ a1 then (
      some (false, σ)
      ) else (
      if a2 < 0 then (
        some (false, σ)
        ) else (
        if (40 : Int32) ≤ a2 then (
          some (false, σ)
          ) else (
          if a3 < 0 then (
            some (false, σ)
            ) else (
            if a3 < (40 : Int32) then (
              grd (inb a1 4) <|
              vthen (sI σ 28 (Int32.toNatClampNeg a1) a2) fun σ2 =>
              vthen (sI σ2 29 (Int32.toNatClampNeg a1) a3) fun σ3 =>
              some (true, σ3)
              ) else (
              some (false, σ)
              )
            )
          )
        )
      )
    )

set_option maxRecDepth 20000 in
theorem sX7_corner {g : GG} {σ : SS} {a1 : Int32} {a2 : Int32} {a3 : Int32} {r : Bool × SS} (hr : fX7_corner σ a1 a2 a3 = some r)  : Ct g mX7_corner [.ref (ad g 1), .int a1, .int a2, .int a3] NF σ (some (.int (b2i r.1))) NF r.2 := by
  refine Ct.of (by decide +kernel) (nle rfl) fun hw0 => ?_
  have hw := hw0 rfl
  unfold fX7_corner at hr
  change RR g mX7_corner (FinR g mX7_corner (some (.int (b2i r.1))) NF r.2) zF 0 [(0, .ref (ad g 1)), (1, .int a1), (2, .int a2), (3, .int a3)] [] σ
  refine r_iload_n (pc := 0) (j := 1) dX7_corner_0 rfl rfl ?_
  refine r_if_lt (pc := 1) (tgt := 29) dX7_corner_1 rfl (fun hc => ?_) (fun hc => ?_)
  · replace hr := ite_t hc hr
    refine r_iconst (pc := 29) (v := (0 : Int32)) dX7_corner_29 rfl ?_
    exact l_osz hr (r_zret (pc := 30) (v := b2i false) (ty := .boolean) rfl (b2i_nar _) rfl ⟨Nat.le_refl _, Nat.le_refl _⟩ dX7_corner_30)
  replace hr := ite_f hc hr
  refine r_iload_n (pc := 4) (j := 1) dX7_corner_4 rfl rfl ?_
  refine r_iconst (pc := 5) (v := (4 : Int32)) dX7_corner_5 rfl ?_
  refine r_icmp_ge (pc := 6) (tgt := 29) dX7_corner_6 rfl (fun hc => ?_) (fun hc => ?_)
  · replace hr := ite_t hc hr
    refine r_iconst (pc := 29) (v := (0 : Int32)) dX7_corner_29 rfl ?_
    exact l_osz hr (r_zret (pc := 30) (v := b2i false) (ty := .boolean) rfl (b2i_nar _) rfl ⟨Nat.le_refl _, Nat.le_refl _⟩ dX7_corner_30)
  replace hr := ite_f hc hr
  refine r_iload_n (pc := 9) (j := 2) dX7_corner_9 rfl rfl ?_
  refine r_if_lt (pc := 10) (tgt := 29) dX7_corner_10 rfl (fun hc => ?_) (fun hc => ?_)
  · replace hr := ite_t hc hr
    refine r_iconst (pc := 29) (v := (0 : Int32)) dX7_corner_29 rfl ?_
    exact l_osz hr (r_zret (pc := 30) (v := b2i false) (ty := .boolean) rfl (b2i_nar _) rfl ⟨Nat.le_refl _, Nat.le_refl _⟩ dX7_corner_30)
  replace hr := ite_f hc hr
  refine r_iload_n (pc := 13) (j := 2) dX7_corner_13 rfl rfl ?_
  refine r_bipush (pc := 14) (v := (40 : Int32)) dX7_corner_14 rfl ?_
  refine r_icmp_ge (pc := 16) (tgt := 29) dX7_corner_16 rfl (fun hc => ?_) (fun hc => ?_)
  · replace hr := ite_t hc hr
    refine r_iconst (pc := 29) (v := (0 : Int32)) dX7_corner_29 rfl ?_
    exact l_osz hr (r_zret (pc := 30) (v := b2i false) (ty := .boolean) rfl (b2i_nar _) rfl ⟨Nat.le_refl _, Nat.le_refl _⟩ dX7_corner_30)
  replace hr := ite_f hc hr
  refine r_iload_n (pc := 19) (j := 3) dX7_corner_19 rfl rfl ?_
  refine r_if_lt (pc := 20) (tgt := 29) dX7_corner_20 rfl (fun hc => ?_) (fun hc => ?_)
  · replace hr := ite_t hc hr
    refine r_iconst (pc := 29) (v := (0 : Int32)) dX7_corner_29 rfl ?_
    exact l_osz hr (r_zret (pc := 30) (v := b2i false) (ty := .boolean) rfl (b2i_nar _) rfl ⟨Nat.le_refl _, Nat.le_refl _⟩ dX7_corner_30)
  replace hr := ite_f hc hr
  refine r_iload_n (pc := 23) (j := 3) dX7_corner_23 rfl rfl ?_
  refine r_bipush (pc := 24) (v := (40 : Int32)) dX7_corner_24 rfl ?_
  refine r_icmp_lt (pc := 26) (tgt := 31) dX7_corner_26 rfl (fun hc => ?_) (fun hc => ?_)
  · replace hr := ite_t hc hr
    refine r_aload_n (pc := 31) (j := 0) dX7_corner_31 rfl rfl ?_
    refine gf7_9 (pc := 32) tw_2_118 hw dX7_corner_32 ?_
    refine r_iload_n (pc := 35) (j := 1) dX7_corner_35 rfl rfl ?_
    refine r_iload_n (pc := 36) (j := 2) dX7_corner_36 rfl rfl ?_
    obtain ⟨h1, hr⟩ := grd_inv hr
    refine x_iast (pc := 37) (j := (Int32.toNatClampNeg a1)) rfl h1 rfl dX7_corner_37 fun σ2 eσ2 => ?_
    replace hr := vthen_inv hr σ2 eσ2
    have hσ2 := wtI eσ2 hw
    refine r_aload_n (pc := 38) (j := 0) dX7_corner_38 rfl rfl ?_
    refine gf7_10 (pc := 39) tw_2_119 hσ2 dX7_corner_39 ?_
    refine r_iload_n (pc := 42) (j := 1) dX7_corner_42 rfl rfl ?_
    refine r_iload_n (pc := 43) (j := 3) dX7_corner_43 rfl rfl ?_
    refine x_iast (pc := 44) (j := (Int32.toNatClampNeg a1)) rfl h1 rfl dX7_corner_44 fun σ3 eσ3 => ?_
    replace hr := vthen_inv hr σ3 eσ3
    have hσ3 := wtI eσ3 hσ2
    refine r_iconst (pc := 45) (v := (1 : Int32)) dX7_corner_45 rfl ?_
    exact l_osz hr (r_zret (pc := 46) (v := b2i true) (ty := .boolean) rfl (b2i_nar _) rfl ⟨Nat.le_refl _, Nat.le_refl _⟩ dX7_corner_46)
  replace hr := ite_f hc hr
  refine r_iconst (pc := 29) (v := (0 : Int32)) dX7_corner_29 rfl ?_
  exact l_osz hr (r_zret (pc := 30) (v := b2i false) (ty := .boolean) rfl (b2i_nar _) rfl ⟨Nat.le_refl _, Nat.le_refl _⟩ dX7_corner_30)

theorem kX7_corner {g : GG} {σ : SS} {a1 : Int32} {a2 : Int32} {a3 : Int32} {v : Bool} {σ2 : SS} {M : MM} {F : State → Array Value → List Frame → State → Prop} {pc index : Nat} {ls : List (Nat × Value)} {rest : List Value} (hf : fX7_corner σ a1 a2 a3 = some (v, σ2))  (hl : Cond.methodLink M.1.cls index yX7_corner ∈ lw_gt) (hR : mX7_corner.2.2.2.2.frames + 1 ≤ M.2.2.2.2.frames ∧ 8 + (mX7_corner.2.2.1 + 11) + mX7_corner.2.2.2.2.locals ≤ M.2.2.2.2.locals) (hrest : (rest.map fun v => v.category).sum ≤ 8) (hd : decode M.2.1 pc = .ok (.invokevirtual index, 3)) (k : WT σ2 → RR g M F zF (pc + 3) ls (.int (b2i v) :: rest) σ2) : RR g M F zF pc ls (.int a3 :: .int a2 :: .int a1 :: .ref (ad g 1) :: rest) σ :=
  r_callV (N := mX7_corner) (nn := 3) (o1 := some (.int (b2i v))) (sX7_corner hf ) (rfl : shp 1 = (7, 0)) (by decide) (shp_le (rfl : shp 1 = (7, 0)) (nle rfl)) (ci := 7) rfl rfl tw_4_214 tw_1_1 hl tw_4_212 tw_4_213 ⟨by decide, by decide, rfl⟩ hR rfl hrest hd ⟨Nat.zero_le _, Nat.zero_le _⟩ rfl (fun h => k (h rfl))

theorem dX8_corner_0 : decode cX8_corner 0 = .ok (.iload_n 1, 1) := by decide +kernel
theorem dX8_corner_1 : decode cX8_corner 1 = .ok (.iconst 0, 1) := by decide +kernel
theorem dX8_corner_2 : decode cX8_corner 2 = .ok (.iconst 3, 1) := by decide +kernel
theorem dX8_corner_3 : decode cX8_corner 3 = .ok (.invokestatic 165, 3) := by decide +kernel
theorem dX8_corner_6 : decode cX8_corner 6 = .ok (.ifCond .eq 23, 3) := by decide +kernel
theorem dX8_corner_9 : decode cX8_corner 9 = .ok (.iload_n 2, 1) := by decide +kernel
theorem dX8_corner_10 : decode cX8_corner 10 = .ok (.iconst 0, 1) := by decide +kernel
theorem dX8_corner_11 : decode cX8_corner 11 = .ok (.bipush 39, 2) := by decide +kernel
theorem dX8_corner_13 : decode cX8_corner 13 = .ok (.invokestatic 165, 3) := by decide +kernel
theorem dX8_corner_16 : decode cX8_corner 16 = .ok (.ifCond .eq 13, 3) := by decide +kernel
theorem dX8_corner_19 : decode cX8_corner 19 = .ok (.iload_n 3, 1) := by decide +kernel
theorem dX8_corner_20 : decode cX8_corner 20 = .ok (.iconst 0, 1) := by decide +kernel
theorem dX8_corner_21 : decode cX8_corner 21 = .ok (.bipush 39, 2) := by decide +kernel
theorem dX8_corner_23 : decode cX8_corner 23 = .ok (.invokestatic 165, 3) := by decide +kernel
theorem dX8_corner_26 : decode cX8_corner 26 = .ok (.ifCond .ne 5, 3) := by decide +kernel
theorem dX8_corner_29 : decode cX8_corner 29 = .ok (.iconst 0, 1) := by decide +kernel
theorem dX8_corner_30 : decode cX8_corner 30 = .ok (.ireturn, 1) := by decide +kernel
theorem dX8_corner_31 : decode cX8_corner 31 = .ok (.aload_n 0, 1) := by decide +kernel
theorem dX8_corner_32 : decode cX8_corner 32 = .ok (.getfield 56, 3) := by decide +kernel
theorem dX8_corner_35 : decode cX8_corner 35 = .ok (.iload_n 1, 1) := by decide +kernel
theorem dX8_corner_36 : decode cX8_corner 36 = .ok (.iload_n 2, 1) := by decide +kernel
theorem dX8_corner_37 : decode cX8_corner 37 = .ok (.iastore, 1) := by decide +kernel
theorem dX8_corner_38 : decode cX8_corner 38 = .ok (.aload_n 0, 1) := by decide +kernel
theorem dX8_corner_39 : decode cX8_corner 39 = .ok (.getfield 59, 3) := by decide +kernel
theorem dX8_corner_42 : decode cX8_corner 42 = .ok (.iload_n 1, 1) := by decide +kernel
theorem dX8_corner_43 : decode cX8_corner 43 = .ok (.iload_n 3, 1) := by decide +kernel
theorem dX8_corner_44 : decode cX8_corner 44 = .ok (.iastore, 1) := by decide +kernel
theorem dX8_corner_45 : decode cX8_corner 45 = .ok (.iconst 1, 1) := by decide +kernel
theorem dX8_corner_46 : decode cX8_corner 46 = .ok (.ireturn, 1) := by decide +kernel
def mX8_corner : MM := (yX8_corner, cX8_corner, 4, Option.some Jvm.ClassFile.FieldType.boolean, { frames := 1, cells := 0, slots := 0, locals := 22 })
def fX8_corner (σ : SS) (a1 : Int32) (a2 : Int32) (a3 : Int32) : Option (Bool × SS) :=
  if (fX8_in σ a1 (0 : Int32) (3 : Int32)) = true then (
    if (fX8_in σ a2 (0 : Int32) (39 : Int32)) = true then (
      if (fX8_in σ a3 (0 : Int32) (39 : Int32)) = true then (
        grd (inb a1 4) <|
        vthen (sI σ 89 (Int32.toNatClampNeg a1) a2) fun σ2 =>
        vthen (sI σ2 90 (Int32.toNatClampNeg a1) a3) fun σ3 =>
        some (true, σ3)
        ) else (
        some (false, σ)
        )
      ) else (
      some (false, σ)
      )
    ) else (
    some (false, σ)
    )

set_option maxRecDepth 20000 in
theorem sX8_corner {g : GG} {σ : SS} {a1 : Int32} {a2 : Int32} {a3 : Int32} {r : Bool × SS} (hr : fX8_corner σ a1 a2 a3 = some r)  : Ct g mX8_corner [.ref (ad g 73), .int a1, .int a2, .int a3] NF σ (some (.int (b2i r.1))) NF r.2 := by
  refine Ct.of (by decide +kernel) (nle rfl) fun hw0 => ?_
  have hw := hw0 rfl
  unfold fX8_corner at hr
  change RR g mX8_corner (FinR g mX8_corner (some (.int (b2i r.1))) NF r.2) zF 0 [(0, .ref (ad g 73)), (1, .int a1), (2, .int a2), (3, .int a3)] [] σ
  refine r_iload_n (pc := 0) (j := 1) dX8_corner_0 rfl rfl ?_
  refine r_iconst (pc := 1) (v := (0 : Int32)) dX8_corner_1 rfl ?_
  refine r_iconst (pc := 2) (v := (3 : Int32)) dX8_corner_2 rfl ?_
  refine kX8_in (pc := 3) (hf := rfl) tw_6_65 ⟨nle rfl, nle rfl⟩ (nle rfl) dX8_corner_3 ?_
  refine r_ifB_eq (pc := 6) (tgt := 29) dX8_corner_6 rfl (fun hc => ?_) (fun hc => ?_)
  · replace hr := ite_f hc hr
    refine r_iconst (pc := 29) (v := (0 : Int32)) dX8_corner_29 rfl ?_
    exact l_osz hr (r_zret (pc := 30) (v := b2i false) (ty := .boolean) rfl (b2i_nar _) rfl ⟨Nat.le_refl _, Nat.le_refl _⟩ dX8_corner_30)
  replace hr := ite_t hc hr
  refine r_iload_n (pc := 9) (j := 2) dX8_corner_9 rfl rfl ?_
  refine r_iconst (pc := 10) (v := (0 : Int32)) dX8_corner_10 rfl ?_
  refine r_bipush (pc := 11) (v := (39 : Int32)) dX8_corner_11 rfl ?_
  refine kX8_in (pc := 13) (hf := rfl) tw_6_65 ⟨nle rfl, nle rfl⟩ (nle rfl) dX8_corner_13 ?_
  refine r_ifB_eq (pc := 16) (tgt := 29) dX8_corner_16 rfl (fun hc => ?_) (fun hc => ?_)
  · replace hr := ite_f hc hr
    refine r_iconst (pc := 29) (v := (0 : Int32)) dX8_corner_29 rfl ?_
    exact l_osz hr (r_zret (pc := 30) (v := b2i false) (ty := .boolean) rfl (b2i_nar _) rfl ⟨Nat.le_refl _, Nat.le_refl _⟩ dX8_corner_30)
  replace hr := ite_t hc hr
  refine r_iload_n (pc := 19) (j := 3) dX8_corner_19 rfl rfl ?_
  refine r_iconst (pc := 20) (v := (0 : Int32)) dX8_corner_20 rfl ?_
  refine r_bipush (pc := 21) (v := (39 : Int32)) dX8_corner_21 rfl ?_
  refine kX8_in (pc := 23) (hf := rfl) tw_6_65 ⟨nle rfl, nle rfl⟩ (nle rfl) dX8_corner_23 ?_
  refine r_ifB_ne (pc := 26) (tgt := 31) dX8_corner_26 rfl (fun hc => ?_) (fun hc => ?_)
  · replace hr := ite_t hc hr
    refine r_aload_n (pc := 31) (j := 0) dX8_corner_31 rfl rfl ?_
    refine gf8_27 (pc := 32) tw_5_121 hw dX8_corner_32 ?_
    refine r_iload_n (pc := 35) (j := 1) dX8_corner_35 rfl rfl ?_
    refine r_iload_n (pc := 36) (j := 2) dX8_corner_36 rfl rfl ?_
    obtain ⟨h1, hr⟩ := grd_inv hr
    refine x_iast (pc := 37) (j := (Int32.toNatClampNeg a1)) rfl h1 rfl dX8_corner_37 fun σ2 eσ2 => ?_
    replace hr := vthen_inv hr σ2 eσ2
    have hσ2 := wtI eσ2 hw
    refine r_aload_n (pc := 38) (j := 0) dX8_corner_38 rfl rfl ?_
    refine gf8_28 (pc := 39) tw_5_122 hσ2 dX8_corner_39 ?_
    refine r_iload_n (pc := 42) (j := 1) dX8_corner_42 rfl rfl ?_
    refine r_iload_n (pc := 43) (j := 3) dX8_corner_43 rfl rfl ?_
    refine x_iast (pc := 44) (j := (Int32.toNatClampNeg a1)) rfl h1 rfl dX8_corner_44 fun σ3 eσ3 => ?_
    replace hr := vthen_inv hr σ3 eσ3
    have hσ3 := wtI eσ3 hσ2
    refine r_iconst (pc := 45) (v := (1 : Int32)) dX8_corner_45 rfl ?_
    exact l_osz hr (r_zret (pc := 46) (v := b2i true) (ty := .boolean) rfl (b2i_nar _) rfl ⟨Nat.le_refl _, Nat.le_refl _⟩ dX8_corner_46)
  replace hr := ite_f hc hr
  refine r_iconst (pc := 29) (v := (0 : Int32)) dX8_corner_29 rfl ?_
  exact l_osz hr (r_zret (pc := 30) (v := b2i false) (ty := .boolean) rfl (b2i_nar _) rfl ⟨Nat.le_refl _, Nat.le_refl _⟩ dX8_corner_30)

theorem kX8_corner {g : GG} {σ : SS} {a1 : Int32} {a2 : Int32} {a3 : Int32} {v : Bool} {σ2 : SS} {M : MM} {F : State → Array Value → List Frame → State → Prop} {pc index : Nat} {ls : List (Nat × Value)} {rest : List Value} (hf : fX8_corner σ a1 a2 a3 = some (v, σ2))  (hl : Cond.methodLink M.1.cls index yX8_corner ∈ lw_gt) (hR : mX8_corner.2.2.2.2.frames + 1 ≤ M.2.2.2.2.frames ∧ 8 + (mX8_corner.2.2.1 + 11) + mX8_corner.2.2.2.2.locals ≤ M.2.2.2.2.locals) (hrest : (rest.map fun v => v.category).sum ≤ 8) (hd : decode M.2.1 pc = .ok (.invokevirtual index, 3)) (k : WT σ2 → RR g M F zF (pc + 3) ls (.int (b2i v) :: rest) σ2) : RR g M F zF pc ls (.int a3 :: .int a2 :: .int a1 :: .ref (ad g 73) :: rest) σ :=
  r_callV (N := mX8_corner) (nn := 3) (o1 := some (.int (b2i v))) (sX8_corner hf ) (rfl : shp 73 = (8, 0)) (by decide) (shp_le (rfl : shp 73 = (8, 0)) (nle rfl)) (ci := 8) rfl rfl tw_7_158 tw_1_10 hl tw_7_156 tw_7_157 ⟨by decide, by decide, rfl⟩ hR rfl hrest hd ⟨Nat.zero_le _, Nat.zero_le _⟩ rfl (fun h => k (h rfl))

theorem dX7_tick_0 : decode cX7_tick 0 = .ok (.aload_n 0, 1) := by decide +kernel
theorem dX7_tick_1 : decode cX7_tick 1 = .ok (.getfield 32, 3) := by decide +kernel
theorem dX7_tick_4 : decode cX7_tick 4 = .ok (.iload_n 1, 1) := by decide +kernel
theorem dX7_tick_5 : decode cX7_tick 5 = .ok (.invokevirtual 121, 3) := by decide +kernel
theorem dX7_tick_8 : decode cX7_tick 8 = .ok (.ifCond .eq 22, 3) := by decide +kernel
theorem dX7_tick_11 : decode cX7_tick 11 = .ok (.iload_n 2, 1) := by decide +kernel
theorem dX7_tick_12 : decode cX7_tick 12 = .ok (.ifCond .lt 18, 3) := by decide +kernel
theorem dX7_tick_15 : decode cX7_tick 15 = .ok (.iload_n 2, 1) := by decide +kernel
theorem dX7_tick_16 : decode cX7_tick 16 = .ok (.iconst 1, 1) := by decide +kernel
theorem dX7_tick_17 : decode cX7_tick 17 = .ok (.aload_n 0, 1) := by decide +kernel
theorem dX7_tick_18 : decode cX7_tick 18 = .ok (.getfield 32, 3) := by decide +kernel
theorem dX7_tick_21 : decode cX7_tick 21 = .ok (.getfield 129, 3) := by decide +kernel
theorem dX7_tick_24 : decode cX7_tick 24 = .ok (.iload_n 1, 1) := by decide +kernel
theorem dX7_tick_25 : decode cX7_tick 25 = .ok (.iaload, 1) := by decide +kernel
theorem dX7_tick_26 : decode cX7_tick 26 = .ok (.ishl, 1) := by decide +kernel
theorem dX7_tick_27 : decode cX7_tick 27 = .ok (.if_icmp .lt 5, 3) := by decide +kernel
theorem dX7_tick_30 : decode cX7_tick 30 = .ok (.iconst (-1), 1) := by decide +kernel
theorem dX7_tick_31 : decode cX7_tick 31 = .ok (.ireturn, 1) := by decide +kernel
theorem dX7_tick_32 : decode cX7_tick 32 = .ok (.aload_n 0, 1) := by decide +kernel
theorem dX7_tick_33 : decode cX7_tick 33 = .ok (.getfield 56, 3) := by decide +kernel
theorem dX7_tick_36 : decode cX7_tick 36 = .ok (.iload_n 1, 1) := by decide +kernel
theorem dX7_tick_37 : decode cX7_tick 37 = .ok (.iaload, 1) := by decide +kernel
theorem dX7_tick_38 : decode cX7_tick 38 = .ok (.istore_n 3, 1) := by decide +kernel
theorem dX7_tick_39 : decode cX7_tick 39 = .ok (.aload_n 0, 1) := by decide +kernel
theorem dX7_tick_40 : decode cX7_tick 40 = .ok (.getfield 56, 3) := by decide +kernel
theorem dX7_tick_43 : decode cX7_tick 43 = .ok (.iload_n 1, 1) := by decide +kernel
theorem dX7_tick_44 : decode cX7_tick 44 = .ok (.iload_n 2, 1) := by decide +kernel
theorem dX7_tick_45 : decode cX7_tick 45 = .ok (.iastore, 1) := by decide +kernel
theorem dX7_tick_46 : decode cX7_tick 46 = .ok (.iload_n 3, 1) := by decide +kernel
theorem dX7_tick_47 : decode cX7_tick 47 = .ok (.ireturn, 1) := by decide +kernel
def mX7_tick : MM := (yX7_tick, cX7_tick, 4, Option.some Jvm.ClassFile.FieldType.int, { frames := 1, cells := 0, slots := 0, locals := 21 })
def fX7_tick (σ : SS) (a1 : Int32) (a2 : Int32) : Option (Int32 × SS) :=
  if (fX1_hasQuestion σ (gR σ 1 5) a1) = true then (
    if a2 < 0 then (
      some ((-1 : Int32), σ)
      ) else (
      grd (inb a1 12) <|
      if a2 < ((1 : Int32) <<< ((gI σ ((gR σ 1 5) + 3) (Int32.toNatClampNeg a1)) &&& 31)) then (
        vthen (gI σ 30 (Int32.toNatClampNeg a1)) fun v2 =>
        vthen (sI σ 30 (Int32.toNatClampNeg a1) a2) fun σ3 =>
        some (v2, σ3)
        ) else (
        some ((-1 : Int32), σ)
        )
      )
    ) else (
    some ((-1 : Int32), σ)
    )

set_option maxRecDepth 20000 in
theorem sX7_tick {g : GG} {σ : SS} {a1 : Int32} {a2 : Int32} {r : Int32 × SS} (hr : fX7_tick σ a1 a2 = some r)  : Ct g mX7_tick [.ref (ad g 1), .int a1, .int a2] NF σ (some (.int r.1)) NF r.2 := by
  refine Ct.of (by decide +kernel) (nle rfl) fun hw0 => ?_
  have hw := hw0 rfl
  unfold fX7_tick at hr
  change RR g mX7_tick (FinR g mX7_tick (some (.int r.1)) NF r.2) zF 0 [(0, .ref (ad g 1)), (1, .int a1), (2, .int a2)] [] σ
  refine r_aload_n (pc := 0) (j := 0) dX7_tick_0 rfl rfl ?_
  refine gf7_5 (pc := 1) tw_2_114 hw dX7_tick_1 ?_
  refine r_iload_n (pc := 4) (j := 1) dX7_tick_4 rfl rfl ?_
  refine kX1_hasQuestion (pc := 5) (hf := rfl) (wt_fo hw).1 tw_3_87 ⟨nle rfl, nle rfl⟩ (nle rfl) dX7_tick_5 ?_
  refine r_ifB_eq (pc := 8) (tgt := 30) dX7_tick_8 rfl (fun hc => ?_) (fun hc => ?_)
  · replace hr := ite_f hc hr
    refine r_iconst (pc := 30) (v := (-1 : Int32)) dX7_tick_30 rfl ?_
    exact l_osi hr (r_iret (pc := 31) (v := (-1 : Int32)) rfl rfl ⟨Nat.le_refl _, Nat.le_refl _⟩ dX7_tick_31)
  replace hr := ite_t hc hr
  refine r_iload_n (pc := 11) (j := 2) dX7_tick_11 rfl rfl ?_
  refine r_if_lt (pc := 12) (tgt := 30) dX7_tick_12 rfl (fun hc => ?_) (fun hc => ?_)
  · replace hr := ite_t hc hr
    refine r_iconst (pc := 30) (v := (-1 : Int32)) dX7_tick_30 rfl ?_
    exact l_osi hr (r_iret (pc := 31) (v := (-1 : Int32)) rfl rfl ⟨Nat.le_refl _, Nat.le_refl _⟩ dX7_tick_31)
  replace hr := ite_f hc hr
  refine r_iload_n (pc := 15) (j := 2) dX7_tick_15 rfl rfl ?_
  refine r_iconst (pc := 16) (v := (1 : Int32)) dX7_tick_16 rfl ?_
  refine r_aload_n (pc := 17) (j := 0) dX7_tick_17 rfl rfl ?_
  refine gf7_5 (pc := 18) tw_2_114 hw dX7_tick_18 ?_
  refine gf1_9 (pc := 21) tw_1_92 hw (wt_fo hw).1 dX7_tick_21 ?_
  refine r_iload_n (pc := 24) (j := 1) dX7_tick_24 rfl rfl ?_
  obtain ⟨h1, hr⟩ := grd_inv hr
  refine x_iald (pc := 25) (k := (Int32.toNatClampNeg a1)) (sh1_9 (wt_fo hw).1) h1 rfl dX7_tick_25 ?_
  refine r_ishl (pc := 26) dX7_tick_26 ?_
  refine r_icmp_lt (pc := 27) (tgt := 32) dX7_tick_27 rfl (fun hc => ?_) (fun hc => ?_)
  · replace hr := ite_t hc hr
    refine r_aload_n (pc := 32) (j := 0) dX7_tick_32 rfl rfl ?_
    refine gf7_11 (pc := 33) tw_2_120 hw dX7_tick_33 ?_
    refine r_iload_n (pc := 36) (j := 1) dX7_tick_36 rfl rfl ?_
    refine x_iald (pc := 37) (k := (Int32.toNatClampNeg a1)) rfl h1 rfl dX7_tick_37 ?_
    refine r_topi fun v2 ev2 => ?_
    replace hr := vthen_inv hr v2 ev2
    refine r_istore_n (pc := 38) (ls1 := [(3, .int v2), (0, .ref (ad g 1)), (1, .int a1), (2, .int a2)]) dX7_tick_38 rfl (nle rfl) rfl ?_
    refine r_aload_n (pc := 39) (j := 1) dX7_tick_39 rfl rfl ?_
    refine gf7_11 (pc := 40) tw_2_120 hw dX7_tick_40 ?_
    refine r_iload_n (pc := 43) (j := 2) dX7_tick_43 rfl rfl ?_
    refine r_iload_n (pc := 44) (j := 3) dX7_tick_44 rfl rfl ?_
    refine x_iast (pc := 45) (j := (Int32.toNatClampNeg a1)) rfl h1 rfl dX7_tick_45 fun σ3 eσ3 => ?_
    replace hr := vthen_inv hr σ3 eσ3
    have hσ3 := wtI eσ3 hw
    refine r_iload_n (pc := 46) (j := 0) dX7_tick_46 rfl rfl ?_
    exact l_osi hr (r_iret (pc := 47) (v := v2) rfl rfl ⟨Nat.le_refl _, Nat.le_refl _⟩ dX7_tick_47)
  replace hr := ite_f hc hr
  refine r_iconst (pc := 30) (v := (-1 : Int32)) dX7_tick_30 rfl ?_
  exact l_osi hr (r_iret (pc := 31) (v := (-1 : Int32)) rfl rfl ⟨Nat.le_refl _, Nat.le_refl _⟩ dX7_tick_31)

theorem kX7_tick {g : GG} {σ : SS} {a1 : Int32} {a2 : Int32} {v : Int32} {σ2 : SS} {M : MM} {F : State → Array Value → List Frame → State → Prop} {pc index : Nat} {ls : List (Nat × Value)} {rest : List Value} (hf : fX7_tick σ a1 a2 = some (v, σ2))  (hl : Cond.methodLink M.1.cls index yX7_tick ∈ lw_gt) (hR : mX7_tick.2.2.2.2.frames + 1 ≤ M.2.2.2.2.frames ∧ 8 + (mX7_tick.2.2.1 + 11) + mX7_tick.2.2.2.2.locals ≤ M.2.2.2.2.locals) (hrest : (rest.map fun v => v.category).sum ≤ 8) (hd : decode M.2.1 pc = .ok (.invokevirtual index, 3)) (k : WT σ2 → RR g M F zF (pc + 3) ls (.int v :: rest) σ2) : RR g M F zF pc ls (.int a2 :: .int a1 :: .ref (ad g 1) :: rest) σ :=
  r_callV (N := mX7_tick) (nn := 2) (o1 := some (.int v)) (sX7_tick hf ) (rfl : shp 1 = (7, 0)) (by decide) (shp_le (rfl : shp 1 = (7, 0)) (nle rfl)) (ci := 7) rfl rfl tw_4_218 tw_1_1 hl tw_4_216 tw_4_217 ⟨by decide, by decide, rfl⟩ hR rfl hrest hd ⟨Nat.zero_le _, Nat.zero_le _⟩ rfl (fun h => k (h rfl))

theorem dX8_tick_0 : decode cX8_tick 0 = .ok (.aload_n 0, 1) := by decide +kernel
theorem dX8_tick_1 : decode cX8_tick 1 = .ok (.iload_n 1, 1) := by decide +kernel
theorem dX8_tick_2 : decode cX8_tick 2 = .ok (.invokevirtual 269, 3) := by decide +kernel
theorem dX8_tick_5 : decode cX8_tick 5 = .ok (.ifCond .eq 20, 3) := by decide +kernel
theorem dX8_tick_8 : decode cX8_tick 8 = .ok (.iload_n 2, 1) := by decide +kernel
theorem dX8_tick_9 : decode cX8_tick 9 = .ok (.iconst 0, 1) := by decide +kernel
theorem dX8_tick_10 : decode cX8_tick 10 = .ok (.iconst 1, 1) := by decide +kernel
theorem dX8_tick_11 : decode cX8_tick 11 = .ok (.aload_n 0, 1) := by decide +kernel
theorem dX8_tick_12 : decode cX8_tick 12 = .ok (.iload_n 1, 1) := by decide +kernel
theorem dX8_tick_13 : decode cX8_tick 13 = .ok (.invokevirtual 272, 3) := by decide +kernel
theorem dX8_tick_16 : decode cX8_tick 16 = .ok (.ishl, 1) := by decide +kernel
theorem dX8_tick_17 : decode cX8_tick 17 = .ok (.iconst 1, 1) := by decide +kernel
theorem dX8_tick_18 : decode cX8_tick 18 = .ok (.isub, 1) := by decide +kernel
theorem dX8_tick_19 : decode cX8_tick 19 = .ok (.invokestatic 165, 3) := by decide +kernel
theorem dX8_tick_22 : decode cX8_tick 22 = .ok (.ifCond .ne 5, 3) := by decide +kernel
theorem dX8_tick_25 : decode cX8_tick 25 = .ok (.iconst (-1), 1) := by decide +kernel
theorem dX8_tick_26 : decode cX8_tick 26 = .ok (.ireturn, 1) := by decide +kernel
theorem dX8_tick_27 : decode cX8_tick 27 = .ok (.aload_n 0, 1) := by decide +kernel
theorem dX8_tick_28 : decode cX8_tick 28 = .ok (.getfield 35, 3) := by decide +kernel
theorem dX8_tick_31 : decode cX8_tick 31 = .ok (.iload_n 1, 1) := by decide +kernel
theorem dX8_tick_32 : decode cX8_tick 32 = .ok (.iaload, 1) := by decide +kernel
theorem dX8_tick_33 : decode cX8_tick 33 = .ok (.istore_n 3, 1) := by decide +kernel
theorem dX8_tick_34 : decode cX8_tick 34 = .ok (.aload_n 0, 1) := by decide +kernel
theorem dX8_tick_35 : decode cX8_tick 35 = .ok (.getfield 35, 3) := by decide +kernel
theorem dX8_tick_38 : decode cX8_tick 38 = .ok (.iload_n 1, 1) := by decide +kernel
theorem dX8_tick_39 : decode cX8_tick 39 = .ok (.iload_n 2, 1) := by decide +kernel
theorem dX8_tick_40 : decode cX8_tick 40 = .ok (.iastore, 1) := by decide +kernel
theorem dX8_tick_41 : decode cX8_tick 41 = .ok (.iload_n 3, 1) := by decide +kernel
theorem dX8_tick_42 : decode cX8_tick 42 = .ok (.ireturn, 1) := by decide +kernel
def mX8_tick : MM := (yX8_tick, cX8_tick, 4, Option.some Jvm.ClassFile.FieldType.int, { frames := 3, cells := 0, slots := 0, locals := 62 })
def fX8_tick (σ : SS) (a1 : Int32) (a2 : Int32) : Option (Int32 × SS) :=
  bnd1 (fX8_isQuestion σ a1) fun b2 =>
  if b2 = true then (
    bnd1 (fX8_boxesOf σ a1) fun v4 =>
    if (fX8_in σ a2 (0 : Int32) (((1 : Int32) <<< (v4 &&& 31)) - (1 : Int32))) = true then (
      grd (inb a1 12) <|
      vthen (gI σ 82 (Int32.toNatClampNeg a1)) fun v8 =>
      vthen (sI σ 82 (Int32.toNatClampNeg a1) a2) fun σ9 =>
      some (v8, σ9)
      ) else (
      some ((-1 : Int32), σ)
      )
    ) else (
    some ((-1 : Int32), σ)
    )

set_option maxRecDepth 20000 in
theorem sX8_tick {g : GG} {σ : SS} {a1 : Int32} {a2 : Int32} {r : Int32 × SS} (hr : fX8_tick σ a1 a2 = some r)  : Ct g mX8_tick [.ref (ad g 73), .int a1, .int a2] NF σ (some (.int r.1)) NF r.2 := by
  refine Ct.of (by decide +kernel) (nle rfl) fun hw0 => ?_
  have hw := hw0 rfl
  unfold fX8_tick at hr
  change RR g mX8_tick (FinR g mX8_tick (some (.int r.1)) NF r.2) zF 0 [(0, .ref (ad g 73)), (1, .int a1), (2, .int a2)] [] σ
  refine r_aload_n (pc := 0) (j := 0) dX8_tick_0 rfl rfl ?_
  refine r_iload_n (pc := 1) (j := 1) dX8_tick_1 rfl rfl ?_
  obtain ⟨b2, hb2, hr⟩ := bnd1_inv hr
  refine kX8_isQuestion (pc := 2) hb2 tw_6_141 ⟨nle rfl, nle rfl⟩ (nle rfl) dX8_tick_2 ?_
  refine r_ifB_eq (pc := 5) (tgt := 25) dX8_tick_5 rfl (fun hc => ?_) (fun hc => ?_)
  · replace hr := ite_f hc hr
    refine r_iconst (pc := 25) (v := (-1 : Int32)) dX8_tick_25 rfl ?_
    exact l_osi hr (r_iret (pc := 26) (v := (-1 : Int32)) rfl rfl ⟨Nat.le_refl _, Nat.le_refl _⟩ dX8_tick_26)
  replace hr := ite_t hc hr
  refine r_iload_n (pc := 8) (j := 2) dX8_tick_8 rfl rfl ?_
  refine r_iconst (pc := 9) (v := (0 : Int32)) dX8_tick_9 rfl ?_
  refine r_iconst (pc := 10) (v := (1 : Int32)) dX8_tick_10 rfl ?_
  refine r_aload_n (pc := 11) (j := 0) dX8_tick_11 rfl rfl ?_
  refine r_iload_n (pc := 12) (j := 1) dX8_tick_12 rfl rfl ?_
  obtain ⟨v4, hv4, hr⟩ := bnd1_inv hr
  refine kX8_boxesOf (pc := 13) hv4 tw_7_27 ⟨nle rfl, nle rfl⟩ (nle rfl) dX8_tick_13 ?_
  refine r_ishl (pc := 16) dX8_tick_16 ?_
  refine r_iconst (pc := 17) (v := (1 : Int32)) dX8_tick_17 rfl ?_
  refine r_isub (pc := 18) dX8_tick_18 ?_
  refine kX8_in (pc := 19) (hf := rfl) tw_6_65 ⟨nle rfl, nle rfl⟩ (nle rfl) dX8_tick_19 ?_
  refine r_ifB_ne (pc := 22) (tgt := 27) dX8_tick_22 rfl (fun hc => ?_) (fun hc => ?_)
  · replace hr := ite_t hc hr
    refine r_aload_n (pc := 27) (j := 0) dX8_tick_27 rfl rfl ?_
    refine gf8_20 (pc := 28) tw_5_114 hw dX8_tick_28 ?_
    refine r_iload_n (pc := 31) (j := 1) dX8_tick_31 rfl rfl ?_
    obtain ⟨h7, hr⟩ := grd_inv hr
    refine x_iald (pc := 32) (k := (Int32.toNatClampNeg a1)) rfl h7 rfl dX8_tick_32 ?_
    refine r_topi fun v8 ev8 => ?_
    replace hr := vthen_inv hr v8 ev8
    refine r_istore_n (pc := 33) (ls1 := [(3, .int v8), (0, .ref (ad g 73)), (1, .int a1), (2, .int a2)]) dX8_tick_33 rfl (nle rfl) rfl ?_
    refine r_aload_n (pc := 34) (j := 1) dX8_tick_34 rfl rfl ?_
    refine gf8_20 (pc := 35) tw_5_114 hw dX8_tick_35 ?_
    refine r_iload_n (pc := 38) (j := 2) dX8_tick_38 rfl rfl ?_
    refine r_iload_n (pc := 39) (j := 3) dX8_tick_39 rfl rfl ?_
    refine x_iast (pc := 40) (j := (Int32.toNatClampNeg a1)) rfl h7 rfl dX8_tick_40 fun σ9 eσ9 => ?_
    replace hr := vthen_inv hr σ9 eσ9
    have hσ9 := wtI eσ9 hw
    refine r_iload_n (pc := 41) (j := 0) dX8_tick_41 rfl rfl ?_
    exact l_osi hr (r_iret (pc := 42) (v := v8) rfl rfl ⟨Nat.le_refl _, Nat.le_refl _⟩ dX8_tick_42)
  replace hr := ite_f hc hr
  refine r_iconst (pc := 25) (v := (-1 : Int32)) dX8_tick_25 rfl ?_
  exact l_osi hr (r_iret (pc := 26) (v := (-1 : Int32)) rfl rfl ⟨Nat.le_refl _, Nat.le_refl _⟩ dX8_tick_26)

theorem kX8_tick {g : GG} {σ : SS} {a1 : Int32} {a2 : Int32} {v : Int32} {σ2 : SS} {M : MM} {F : State → Array Value → List Frame → State → Prop} {pc index : Nat} {ls : List (Nat × Value)} {rest : List Value} (hf : fX8_tick σ a1 a2 = some (v, σ2))  (hl : Cond.methodLink M.1.cls index yX8_tick ∈ lw_gt) (hR : mX8_tick.2.2.2.2.frames + 1 ≤ M.2.2.2.2.frames ∧ 8 + (mX8_tick.2.2.1 + 11) + mX8_tick.2.2.2.2.locals ≤ M.2.2.2.2.locals) (hrest : (rest.map fun v => v.category).sum ≤ 8) (hd : decode M.2.1 pc = .ok (.invokevirtual index, 3)) (k : WT σ2 → RR g M F zF (pc + 3) ls (.int v :: rest) σ2) : RR g M F zF pc ls (.int a2 :: .int a1 :: .ref (ad g 73) :: rest) σ :=
  r_callV (N := mX8_tick) (nn := 2) (o1 := some (.int v)) (sX8_tick hf ) (rfl : shp 73 = (8, 0)) (by decide) (shp_le (rfl : shp 73 = (8, 0)) (nle rfl)) (ci := 8) rfl rfl tw_7_162 tw_1_10 hl tw_7_160 tw_7_161 ⟨by decide, by decide, rfl⟩ hR rfl hrest hd ⟨Nat.zero_le _, Nat.zero_le _⟩ rfl (fun h => k (h rfl))

theorem dX6_holdsRound_0 : decode cX6_holdsRound 0 = .ok (.aload_n 0, 1) := by decide +kernel
theorem dX6_holdsRound_1 : decode cX6_holdsRound 1 = .ok (.iload_n 1, 1) := by decide +kernel
theorem dX6_holdsRound_2 : decode cX6_holdsRound 2 = .ok (.iconst 1, 1) := by decide +kernel
theorem dX6_holdsRound_3 : decode cX6_holdsRound 3 = .ok (.isub, 1) := by decide +kernel
theorem dX6_holdsRound_4 : decode cX6_holdsRound 4 = .ok (.iload_n 2, 1) := by decide +kernel
theorem dX6_holdsRound_5 : decode cX6_holdsRound 5 = .ok (.iconst 1, 1) := by decide +kernel
theorem dX6_holdsRound_6 : decode cX6_holdsRound 6 = .ok (.isub, 1) := by decide +kernel
theorem dX6_holdsRound_7 : decode cX6_holdsRound 7 = .ok (.invokevirtual 31, 3) := by decide +kernel
theorem dX6_holdsRound_10 : decode cX6_holdsRound 10 = .ok (.ifCond .eq 20, 3) := by decide +kernel
theorem dX6_holdsRound_13 : decode cX6_holdsRound 13 = .ok (.aload_n 0, 1) := by decide +kernel
theorem dX6_holdsRound_14 : decode cX6_holdsRound 14 = .ok (.iload_n 1, 1) := by decide +kernel
theorem dX6_holdsRound_15 : decode cX6_holdsRound 15 = .ok (.iconst 1, 1) := by decide +kernel
theorem dX6_holdsRound_16 : decode cX6_holdsRound 16 = .ok (.iadd, 1) := by decide +kernel
theorem dX6_holdsRound_17 : decode cX6_holdsRound 17 = .ok (.iload_n 2, 1) := by decide +kernel
theorem dX6_holdsRound_18 : decode cX6_holdsRound 18 = .ok (.iconst 1, 1) := by decide +kernel
theorem dX6_holdsRound_19 : decode cX6_holdsRound 19 = .ok (.iadd, 1) := by decide +kernel
theorem dX6_holdsRound_20 : decode cX6_holdsRound 20 = .ok (.invokevirtual 31, 3) := by decide +kernel
theorem dX6_holdsRound_23 : decode cX6_holdsRound 23 = .ok (.ifCond .eq 7, 3) := by decide +kernel
theorem dX6_holdsRound_26 : decode cX6_holdsRound 26 = .ok (.iconst 1, 1) := by decide +kernel
theorem dX6_holdsRound_27 : decode cX6_holdsRound 27 = .ok (.goto 4, 3) := by decide +kernel
theorem dX6_holdsRound_30 : decode cX6_holdsRound 30 = .ok (.iconst 0, 1) := by decide +kernel
theorem dX6_holdsRound_31 : decode cX6_holdsRound 31 = .ok (.ireturn, 1) := by decide +kernel
def mX6_holdsRound : MM := (yX6_holdsRound, cX6_holdsRound, 3, Option.some Jvm.ClassFile.FieldType.boolean, { frames := 1, cells := 0, slots := 0, locals := 22 })
def fX6_holdsRound (σ0 : SS) (a0 : Nat) (a1 : Int32) (a2 : Int32) : Bool :=
  vthen (fun (_u : Unit) =>
    false
    ) fun j30 =>
  if (fX6_has σ0 a0 (a1 - (1 : Int32)) (a2 - (1 : Int32))) = true then (
    if (fX6_has σ0 a0 (a1 + (1 : Int32)) (a2 + (1 : Int32))) = true then (
      true
      ) else (
      j30 ()
      )
    ) else (
    j30 ()
    )

set_option maxRecDepth 20000 in
theorem sX6_holdsRound {g : GG} {σ0 : SS} {a0 : Nat} {a1 : Int32} {a2 : Int32} {r : Bool} (hr : fX6_holdsRound σ0 a0 a1 a2 = r) (hs0 : shp a0 = (6, 0)) : Ct g mX6_holdsRound [.ref (ad g a0), .int a1, .int a2] NF σ0 (some (.int (b2i r))) NF σ0 := by
  refine Ct.of (by decide +kernel) (nle rfl) fun hw0 => ?_
  have hw := hw0 rfl
  unfold fX6_holdsRound at hr
  change RR g mX6_holdsRound (FinR g mX6_holdsRound (some (.int (b2i r))) NF σ0) zF 0 [(0, .ref (ad g a0)), (1, .int a1), (2, .int a2)] [] σ0
  refine r_aload_n (pc := 0) (j := 0) dX6_holdsRound_0 rfl rfl ?_
  refine r_iload_n (pc := 1) (j := 1) dX6_holdsRound_1 rfl rfl ?_
  refine r_iconst (pc := 2) (v := (1 : Int32)) dX6_holdsRound_2 rfl ?_
  refine r_isub (pc := 3) dX6_holdsRound_3 ?_
  refine r_iload_n (pc := 4) (j := 2) dX6_holdsRound_4 rfl rfl ?_
  refine r_iconst (pc := 5) (v := (1 : Int32)) dX6_holdsRound_5 rfl ?_
  refine r_isub (pc := 6) dX6_holdsRound_6 ?_
  refine kX6_has (pc := 7) (hf := rfl) hs0 tw_3_116 ⟨nle rfl, nle rfl⟩ (nle rfl) dX6_holdsRound_7 ?_
  obtain ⟨j30, ej30, hr⟩ := vth_ex hr
  have hj30 : j30 () = r → RR g mX6_holdsRound (FinR g mX6_holdsRound (some (.int (b2i r))) NF σ0) zF 30 [] [] σ0 := by
    intro  hr
    replace hr := (congrFun ej30 ()).symm.trans hr
    refine r_iconst (pc := 30) (v := (0 : Int32)) dX6_holdsRound_30 rfl ?_
    exact l_pz hr (r_zret (pc := 31) (v := b2i false) (ty := .boolean) rfl (b2i_nar _) rfl ⟨Nat.le_refl _, Nat.le_refl _⟩ dX6_holdsRound_31)
  refine r_ifB_eq (pc := 10) (tgt := 30) dX6_holdsRound_10 rfl (fun hc => ?_) (fun hc => ?_)
  · replace hr := ite_f hc hr
    exact r_pick (ls1 := []) [] rfl (hj30  hr)
  replace hr := ite_t hc hr
  refine r_aload_n (pc := 13) (j := 0) dX6_holdsRound_13 rfl rfl ?_
  refine r_iload_n (pc := 14) (j := 1) dX6_holdsRound_14 rfl rfl ?_
  refine r_iconst (pc := 15) (v := (1 : Int32)) dX6_holdsRound_15 rfl ?_
  refine r_iadd (pc := 16) dX6_holdsRound_16 ?_
  refine r_iload_n (pc := 17) (j := 2) dX6_holdsRound_17 rfl rfl ?_
  refine r_iconst (pc := 18) (v := (1 : Int32)) dX6_holdsRound_18 rfl ?_
  refine r_iadd (pc := 19) dX6_holdsRound_19 ?_
  refine kX6_has (pc := 20) (hf := rfl) hs0 tw_3_116 ⟨nle rfl, nle rfl⟩ (nle rfl) dX6_holdsRound_20 ?_
  refine r_ifB_eq (pc := 23) (tgt := 30) dX6_holdsRound_23 rfl (fun hc => ?_) (fun hc => ?_)
  · replace hr := ite_f hc hr
    exact r_pick (ls1 := []) [] rfl (hj30  hr)
  replace hr := ite_t hc hr
  refine r_iconst (pc := 26) (v := (1 : Int32)) dX6_holdsRound_26 rfl ?_
  refine r_goto (pc := 27) (tgt := 31) dX6_holdsRound_27 rfl ?_
  exact l_pz hr (r_zret (pc := 31) (v := b2i true) (ty := .boolean) rfl (b2i_nar _) rfl ⟨Nat.le_refl _, Nat.le_refl _⟩ dX6_holdsRound_31)

theorem kX6_holdsRound {g : GG} {σ0 : SS} {a0 : Nat} {a1 : Int32} {a2 : Int32} {v : Bool} {M : MM} {F : State → Array Value → List Frame → State → Prop} {pc index : Nat} {ls : List (Nat × Value)} {rest : List Value} (hf : fX6_holdsRound σ0 a0 a1 a2 = v) (hs0 : shp a0 = (6, 0)) (hl : Cond.methodLink M.1.cls index yX6_holdsRound ∈ lw_gt) (hR : mX6_holdsRound.2.2.2.2.frames + 1 ≤ M.2.2.2.2.frames ∧ 8 + (mX6_holdsRound.2.2.1 + 11) + mX6_holdsRound.2.2.2.2.locals ≤ M.2.2.2.2.locals) (hrest : (rest.map fun v => v.category).sum ≤ 8) (hd : decode M.2.1 pc = .ok (.invokevirtual index, 3)) (k : RR g M F zF (pc + 3) ls (.int (b2i v) :: rest) σ0) : RR g M F zF pc ls (.int a2 :: .int a1 :: .ref (ad g a0) :: rest) σ0 :=
  r_callV (N := mX6_holdsRound) (nn := 2) (o1 := some (.int (b2i v))) (sX6_holdsRound hf hs0) hs0 (by decide) (shp_le hs0 (nle rfl)) (ci := 6) rfl rfl tw_4_226 tw_1_2 hl tw_4_224 tw_4_225 ⟨by decide, by decide, rfl⟩ hR rfl hrest hd ⟨Nat.zero_le _, Nat.zero_le _⟩ rfl (fun h => k)

theorem dX6_putRound_0 : decode cX6_putRound 0 = .ok (.iload_n 2, 1) := by decide +kernel
theorem dX6_putRound_1 : decode cX6_putRound 1 = .ok (.iconst 1, 1) := by decide +kernel
theorem dX6_putRound_2 : decode cX6_putRound 2 = .ok (.isub, 1) := by decide +kernel
theorem dX6_putRound_3 : decode cX6_putRound 3 = .ok (.istore 4, 2) := by decide +kernel
theorem dX6_putRound_5 : decode cX6_putRound 5 = .ok (.iload 4, 2) := by decide +kernel
theorem dX6_putRound_7 : decode cX6_putRound 7 = .ok (.iload_n 2, 1) := by decide +kernel
theorem dX6_putRound_8 : decode cX6_putRound 8 = .ok (.iconst 1, 1) := by decide +kernel
theorem dX6_putRound_9 : decode cX6_putRound 9 = .ok (.iadd, 1) := by decide +kernel
theorem dX6_putRound_10 : decode cX6_putRound 10 = .ok (.if_icmp .gt 38, 3) := by decide +kernel
theorem dX6_putRound_13 : decode cX6_putRound 13 = .ok (.iload_n 1, 1) := by decide +kernel
theorem dX6_putRound_14 : decode cX6_putRound 14 = .ok (.iconst 1, 1) := by decide +kernel
theorem dX6_putRound_15 : decode cX6_putRound 15 = .ok (.isub, 1) := by decide +kernel
theorem dX6_putRound_16 : decode cX6_putRound 16 = .ok (.istore 5, 2) := by decide +kernel
theorem dX6_putRound_18 : decode cX6_putRound 18 = .ok (.iload 5, 2) := by decide +kernel
theorem dX6_putRound_20 : decode cX6_putRound 20 = .ok (.iload_n 1, 1) := by decide +kernel
theorem dX6_putRound_21 : decode cX6_putRound 21 = .ok (.iconst 1, 1) := by decide +kernel
theorem dX6_putRound_22 : decode cX6_putRound 22 = .ok (.iadd, 1) := by decide +kernel
theorem dX6_putRound_23 : decode cX6_putRound 23 = .ok (.if_icmp .gt 19, 3) := by decide +kernel
theorem dX6_putRound_26 : decode cX6_putRound 26 = .ok (.aload_n 0, 1) := by decide +kernel
theorem dX6_putRound_27 : decode cX6_putRound 27 = .ok (.iload 5, 2) := by decide +kernel
theorem dX6_putRound_29 : decode cX6_putRound 29 = .ok (.iload 4, 2) := by decide +kernel
theorem dX6_putRound_31 : decode cX6_putRound 31 = .ok (.iload_n 3, 1) := by decide +kernel
theorem dX6_putRound_32 : decode cX6_putRound 32 = .ok (.invokevirtual 35, 3) := by decide +kernel
theorem dX6_putRound_35 : decode cX6_putRound 35 = .ok (.pop, 1) := by decide +kernel
theorem dX6_putRound_36 : decode cX6_putRound 36 = .ok (.iinc 5 1, 3) := by decide +kernel
theorem dX6_putRound_39 : decode cX6_putRound 39 = .ok (.goto (-21), 3) := by decide +kernel
theorem dX6_putRound_42 : decode cX6_putRound 42 = .ok (.iinc 4 1, 3) := by decide +kernel
theorem dX6_putRound_45 : decode cX6_putRound 45 = .ok (.goto (-40), 3) := by decide +kernel
theorem dX6_putRound_48 : decode cX6_putRound 48 = .ok (.return_, 1) := by decide +kernel
def mX6_putRound : MM := (yX6_putRound, cX6_putRound, 6, none, { frames := 2, cells := 0, slots := 0, locals := 47 })
def X6_putRound_L18 (o0_ : Nat) (u1_ : Int32) (u3_ : Int32) (u4_ : Int32) (k42 : SS → Option SS) : Nat → Int32 → SS → Option SS :=
  lp (fun _ _ => none) fun rec v5_ σ_ =>
    if (u1_ + (1 : Int32)) < v5_ then (
      k42 σ_
      ) else (
      bnd (fX6_put σ_ o0_ v5_ u4_ u3_) fun b4 σ6 =>
      rec (v5_ + (1 : Int32)) σ6
      )

def X6_putRound_L5 (o0_ : Nat) (u1_ : Int32) (u2_ : Int32) (u3_ : Int32)  : Nat → Int32 → SS → Option SS :=
  lp (fun _ _ => none) fun rec v4_ σ_ =>
    if (u2_ + (1 : Int32)) < v4_ then (
      some σ_
      ) else (
      vthen (u1_ - (1 : Int32)) fun v2 =>
      X6_putRound_L18 o0_ u1_ u3_ v4_
      (fun σ7 =>
        rec (v4_ + (1 : Int32)) σ7
        )
      fuel v2 σ_
      )

def fX6_putRound (σ : SS) (a0 : Nat) (a1 : Int32) (a2 : Int32) (a3 : Int32) : Option SS :=
  vthen (a2 - (1 : Int32)) fun v1 =>
  X6_putRound_L5 a0 a1 a2 a3
  fuel v1 σ

set_option maxRecDepth 20000 in
theorem sX6_putRound_L18 {g : GG} {r : SS} {o0_ : Nat} {u1_ : Int32} {x2_ : Int32} {u3_ : Int32} {u4_ : Int32} {k42 : SS → Option SS} (hs0_ : shp o0_ = (6, 0))
    (hk42 : ∀ (σ_ : SS), k42 σ_ = some r → WT σ_ → RR g mX6_putRound (FinR g mX6_putRound none NF r) zF 42 [(0, .ref (ad g o0_)), (1, .int u1_), (2, .int x2_), (3, .int u3_), (4, .int u4_)] [] σ_)
    (n : Nat) : ∀ (v5_ : Int32) (σ_ : SS), X6_putRound_L18 o0_ u1_ u3_ u4_ k42 n v5_ σ_ = some r → WT σ_ → RR g mX6_putRound (FinR g mX6_putRound none NF r) zF 18 [(0, .ref (ad g o0_)), (1, .int u1_), (2, .int x2_), (3, .int u3_), (4, .int u4_), (5, .int v5_)] [] σ_ := by
  unfold X6_putRound_L18
  refine lp_ind (P := fun (rec : Int32 → SS → Option SS) => ∀ (v5_ : Int32) (σ_ : SS), rec v5_ σ_ = some r → WT σ_ → RR g mX6_putRound (FinR g mX6_putRound none NF r) zF 18 [(0, .ref (ad g o0_)), (1, .int u1_), (2, .int x2_), (3, .int u3_), (4, .int u4_), (5, .int v5_)] [] σ_) ?_ ?_ n
  · intro v5_ σ_ hr; cases hr
  intro rec ih v5_ σ_ hr hw_
  refine r_iload (pc := 18) (j := 5) dX6_putRound_18 rfl ?_
  refine r_iload_n (pc := 20) (j := 1) dX6_putRound_20 rfl rfl ?_
  refine r_iconst (pc := 21) (v := (1 : Int32)) dX6_putRound_21 rfl ?_
  refine r_iadd (pc := 22) dX6_putRound_22 ?_
  refine r_icmp_gt (pc := 23) (tgt := 42) dX6_putRound_23 rfl (fun hc => ?_) (fun hc => ?_)
  · replace hr := ite_t hc hr
    exact r_pick (ls1 := [(0, .ref (ad g o0_)), (1, .int u1_), (2, .int x2_), (3, .int u3_), (4, .int u4_)]) [0, 1, 2, 3, 4] rfl (hk42 σ_ hr hw_)
  replace hr := ite_f hc hr
  refine r_aload_n (pc := 26) (j := 0) dX6_putRound_26 rfl rfl ?_
  refine r_iload (pc := 27) (j := 5) dX6_putRound_27 rfl ?_
  refine r_iload (pc := 29) (j := 4) dX6_putRound_29 rfl ?_
  refine r_iload_n (pc := 31) (j := 3) dX6_putRound_31 rfl rfl ?_
  obtain ⟨b4, σ6, eσ6, hr⟩ := bnd_inv hr
  refine kX6_put (pc := 32) eσ6 hs0_ tw_3_162 ⟨nle rfl, nle rfl⟩ (nle rfl) dX6_putRound_32 fun hσ6 => ?_
  refine r_pop (pc := 35) dX6_putRound_35 rfl ?_
  refine r_iinc (pc := 36) (j := 5) (v := (v5_ + (1 : Int32))) (ls1 := [(5, .int (v5_ + (1 : Int32))), (0, .ref (ad g o0_)), (1, .int u1_), (2, .int x2_), (3, .int u3_), (4, .int u4_)]) dX6_putRound_36 rfl rfl (nle rfl) rfl ?_
  refine r_goto (pc := 39) (tgt := 18) dX6_putRound_39 rfl ?_
  exact r_pick (ls1 := [(0, .ref (ad g o0_)), (1, .int u1_), (2, .int x2_), (3, .int u3_), (4, .int u4_), (5, .int (v5_ + (1 : Int32)))]) [1, 2, 3, 4, 5, 0] rfl (ih (v5_ + (1 : Int32)) σ6 hr hσ6)

set_option maxRecDepth 20000 in
theorem sX6_putRound_L5 {g : GG} {r : SS} {o0_ : Nat} {u1_ : Int32} {u2_ : Int32} {u3_ : Int32}  (hs0_ : shp o0_ = (6, 0))
    (n : Nat) : ∀ (v4_ : Int32) (σ_ : SS), X6_putRound_L5 o0_ u1_ u2_ u3_ n v4_ σ_ = some r → WT σ_ → RR g mX6_putRound (FinR g mX6_putRound none NF r) zF 5 [(0, .ref (ad g o0_)), (1, .int u1_), (2, .int u2_), (3, .int u3_), (4, .int v4_)] [] σ_ := by
  unfold X6_putRound_L5
  refine lp_ind (P := fun (rec : Int32 → SS → Option SS) => ∀ (v4_ : Int32) (σ_ : SS), rec v4_ σ_ = some r → WT σ_ → RR g mX6_putRound (FinR g mX6_putRound none NF r) zF 5 [(0, .ref (ad g o0_)), (1, .int u1_), (2, .int u2_), (3, .int u3_), (4, .int v4_)] [] σ_) ?_ ?_ n
  · intro v4_ σ_ hr; cases hr
  intro rec ih v4_ σ_ hr hw_
  refine r_iload (pc := 5) (j := 4) dX6_putRound_5 rfl ?_
  refine r_iload_n (pc := 7) (j := 2) dX6_putRound_7 rfl rfl ?_
  refine r_iconst (pc := 8) (v := (1 : Int32)) dX6_putRound_8 rfl ?_
  refine r_iadd (pc := 9) dX6_putRound_9 ?_
  refine r_icmp_gt (pc := 10) (tgt := 48) dX6_putRound_10 rfl (fun hc => ?_) (fun hc => ?_)
  · replace hr := ite_t hc hr
    exact l_ov hr (r_vret (pc := 48) rfl rfl ⟨Nat.le_refl _, Nat.le_refl _⟩ dX6_putRound_48)
  replace hr := ite_f hc hr
  refine r_iload_n (pc := 13) (j := 1) dX6_putRound_13 rfl rfl ?_
  refine r_iconst (pc := 14) (v := (1 : Int32)) dX6_putRound_14 rfl ?_
  refine r_isub (pc := 15) dX6_putRound_15 ?_
  refine r_topi fun v2 ev2 => ?_
  replace hr := vthen_inv hr v2 ev2
  refine r_istore (pc := 16) (ls1 := [(5, .int v2), (0, .ref (ad g o0_)), (1, .int u1_), (2, .int u2_), (3, .int u3_), (4, .int v4_)]) dX6_putRound_16 (nle rfl) rfl ?_
  refine r_pick (ls1 := [(0, .ref (ad g o0_)), (1, .int u1_), (2, .int u2_), (3, .int u3_), (4, .int v4_), (5, .int v2)]) [1, 2, 3, 4, 5, 0] rfl ?_
  refine sX6_putRound_L18 hs0_   (fun σ7 hr hσ7 => ?_) fuel v2 σ_ hr hw_
  refine r_iinc (pc := 42) (j := 4) (v := (v4_ + (1 : Int32))) (ls1 := [(4, .int (v4_ + (1 : Int32))), (0, .ref (ad g o0_)), (1, .int u1_), (2, .int u2_), (3, .int u3_)]) dX6_putRound_42 rfl rfl (nle rfl) rfl ?_
  refine r_goto (pc := 45) (tgt := 5) dX6_putRound_45 rfl ?_
  exact r_pick (ls1 := [(0, .ref (ad g o0_)), (1, .int u1_), (2, .int u2_), (3, .int u3_), (4, .int (v4_ + (1 : Int32)))]) [1, 2, 3, 4, 0] rfl (ih (v4_ + (1 : Int32)) σ7 hr hσ7)

set_option maxRecDepth 20000 in
theorem sX6_putRound {g : GG} {σ : SS} {a0 : Nat} {a1 : Int32} {a2 : Int32} {a3 : Int32} {r : SS} (hr : fX6_putRound σ a0 a1 a2 a3 = some r) (hs0 : shp a0 = (6, 0)) : Ct g mX6_putRound [.ref (ad g a0), .int a1, .int a2, .int a3] NF σ none NF r := by
  refine Ct.of (by decide +kernel) (nle rfl) fun hw0 => ?_
  have hw := hw0 rfl
  unfold fX6_putRound at hr
  change RR g mX6_putRound (FinR g mX6_putRound none NF r) zF 0 [(0, .ref (ad g a0)), (1, .int a1), (2, .int a2), (3, .int a3)] [] σ
  refine r_iload_n (pc := 0) (j := 2) dX6_putRound_0 rfl rfl ?_
  refine r_iconst (pc := 1) (v := (1 : Int32)) dX6_putRound_1 rfl ?_
  refine r_isub (pc := 2) dX6_putRound_2 ?_
  refine r_topi fun v1 ev1 => ?_
  replace hr := vthen_inv hr v1 ev1
  refine r_istore (pc := 3) (ls1 := [(4, .int v1), (0, .ref (ad g a0)), (1, .int a1), (2, .int a2), (3, .int a3)]) dX6_putRound_3 (nle rfl) rfl ?_
  refine r_pick (ls1 := [(0, .ref (ad g a0)), (1, .int a1), (2, .int a2), (3, .int a3), (4, .int v1)]) [1, 2, 3, 4, 0] rfl ?_
  refine sX6_putRound_L5 hs0    fuel v1 σ hr hw

theorem kX6_putRound {g : GG} {σ : SS} {a0 : Nat} {a1 : Int32} {a2 : Int32} {a3 : Int32} {σ2 : SS} {M : MM} {F : State → Array Value → List Frame → State → Prop} {pc index : Nat} {ls : List (Nat × Value)} {rest : List Value} (hf : fX6_putRound σ a0 a1 a2 a3 = some σ2) (hs0 : shp a0 = (6, 0)) (hl : Cond.methodLink M.1.cls index yX6_putRound ∈ lw_gt) (hR : mX6_putRound.2.2.2.2.frames + 1 ≤ M.2.2.2.2.frames ∧ 8 + (mX6_putRound.2.2.1 + 11) + mX6_putRound.2.2.2.2.locals ≤ M.2.2.2.2.locals) (hrest : (rest.map fun v => v.category).sum ≤ 8) (hd : decode M.2.1 pc = .ok (.invokevirtual index, 3)) (k : WT σ2 → RR g M F zF (pc + 3) ls rest σ2) : RR g M F zF pc ls (.int a3 :: .int a2 :: .int a1 :: .ref (ad g a0) :: rest) σ :=
  r_callV (N := mX6_putRound) (nn := 3) (o1 := none) (sX6_putRound hf hs0) hs0 (by decide) (shp_le hs0 (nle rfl)) (ci := 6) rfl rfl tw_4_230 tw_1_2 hl tw_4_228 tw_4_229 ⟨by decide, by decide, rfl⟩ hR rfl hrest hd ⟨Nat.zero_le _, Nat.zero_le _⟩ rfl (fun h => k (h rfl))

theorem dX7_inkBox_0 : decode cX7_inkBox 0 = .ok (.aload_n 0, 1) := by decide +kernel
theorem dX7_inkBox_1 : decode cX7_inkBox 1 = .ok (.getfield 62, 3) := by decide +kernel
theorem dX7_inkBox_4 : decode cX7_inkBox 4 = .ok (.getfield 259, 3) := by decide +kernel
theorem dX7_inkBox_7 : decode cX7_inkBox 7 = .ok (.astore_n 3, 1) := by decide +kernel
theorem dX7_inkBox_8 : decode cX7_inkBox 8 = .ok (.aload_n 0, 1) := by decide +kernel
theorem dX7_inkBox_9 : decode cX7_inkBox 9 = .ok (.getfield 32, 3) := by decide +kernel
theorem dX7_inkBox_12 : decode cX7_inkBox 12 = .ok (.getfield 142, 3) := by decide +kernel
theorem dX7_inkBox_15 : decode cX7_inkBox 15 = .ok (.iload_n 1, 1) := by decide +kernel
theorem dX7_inkBox_16 : decode cX7_inkBox 16 = .ok (.iaload, 1) := by decide +kernel
theorem dX7_inkBox_17 : decode cX7_inkBox 17 = .ok (.istore 4, 2) := by decide +kernel
theorem dX7_inkBox_19 : decode cX7_inkBox 19 = .ok (.aload_n 0, 1) := by decide +kernel
theorem dX7_inkBox_20 : decode cX7_inkBox 20 = .ok (.getfield 32, 3) := by decide +kernel
theorem dX7_inkBox_23 : decode cX7_inkBox 23 = .ok (.getfield 148, 3) := by decide +kernel
theorem dX7_inkBox_26 : decode cX7_inkBox 26 = .ok (.iload_n 1, 1) := by decide +kernel
theorem dX7_inkBox_27 : decode cX7_inkBox 27 = .ok (.iaload, 1) := by decide +kernel
theorem dX7_inkBox_28 : decode cX7_inkBox 28 = .ok (.istore 5, 2) := by decide +kernel
theorem dX7_inkBox_30 : decode cX7_inkBox 30 = .ok (.iload 5, 2) := by decide +kernel
theorem dX7_inkBox_32 : decode cX7_inkBox 32 = .ok (.istore 6, 2) := by decide +kernel
theorem dX7_inkBox_34 : decode cX7_inkBox 34 = .ok (.iload 6, 2) := by decide +kernel
theorem dX7_inkBox_36 : decode cX7_inkBox 36 = .ok (.iload 5, 2) := by decide +kernel
theorem dX7_inkBox_38 : decode cX7_inkBox 38 = .ok (.aload_n 0, 1) := by decide +kernel
theorem dX7_inkBox_39 : decode cX7_inkBox 39 = .ok (.getfield 32, 3) := by decide +kernel
theorem dX7_inkBox_42 : decode cX7_inkBox 42 = .ok (.getfield 410, 3) := by decide +kernel
theorem dX7_inkBox_45 : decode cX7_inkBox 45 = .ok (.iadd, 1) := by decide +kernel
theorem dX7_inkBox_46 : decode cX7_inkBox 46 = .ok (.if_icmp .ge 75, 3) := by decide +kernel
theorem dX7_inkBox_49 : decode cX7_inkBox 49 = .ok (.iload 4, 2) := by decide +kernel
theorem dX7_inkBox_51 : decode cX7_inkBox 51 = .ok (.istore 7, 2) := by decide +kernel
theorem dX7_inkBox_53 : decode cX7_inkBox 53 = .ok (.iload 7, 2) := by decide +kernel
theorem dX7_inkBox_55 : decode cX7_inkBox 55 = .ok (.iload 4, 2) := by decide +kernel
theorem dX7_inkBox_57 : decode cX7_inkBox 57 = .ok (.aload_n 0, 1) := by decide +kernel
theorem dX7_inkBox_58 : decode cX7_inkBox 58 = .ok (.getfield 32, 3) := by decide +kernel
theorem dX7_inkBox_61 : decode cX7_inkBox 61 = .ok (.getfield 413, 3) := by decide +kernel
theorem dX7_inkBox_64 : decode cX7_inkBox 64 = .ok (.iadd, 1) := by decide +kernel
theorem dX7_inkBox_65 : decode cX7_inkBox 65 = .ok (.if_icmp .ge 50, 3) := by decide +kernel
theorem dX7_inkBox_68 : decode cX7_inkBox 68 = .ok (.aload_n 0, 1) := by decide +kernel
theorem dX7_inkBox_69 : decode cX7_inkBox 69 = .ok (.getfield 18, 3) := by decide +kernel
theorem dX7_inkBox_72 : decode cX7_inkBox 72 = .ok (.aload_n 3, 1) := by decide +kernel
theorem dX7_inkBox_73 : decode cX7_inkBox 73 = .ok (.iconst 2, 1) := by decide +kernel
theorem dX7_inkBox_74 : decode cX7_inkBox 74 = .ok (.iload 7, 2) := by decide +kernel
theorem dX7_inkBox_76 : decode cX7_inkBox 76 = .ok (.imul, 1) := by decide +kernel
theorem dX7_inkBox_77 : decode cX7_inkBox 77 = .ok (.iconst 1, 1) := by decide +kernel
theorem dX7_inkBox_78 : decode cX7_inkBox 78 = .ok (.iadd, 1) := by decide +kernel
theorem dX7_inkBox_79 : decode cX7_inkBox 79 = .ok (.iconst 2, 1) := by decide +kernel
theorem dX7_inkBox_80 : decode cX7_inkBox 80 = .ok (.iload 6, 2) := by decide +kernel
theorem dX7_inkBox_82 : decode cX7_inkBox 82 = .ok (.imul, 1) := by decide +kernel
theorem dX7_inkBox_83 : decode cX7_inkBox 83 = .ok (.iconst 1, 1) := by decide +kernel
theorem dX7_inkBox_84 : decode cX7_inkBox 84 = .ok (.iadd, 1) := by decide +kernel
theorem dX7_inkBox_85 : decode cX7_inkBox 85 = .ok (.invokevirtual 280, 3) := by decide +kernel
theorem dX7_inkBox_88 : decode cX7_inkBox 88 = .ok (.aload_n 3, 1) := by decide +kernel
theorem dX7_inkBox_89 : decode cX7_inkBox 89 = .ok (.iconst 2, 1) := by decide +kernel
theorem dX7_inkBox_90 : decode cX7_inkBox 90 = .ok (.iload 7, 2) := by decide +kernel
theorem dX7_inkBox_92 : decode cX7_inkBox 92 = .ok (.imul, 1) := by decide +kernel
theorem dX7_inkBox_93 : decode cX7_inkBox 93 = .ok (.iconst 1, 1) := by decide +kernel
theorem dX7_inkBox_94 : decode cX7_inkBox 94 = .ok (.iadd, 1) := by decide +kernel
theorem dX7_inkBox_95 : decode cX7_inkBox 95 = .ok (.iconst 2, 1) := by decide +kernel
theorem dX7_inkBox_96 : decode cX7_inkBox 96 = .ok (.iload 6, 2) := by decide +kernel
theorem dX7_inkBox_98 : decode cX7_inkBox 98 = .ok (.imul, 1) := by decide +kernel
theorem dX7_inkBox_99 : decode cX7_inkBox 99 = .ok (.iconst 1, 1) := by decide +kernel
theorem dX7_inkBox_100 : decode cX7_inkBox 100 = .ok (.iadd, 1) := by decide +kernel
theorem dX7_inkBox_101 : decode cX7_inkBox 101 = .ok (.invokevirtual 283, 3) := by decide +kernel
theorem dX7_inkBox_104 : decode cX7_inkBox 104 = .ok (.iload_n 2, 1) := by decide +kernel
theorem dX7_inkBox_105 : decode cX7_inkBox 105 = .ok (.invokevirtual 157, 3) := by decide +kernel
theorem dX7_inkBox_108 : decode cX7_inkBox 108 = .ok (.pop, 1) := by decide +kernel
theorem dX7_inkBox_109 : decode cX7_inkBox 109 = .ok (.iinc 7 1, 3) := by decide +kernel
theorem dX7_inkBox_112 : decode cX7_inkBox 112 = .ok (.goto (-59), 3) := by decide +kernel
theorem dX7_inkBox_115 : decode cX7_inkBox 115 = .ok (.iinc 6 1, 3) := by decide +kernel
theorem dX7_inkBox_118 : decode cX7_inkBox 118 = .ok (.goto (-84), 3) := by decide +kernel
theorem dX7_inkBox_121 : decode cX7_inkBox 121 = .ok (.return_, 1) := by decide +kernel
def mX7_inkBox : MM := (yX7_inkBox, cX7_inkBox, 8, none, { frames := 2, cells := 0, slots := 0, locals := 47 })
def X7_inkBox_L53 (u2_ : Int32) (u4_ : Int32) (u6_ : Int32) (k115 : SS → Option SS) : Nat → Int32 → SS → Option SS :=
  lp (fun _ _ => none) fun rec v7_ σ_ =>
    if (u4_ + (gI σ_ (gR σ_ 1 5) 3)) ≤ v7_ then (
      k115 σ_
      ) else (
      bnd1 (fX5_dotX σ_ (((2 : Int32) * v7_) + (1 : Int32)) (((2 : Int32) * u6_) + (1 : Int32))) fun v4 =>
      bnd1 (fX5_dotY σ_ (((2 : Int32) * v7_) + (1 : Int32)) (((2 : Int32) * u6_) + (1 : Int32))) fun v7 =>
      bnd (fX6_put σ_ (gR σ_ 1 2) v4 v7 u2_) fun b11 σ13 =>
      rec (v7_ + (1 : Int32)) σ13
      )

def X7_inkBox_L34 (u2_ : Int32) (u4_ : Int32) (u5_ : Int32)  : Nat → Int32 → SS → Option SS :=
  lp (fun _ _ => none) fun rec v6_ σ_ =>
    if (u5_ + (gI σ_ (gR σ_ 1 5) 4)) ≤ v6_ then (
      some σ_
      ) else (
      X7_inkBox_L53 u2_ u4_ v6_
      (fun σ14 =>
        rec (v6_ + (1 : Int32)) σ14
        )
      fuel u4_ σ_
      )

def fX7_inkBox (σ : SS) (a1 : Int32) (a2 : Int32) : Option SS :=
  grd (inb a1 72) <|
  vthen (gI σ ((gR σ 1 5) + 6) (Int32.toNatClampNeg a1)) fun v2 =>
  vthen (gI σ ((gR σ 1 5) + 7) (Int32.toNatClampNeg a1)) fun v3 =>
  X7_inkBox_L34 a2 v2 v3
  fuel v3 σ

set_option maxRecDepth 20000 in
theorem sX7_inkBox_L53 {g : GG} {r : SS} {u2_ : Int32} {u4_ : Int32} {x5_ : Int32} {u6_ : Int32} {k115 : SS → Option SS} 
    (hk115 : ∀ (σ_ : SS), k115 σ_ = some r → WT σ_ → RR g mX7_inkBox (FinR g mX7_inkBox none NF r) zF 115 [(0, .ref (ad g 1)), (2, .int u2_), (3, .ref (ad g 45)), (4, .int u4_), (5, .int x5_), (6, .int u6_)] [] σ_)
    (n : Nat) : ∀ (v7_ : Int32) (σ_ : SS), X7_inkBox_L53 u2_ u4_ u6_ k115 n v7_ σ_ = some r → WT σ_ → RR g mX7_inkBox (FinR g mX7_inkBox none NF r) zF 53 [(0, .ref (ad g 1)), (2, .int u2_), (3, .ref (ad g 45)), (4, .int u4_), (5, .int x5_), (6, .int u6_), (7, .int v7_)] [] σ_ := by
  unfold X7_inkBox_L53
  refine lp_ind (P := fun (rec : Int32 → SS → Option SS) => ∀ (v7_ : Int32) (σ_ : SS), rec v7_ σ_ = some r → WT σ_ → RR g mX7_inkBox (FinR g mX7_inkBox none NF r) zF 53 [(0, .ref (ad g 1)), (2, .int u2_), (3, .ref (ad g 45)), (4, .int u4_), (5, .int x5_), (6, .int u6_), (7, .int v7_)] [] σ_) ?_ ?_ n
  · intro v7_ σ_ hr; cases hr
  intro rec ih v7_ σ_ hr hw_
  refine r_iload (pc := 53) (j := 6) dX7_inkBox_53 rfl ?_
  refine r_iload (pc := 55) (j := 3) dX7_inkBox_55 rfl ?_
  refine r_aload_n (pc := 57) (j := 0) dX7_inkBox_57 rfl rfl ?_
  refine gf7_5 (pc := 58) tw_2_114 hw_ dX7_inkBox_58 ?_
  refine gf1_3 (pc := 61) tw_1_73 (wt_fo hw_).1 dX7_inkBox_61 ?_
  refine r_iadd (pc := 64) dX7_inkBox_64 ?_
  refine r_icmp_ge (pc := 65) (tgt := 115) dX7_inkBox_65 rfl (fun hc => ?_) (fun hc => ?_)
  · replace hr := ite_t hc hr
    exact r_pick (ls1 := [(0, .ref (ad g 1)), (2, .int u2_), (3, .ref (ad g 45)), (4, .int u4_), (5, .int x5_), (6, .int u6_)]) [0, 1, 2, 3, 4, 5] rfl (hk115 σ_ hr hw_)
  replace hr := ite_f hc hr
  refine r_aload_n (pc := 68) (j := 0) dX7_inkBox_68 rfl rfl ?_
  refine gf7_2 (pc := 69) tw_2_111 hw_ dX7_inkBox_69 ?_
  refine r_aload_n (pc := 72) (j := 2) dX7_inkBox_72 rfl rfl ?_
  refine r_iconst (pc := 73) (v := (2 : Int32)) dX7_inkBox_73 rfl ?_
  refine r_iload (pc := 74) (j := 6) dX7_inkBox_74 rfl ?_
  refine r_imul (pc := 76) dX7_inkBox_76 ?_
  refine r_iconst (pc := 77) (v := (1 : Int32)) dX7_inkBox_77 rfl ?_
  refine r_iadd (pc := 78) dX7_inkBox_78 ?_
  refine r_iconst (pc := 79) (v := (2 : Int32)) dX7_inkBox_79 rfl ?_
  refine r_iload (pc := 80) (j := 5) dX7_inkBox_80 rfl ?_
  refine r_imul (pc := 82) dX7_inkBox_82 ?_
  refine r_iconst (pc := 83) (v := (1 : Int32)) dX7_inkBox_83 rfl ?_
  refine r_iadd (pc := 84) dX7_inkBox_84 ?_
  obtain ⟨v4, hv4, hr⟩ := bnd1_inv hr
  refine kX5_dotX (pc := 85) hv4 tw_4_83 ⟨nle rfl, nle rfl⟩ (nle rfl) dX7_inkBox_85 ?_
  refine r_aload_n (pc := 88) (j := 2) dX7_inkBox_88 rfl rfl ?_
  refine r_iconst (pc := 89) (v := (2 : Int32)) dX7_inkBox_89 rfl ?_
  refine r_iload (pc := 90) (j := 6) dX7_inkBox_90 rfl ?_
  refine r_imul (pc := 92) dX7_inkBox_92 ?_
  refine r_iconst (pc := 93) (v := (1 : Int32)) dX7_inkBox_93 rfl ?_
  refine r_iadd (pc := 94) dX7_inkBox_94 ?_
  refine r_iconst (pc := 95) (v := (2 : Int32)) dX7_inkBox_95 rfl ?_
  refine r_iload (pc := 96) (j := 5) dX7_inkBox_96 rfl ?_
  refine r_imul (pc := 98) dX7_inkBox_98 ?_
  refine r_iconst (pc := 99) (v := (1 : Int32)) dX7_inkBox_99 rfl ?_
  refine r_iadd (pc := 100) dX7_inkBox_100 ?_
  obtain ⟨v7, hv7, hr⟩ := bnd1_inv hr
  refine kX5_dotY (pc := 101) hv7 tw_4_95 ⟨nle rfl, nle rfl⟩ (nle rfl) dX7_inkBox_101 ?_
  refine r_iload_n (pc := 104) (j := 1) dX7_inkBox_104 rfl rfl ?_
  obtain ⟨b11, σ13, eσ13, hr⟩ := bnd_inv hr
  refine kX6_put (pc := 105) eσ13 (wt_sc hw_).1 tw_3_112 ⟨nle rfl, nle rfl⟩ (nle rfl) dX7_inkBox_105 fun hσ13 => ?_
  refine r_pop (pc := 108) dX7_inkBox_108 rfl ?_
  refine r_iinc (pc := 109) (j := 6) (v := (v7_ + (1 : Int32))) (ls1 := [(7, .int (v7_ + (1 : Int32))), (0, .ref (ad g 1)), (2, .int u2_), (3, .ref (ad g 45)), (4, .int u4_), (5, .int x5_), (6, .int u6_)]) dX7_inkBox_109 rfl rfl (nle rfl) rfl ?_
  refine r_goto (pc := 112) (tgt := 53) dX7_inkBox_112 rfl ?_
  exact r_pick (ls1 := [(0, .ref (ad g 1)), (2, .int u2_), (3, .ref (ad g 45)), (4, .int u4_), (5, .int x5_), (6, .int u6_), (7, .int (v7_ + (1 : Int32)))]) [1, 2, 3, 4, 5, 6, 0] rfl (ih (v7_ + (1 : Int32)) σ13 hr hσ13)

set_option maxRecDepth 20000 in
theorem sX7_inkBox_L34 {g : GG} {r : SS} {u2_ : Int32} {u4_ : Int32} {u5_ : Int32}  
    (n : Nat) : ∀ (v6_ : Int32) (σ_ : SS), X7_inkBox_L34 u2_ u4_ u5_ n v6_ σ_ = some r → WT σ_ → RR g mX7_inkBox (FinR g mX7_inkBox none NF r) zF 34 [(0, .ref (ad g 1)), (2, .int u2_), (3, .ref (ad g 45)), (4, .int u4_), (5, .int u5_), (6, .int v6_)] [] σ_ := by
  unfold X7_inkBox_L34
  refine lp_ind (P := fun (rec : Int32 → SS → Option SS) => ∀ (v6_ : Int32) (σ_ : SS), rec v6_ σ_ = some r → WT σ_ → RR g mX7_inkBox (FinR g mX7_inkBox none NF r) zF 34 [(0, .ref (ad g 1)), (2, .int u2_), (3, .ref (ad g 45)), (4, .int u4_), (5, .int u5_), (6, .int v6_)] [] σ_) ?_ ?_ n
  · intro v6_ σ_ hr; cases hr
  intro rec ih v6_ σ_ hr hw_
  refine r_iload (pc := 34) (j := 5) dX7_inkBox_34 rfl ?_
  refine r_iload (pc := 36) (j := 4) dX7_inkBox_36 rfl ?_
  refine r_aload_n (pc := 38) (j := 0) dX7_inkBox_38 rfl rfl ?_
  refine gf7_5 (pc := 39) tw_2_114 hw_ dX7_inkBox_39 ?_
  refine gf1_4 (pc := 42) tw_1_77 (wt_fo hw_).1 dX7_inkBox_42 ?_
  refine r_iadd (pc := 45) dX7_inkBox_45 ?_
  refine r_icmp_ge (pc := 46) (tgt := 121) dX7_inkBox_46 rfl (fun hc => ?_) (fun hc => ?_)
  · replace hr := ite_t hc hr
    exact l_ov hr (r_vret (pc := 121) rfl rfl ⟨Nat.le_refl _, Nat.le_refl _⟩ dX7_inkBox_121)
  replace hr := ite_f hc hr
  refine r_iload (pc := 49) (j := 3) dX7_inkBox_49 rfl ?_
  refine r_istore (pc := 51) (ls1 := [(7, .int u4_), (0, .ref (ad g 1)), (2, .int u2_), (3, .ref (ad g 45)), (4, .int u4_), (5, .int u5_), (6, .int v6_)]) dX7_inkBox_51 (nle rfl) rfl ?_
  refine r_pick (ls1 := [(0, .ref (ad g 1)), (2, .int u2_), (3, .ref (ad g 45)), (4, .int u4_), (5, .int u5_), (6, .int v6_), (7, .int u4_)]) [1, 2, 3, 4, 5, 6, 0] rfl ?_
  refine sX7_inkBox_L53    (fun σ14 hr hσ14 => ?_) fuel u4_ σ_ hr hw_
  refine r_iinc (pc := 115) (j := 5) (v := (v6_ + (1 : Int32))) (ls1 := [(6, .int (v6_ + (1 : Int32))), (0, .ref (ad g 1)), (2, .int u2_), (3, .ref (ad g 45)), (4, .int u4_), (5, .int u5_)]) dX7_inkBox_115 rfl rfl (nle rfl) rfl ?_
  refine r_goto (pc := 118) (tgt := 34) dX7_inkBox_118 rfl ?_
  exact r_pick (ls1 := [(0, .ref (ad g 1)), (2, .int u2_), (3, .ref (ad g 45)), (4, .int u4_), (5, .int u5_), (6, .int (v6_ + (1 : Int32)))]) [1, 2, 3, 4, 5, 0] rfl (ih (v6_ + (1 : Int32)) σ14 hr hσ14)

set_option maxRecDepth 20000 in
theorem sX7_inkBox {g : GG} {σ : SS} {a1 : Int32} {a2 : Int32} {r : SS} (hr : fX7_inkBox σ a1 a2 = some r)  : Ct g mX7_inkBox [.ref (ad g 1), .int a1, .int a2] NF σ none NF r := by
  refine Ct.of (by decide +kernel) (nle rfl) fun hw0 => ?_
  have hw := hw0 rfl
  unfold fX7_inkBox at hr
  change RR g mX7_inkBox (FinR g mX7_inkBox none NF r) zF 0 [(0, .ref (ad g 1)), (1, .int a1), (2, .int a2)] [] σ
  refine r_aload_n (pc := 0) (j := 0) dX7_inkBox_0 rfl rfl ?_
  refine gf7_12 (pc := 1) tw_2_121 hw dX7_inkBox_1 ?_
  refine gf3_3 (pc := 4) tw_2_29 hw dX7_inkBox_4 ?_
  refine r_astore_n (pc := 7) (ls1 := [(3, .ref (ad g 45)), (0, .ref (ad g 1)), (1, .int a1), (2, .int a2)]) dX7_inkBox_7 rfl (nle rfl) rfl ?_
  refine r_aload_n (pc := 8) (j := 1) dX7_inkBox_8 rfl rfl ?_
  refine gf7_5 (pc := 9) tw_2_114 hw dX7_inkBox_9 ?_
  refine gf1_12 (pc := 12) tw_1_106 hw (wt_fo hw).1 dX7_inkBox_12 ?_
  refine r_iload_n (pc := 15) (j := 2) dX7_inkBox_15 rfl rfl ?_
  obtain ⟨h1, hr⟩ := grd_inv hr
  refine x_iald (pc := 16) (k := (Int32.toNatClampNeg a1)) (sh1_12 (wt_fo hw).1) h1 rfl dX7_inkBox_16 ?_
  refine r_topi fun v2 ev2 => ?_
  replace hr := vthen_inv hr v2 ev2
  refine r_istore (pc := 17) (ls1 := [(4, .int v2), (3, .ref (ad g 45)), (0, .ref (ad g 1)), (1, .int a1), (2, .int a2)]) dX7_inkBox_17 (nle rfl) rfl ?_
  refine r_aload_n (pc := 19) (j := 2) dX7_inkBox_19 rfl rfl ?_
  refine gf7_5 (pc := 20) tw_2_114 hw dX7_inkBox_20 ?_
  refine gf1_13 (pc := 23) tw_1_109 hw (wt_fo hw).1 dX7_inkBox_23 ?_
  refine r_iload_n (pc := 26) (j := 3) dX7_inkBox_26 rfl rfl ?_
  refine x_iald (pc := 27) (k := (Int32.toNatClampNeg a1)) (sh1_13 (wt_fo hw).1) h1 rfl dX7_inkBox_27 ?_
  refine r_topi fun v3 ev3 => ?_
  replace hr := vthen_inv hr v3 ev3
  refine r_istore (pc := 28) (ls1 := [(5, .int v3), (4, .int v2), (3, .ref (ad g 45)), (0, .ref (ad g 1)), (1, .int a1), (2, .int a2)]) dX7_inkBox_28 (nle rfl) rfl ?_
  refine r_iload (pc := 30) (j := 0) dX7_inkBox_30 rfl ?_
  refine r_istore (pc := 32) (ls1 := [(6, .int v3), (5, .int v3), (4, .int v2), (3, .ref (ad g 45)), (0, .ref (ad g 1)), (1, .int a1), (2, .int a2)]) dX7_inkBox_32 (nle rfl) rfl ?_
  refine r_pick (ls1 := [(0, .ref (ad g 1)), (2, .int a2), (3, .ref (ad g 45)), (4, .int v2), (5, .int v3), (6, .int v3)]) [4, 6, 3, 2, 1, 0] rfl ?_
  refine sX7_inkBox_L34     fuel v3 σ hr hw

theorem kX7_inkBox {g : GG} {σ : SS} {a1 : Int32} {a2 : Int32} {σ2 : SS} {M : MM} {F : State → Array Value → List Frame → State → Prop} {pc index : Nat} {ls : List (Nat × Value)} {rest : List Value} (hf : fX7_inkBox σ a1 a2 = some σ2)  (hl : Cond.methodLink M.1.cls index yX7_inkBox ∈ lw_gt) (hR : mX7_inkBox.2.2.2.2.frames + 1 ≤ M.2.2.2.2.frames ∧ 8 + (mX7_inkBox.2.2.1 + 11) + mX7_inkBox.2.2.2.2.locals ≤ M.2.2.2.2.locals) (hrest : (rest.map fun v => v.category).sum ≤ 8) (hd : decode M.2.1 pc = .ok (.invokevirtual index, 3)) (k : WT σ2 → RR g M F zF (pc + 3) ls rest σ2) : RR g M F zF pc ls (.int a2 :: .int a1 :: .ref (ad g 1) :: rest) σ :=
  r_callV (N := mX7_inkBox) (nn := 2) (o1 := none) (sX7_inkBox hf ) (rfl : shp 1 = (7, 0)) (by decide) (shp_le (rfl : shp 1 = (7, 0)) (nle rfl)) (ci := 7) rfl rfl tw_4_235 tw_1_1 hl tw_4_234 tp_32 ⟨by decide, by decide, rfl⟩ hR rfl hrest hd ⟨Nat.zero_le _, Nat.zero_le _⟩ rfl (fun h => k (h rfl))

theorem dX7_print_0 : decode cX7_print 0 = .ok (.aload_n 0, 1) := by decide +kernel
theorem dX7_print_1 : decode cX7_print 1 = .ok (.getfield 32, 3) := by decide +kernel
theorem dX7_print_4 : decode cX7_print 4 = .ok (.getfield 274, 3) := by decide +kernel
theorem dX7_print_7 : decode cX7_print 7 = .ok (.ifCond .eq 14, 3) := by decide +kernel
theorem dX7_print_10 : decode cX7_print 10 = .ok (.iload_n 1, 1) := by decide +kernel
theorem dX7_print_11 : decode cX7_print 11 = .ok (.iconst 1, 1) := by decide +kernel
theorem dX7_print_12 : decode cX7_print 12 = .ok (.if_icmp .lt 9, 3) := by decide +kernel
theorem dX7_print_15 : decode cX7_print 15 = .ok (.iload_n 1, 1) := by decide +kernel
theorem dX7_print_16 : decode cX7_print 16 = .ok (.bipush 9, 2) := by decide +kernel
theorem dX7_print_18 : decode cX7_print 18 = .ok (.if_icmp .le 5, 3) := by decide +kernel
theorem dX7_print_21 : decode cX7_print 21 = .ok (.iconst (-1), 1) := by decide +kernel
theorem dX7_print_22 : decode cX7_print 22 = .ok (.ireturn, 1) := by decide +kernel
theorem dX7_print_23 : decode cX7_print 23 = .ok (.iconst 0, 1) := by decide +kernel
theorem dX7_print_24 : decode cX7_print 24 = .ok (.istore_n 2, 1) := by decide +kernel
theorem dX7_print_25 : decode cX7_print 25 = .ok (.iload_n 2, 1) := by decide +kernel
theorem dX7_print_26 : decode cX7_print 26 = .ok (.iconst 4, 1) := by decide +kernel
theorem dX7_print_27 : decode cX7_print 27 = .ok (.if_icmp .ge 34, 3) := by decide +kernel
theorem dX7_print_30 : decode cX7_print 30 = .ok (.aload_n 0, 1) := by decide +kernel
theorem dX7_print_31 : decode cX7_print 31 = .ok (.getfield 18, 3) := by decide +kernel
theorem dX7_print_34 : decode cX7_print 34 = .ok (.aload_n 0, 1) := by decide +kernel
theorem dX7_print_35 : decode cX7_print 35 = .ok (.getfield 50, 3) := by decide +kernel
theorem dX7_print_38 : decode cX7_print 38 = .ok (.iload_n 2, 1) := by decide +kernel
theorem dX7_print_39 : decode cX7_print 39 = .ok (.iaload, 1) := by decide +kernel
theorem dX7_print_40 : decode cX7_print 40 = .ok (.aload_n 0, 1) := by decide +kernel
theorem dX7_print_41 : decode cX7_print 41 = .ok (.getfield 53, 3) := by decide +kernel
theorem dX7_print_44 : decode cX7_print 44 = .ok (.iload_n 2, 1) := by decide +kernel
theorem dX7_print_45 : decode cX7_print 45 = .ok (.iaload, 1) := by decide +kernel
theorem dX7_print_46 : decode cX7_print 46 = .ok (.invokevirtual 347, 3) := by decide +kernel
theorem dX7_print_49 : decode cX7_print 49 = .ok (.ifCond .ne 6, 3) := by decide +kernel
theorem dX7_print_52 : decode cX7_print 52 = .ok (.bipush (-2), 2) := by decide +kernel
theorem dX7_print_54 : decode cX7_print 54 = .ok (.ireturn, 1) := by decide +kernel
theorem dX7_print_55 : decode cX7_print 55 = .ok (.iinc 2 1, 3) := by decide +kernel
theorem dX7_print_58 : decode cX7_print 58 = .ok (.goto (-33), 3) := by decide +kernel
theorem dX7_print_61 : decode cX7_print 61 = .ok (.aload_n 0, 1) := by decide +kernel
theorem dX7_print_62 : decode cX7_print 62 = .ok (.getfield 18, 3) := by decide +kernel
theorem dX7_print_65 : decode cX7_print 65 = .ok (.aload_n 0, 1) := by decide +kernel
theorem dX7_print_66 : decode cX7_print 66 = .ok (.getfield 18, 3) := by decide +kernel
theorem dX7_print_69 : decode cX7_print 69 = .ok (.getfield 100, 3) := by decide +kernel
theorem dX7_print_72 : decode cX7_print 72 = .ok (.aload_n 0, 1) := by decide +kernel
theorem dX7_print_73 : decode cX7_print 73 = .ok (.getfield 18, 3) := by decide +kernel
theorem dX7_print_76 : decode cX7_print 76 = .ok (.getfield 103, 3) := by decide +kernel
theorem dX7_print_79 : decode cX7_print 79 = .ok (.invokevirtual 73, 3) := by decide +kernel
theorem dX7_print_82 : decode cX7_print 82 = .ok (.aload_n 0, 1) := by decide +kernel
theorem dX7_print_83 : decode cX7_print 83 = .ok (.getfield 62, 3) := by decide +kernel
theorem dX7_print_86 : decode cX7_print 86 = .ok (.getfield 259, 3) := by decide +kernel
theorem dX7_print_89 : decode cX7_print 89 = .ok (.astore_n 2, 1) := by decide +kernel
theorem dX7_print_90 : decode cX7_print 90 = .ok (.iconst 0, 1) := by decide +kernel
theorem dX7_print_91 : decode cX7_print 91 = .ok (.istore_n 3, 1) := by decide +kernel
theorem dX7_print_92 : decode cX7_print 92 = .ok (.iload_n 3, 1) := by decide +kernel
theorem dX7_print_93 : decode cX7_print 93 = .ok (.iconst 4, 1) := by decide +kernel
theorem dX7_print_94 : decode cX7_print 94 = .ok (.if_icmp .ge 50, 3) := by decide +kernel
theorem dX7_print_97 : decode cX7_print 97 = .ok (.aload_n 0, 1) := by decide +kernel
theorem dX7_print_98 : decode cX7_print 98 = .ok (.getfield 18, 3) := by decide +kernel
theorem dX7_print_101 : decode cX7_print 101 = .ok (.aload_n 0, 1) := by decide +kernel
theorem dX7_print_102 : decode cX7_print 102 = .ok (.getfield 50, 3) := by decide +kernel
theorem dX7_print_105 : decode cX7_print 105 = .ok (.iload_n 3, 1) := by decide +kernel
theorem dX7_print_106 : decode cX7_print 106 = .ok (.iaload, 1) := by decide +kernel
theorem dX7_print_107 : decode cX7_print 107 = .ok (.aload_n 0, 1) := by decide +kernel
theorem dX7_print_108 : decode cX7_print 108 = .ok (.getfield 53, 3) := by decide +kernel
theorem dX7_print_111 : decode cX7_print 111 = .ok (.iload_n 3, 1) := by decide +kernel
theorem dX7_print_112 : decode cX7_print 112 = .ok (.iaload, 1) := by decide +kernel
theorem dX7_print_113 : decode cX7_print 113 = .ok (.bipush 9, 2) := by decide +kernel
theorem dX7_print_115 : decode cX7_print 115 = .ok (.invokevirtual 350, 3) := by decide +kernel
theorem dX7_print_118 : decode cX7_print 118 = .ok (.aload_n 2, 1) := by decide +kernel
theorem dX7_print_119 : decode cX7_print 119 = .ok (.iload_n 3, 1) := by decide +kernel
theorem dX7_print_120 : decode cX7_print 120 = .ok (.aload_n 0, 1) := by decide +kernel
theorem dX7_print_121 : decode cX7_print 121 = .ok (.getfield 50, 3) := by decide +kernel
theorem dX7_print_124 : decode cX7_print 124 = .ok (.iload_n 3, 1) := by decide +kernel
theorem dX7_print_125 : decode cX7_print 125 = .ok (.iaload, 1) := by decide +kernel
theorem dX7_print_126 : decode cX7_print 126 = .ok (.i2l, 1) := by decide +kernel
theorem dX7_print_127 : decode cX7_print 127 = .ok (.aload_n 0, 1) := by decide +kernel
theorem dX7_print_128 : decode cX7_print 128 = .ok (.getfield 53, 3) := by decide +kernel
theorem dX7_print_131 : decode cX7_print 131 = .ok (.iload_n 3, 1) := by decide +kernel
theorem dX7_print_132 : decode cX7_print 132 = .ok (.iaload, 1) := by decide +kernel
theorem dX7_print_133 : decode cX7_print 133 = .ok (.i2l, 1) := by decide +kernel
theorem dX7_print_134 : decode cX7_print 134 = .ok (.lconst 1, 1) := by decide +kernel
theorem dX7_print_135 : decode cX7_print 135 = .ok (.invokevirtual 354, 3) := by decide +kernel
theorem dX7_print_138 : decode cX7_print 138 = .ok (.iinc 3 1, 3) := by decide +kernel
theorem dX7_print_141 : decode cX7_print 141 = .ok (.goto (-49), 3) := by decide +kernel
theorem dX7_print_144 : decode cX7_print 144 = .ok (.aload_n 2, 1) := by decide +kernel
theorem dX7_print_145 : decode cX7_print 145 = .ok (.aload_n 0, 1) := by decide +kernel
theorem dX7_print_146 : decode cX7_print 146 = .ok (.getfield 32, 3) := by decide +kernel
theorem dX7_print_149 : decode cX7_print 149 = .ok (.getfield 109, 3) := by decide +kernel
theorem dX7_print_152 : decode cX7_print 152 = .ok (.aload_n 0, 1) := by decide +kernel
theorem dX7_print_153 : decode cX7_print 153 = .ok (.getfield 32, 3) := by decide +kernel
theorem dX7_print_156 : decode cX7_print 156 = .ok (.getfield 110, 3) := by decide +kernel
theorem dX7_print_159 : decode cX7_print 159 = .ok (.invokevirtual 277, 3) := by decide +kernel
theorem dX7_print_162 : decode cX7_print 162 = .ok (.iconst 0, 1) := by decide +kernel
theorem dX7_print_163 : decode cX7_print 163 = .ok (.istore_n 3, 1) := by decide +kernel
theorem dX7_print_164 : decode cX7_print 164 = .ok (.iload_n 3, 1) := by decide +kernel
theorem dX7_print_165 : decode cX7_print 165 = .ok (.aload_n 0, 1) := by decide +kernel
theorem dX7_print_166 : decode cX7_print 166 = .ok (.getfield 32, 3) := by decide +kernel
theorem dX7_print_169 : decode cX7_print 169 = .ok (.getfield 97, 3) := by decide +kernel
theorem dX7_print_172 : decode cX7_print 172 = .ok (.if_icmp .ge 64, 3) := by decide +kernel
theorem dX7_print_175 : decode cX7_print 175 = .ok (.iconst 0, 1) := by decide +kernel
theorem dX7_print_176 : decode cX7_print 176 = .ok (.istore 4, 2) := by decide +kernel
theorem dX7_print_178 : decode cX7_print 178 = .ok (.iload 4, 2) := by decide +kernel
theorem dX7_print_180 : decode cX7_print 180 = .ok (.aload_n 0, 1) := by decide +kernel
theorem dX7_print_181 : decode cX7_print 181 = .ok (.getfield 32, 3) := by decide +kernel
theorem dX7_print_184 : decode cX7_print 184 = .ok (.getfield 129, 3) := by decide +kernel
theorem dX7_print_187 : decode cX7_print 187 = .ok (.iload_n 3, 1) := by decide +kernel
theorem dX7_print_188 : decode cX7_print 188 = .ok (.iaload, 1) := by decide +kernel
theorem dX7_print_189 : decode cX7_print 189 = .ok (.if_icmp .ge 41, 3) := by decide +kernel
theorem dX7_print_192 : decode cX7_print 192 = .ok (.aload_n 0, 1) := by decide +kernel
theorem dX7_print_193 : decode cX7_print 193 = .ok (.getfield 56, 3) := by decide +kernel
theorem dX7_print_196 : decode cX7_print 196 = .ok (.iload_n 3, 1) := by decide +kernel
theorem dX7_print_197 : decode cX7_print 197 = .ok (.iaload, 1) := by decide +kernel
theorem dX7_print_198 : decode cX7_print 198 = .ok (.iload 4, 2) := by decide +kernel
theorem dX7_print_200 : decode cX7_print 200 = .ok (.ishr, 1) := by decide +kernel
theorem dX7_print_201 : decode cX7_print 201 = .ok (.iconst 1, 1) := by decide +kernel
theorem dX7_print_202 : decode cX7_print 202 = .ok (.iand, 1) := by decide +kernel
theorem dX7_print_203 : decode cX7_print 203 = .ok (.iconst 1, 1) := by decide +kernel
theorem dX7_print_204 : decode cX7_print 204 = .ok (.if_icmp .ne 20, 3) := by decide +kernel
theorem dX7_print_207 : decode cX7_print 207 = .ok (.aload_n 0, 1) := by decide +kernel
theorem dX7_print_208 : decode cX7_print 208 = .ok (.aload_n 0, 1) := by decide +kernel
theorem dX7_print_209 : decode cX7_print 209 = .ok (.getfield 32, 3) := by decide +kernel
theorem dX7_print_212 : decode cX7_print 212 = .ok (.getfield 145, 3) := by decide +kernel
theorem dX7_print_215 : decode cX7_print 215 = .ok (.iload_n 3, 1) := by decide +kernel
theorem dX7_print_216 : decode cX7_print 216 = .ok (.iaload, 1) := by decide +kernel
theorem dX7_print_217 : decode cX7_print 217 = .ok (.iload 4, 2) := by decide +kernel
theorem dX7_print_219 : decode cX7_print 219 = .ok (.iadd, 1) := by decide +kernel
theorem dX7_print_220 : decode cX7_print 220 = .ok (.iload_n 1, 1) := by decide +kernel
theorem dX7_print_221 : decode cX7_print 221 = .ok (.invokevirtual 357, 3) := by decide +kernel
theorem dX7_print_224 : decode cX7_print 224 = .ok (.iinc 4 1, 3) := by decide +kernel
theorem dX7_print_227 : decode cX7_print 227 = .ok (.goto (-49), 3) := by decide +kernel
theorem dX7_print_230 : decode cX7_print 230 = .ok (.iinc 3 1, 3) := by decide +kernel
theorem dX7_print_233 : decode cX7_print 233 = .ok (.goto (-69), 3) := by decide +kernel
theorem dX7_print_236 : decode cX7_print 236 = .ok (.aload_n 0, 1) := by decide +kernel
theorem dX7_print_237 : decode cX7_print 237 = .ok (.getfield 18, 3) := by decide +kernel
theorem dX7_print_240 : decode cX7_print 240 = .ok (.iconst 1, 1) := by decide +kernel
theorem dX7_print_241 : decode cX7_print 241 = .ok (.invokevirtual 114, 3) := by decide +kernel
theorem dX7_print_244 : decode cX7_print 244 = .ok (.ireturn, 1) := by decide +kernel
def mX7_print : MM := (yX7_print, cX7_print, 5, Option.some Jvm.ClassFile.FieldType.int, { frames := 3, cells := 0, slots := 0, locals := 74 })
def X7_print_L25 (σ_ : SS)  (k61 : Unit → Option (Int32 × SS)) : Nat → Int32 → Option (Int32 × SS) :=
  lp (fun _ => none) fun rec v2_ =>
    if (4 : Int32) ≤ v2_ then (
      k61 ()
      ) else (
      grd (inb v2_ 4) <|
      if (fX6_holdsRound σ_ (gR σ_ 1 2) (gI σ_ 28 (Int32.toNatClampNeg v2_)) (gI σ_ 29 (Int32.toNatClampNeg v2_))) = true then (
        rec (v2_ + (1 : Int32))
        ) else (
        some ((-2 : Int32), σ_)
        )
      )

def X7_print_L92  (k144 : SS → Option (Int32 × SS)) : Nat → Int32 → SS → Option (Int32 × SS) :=
  lp (fun _ _ => none) fun rec v3_ σ_ =>
    if (4 : Int32) ≤ v3_ then (
      k144 σ_
      ) else (
      grd (inb v3_ 4) <|
      bnd1 (fX6_putRound σ_ (gR σ_ 1 2) (gI σ_ 28 (Int32.toNatClampNeg v3_)) (gI σ_ 29 (Int32.toNatClampNeg v3_)) (9 : Int32)) fun σ4 =>
      bnd1 (fX5_put σ4 v3_ (Int32.toInt64 (gI σ4 28 (Int32.toNatClampNeg v3_))) (Int32.toInt64 (gI σ4 29 (Int32.toNatClampNeg v3_))) (1 : Int64)) fun σ5 =>
      rec (v3_ + (1 : Int32)) σ5
      )

def X7_print_L178 (u1_ : Int32) (u3_ : Int32) (k230 : SS → Option (Int32 × SS)) : Nat → Int32 → SS → Option (Int32 × SS) :=
  lp (fun _ _ => none) fun rec v4_ σ_ =>
    grd (inb u3_ 12) <|
    if (gI σ_ ((gR σ_ 1 5) + 3) (Int32.toNatClampNeg u3_)) ≤ v4_ then (
      k230 σ_
      ) else (
      if (((gI σ_ 30 (Int32.toNatClampNeg u3_)) >>> (v4_ &&& 31)) &&& (1 : Int32)) = (1 : Int32) then (
        bnd1 (fX7_inkBox σ_ ((gI σ_ ((gR σ_ 1 5) + 2) (Int32.toNatClampNeg u3_)) + v4_) u1_) fun σ12 =>
        rec (v4_ + (1 : Int32)) σ12
        ) else (
        rec (v4_ + (1 : Int32)) σ_
        )
      )

def X7_print_L164 (u1_ : Int32)  : Nat → Int32 → SS → Option (Int32 × SS) :=
  lp (fun _ _ => none) fun rec v3_ σ_ =>
    if (gI σ_ (gR σ_ 1 5) 5) ≤ v3_ then (
      bnd1 (fX6_notBelow σ_ (gR σ_ 1 2) (1 : Int32)) fun v8 =>
      some (v8, σ_)
      ) else (
      X7_print_L178 u1_ v3_
      (fun σ13 =>
        rec (v3_ + (1 : Int32)) σ13
        )
      fuel (0 : Int32) σ_
      )

def fX7_print (σ : SS) (a1 : Int32) : Option (Int32 × SS) :=
  if (gI σ (gR σ 1 5) 0) = 0 then (
    some ((-1 : Int32), σ)
    ) else (
    if a1 < (1 : Int32) then (
      some ((-1 : Int32), σ)
      ) else (
      if a1 ≤ (9 : Int32) then (
        X7_print_L25 σ
        (fun _ =>
          bnd1 (fX6_empty σ (gR σ 1 2) (gI σ (gR σ 1 2) 0) (gI σ (gR σ 1 2) 1)) fun σ2 =>
          X7_print_L92
          (fun σ6 =>
            bnd1 (fX5_spread σ6 (gI σ6 (gR σ6 1 5) 1) (gI σ6 (gR σ6 1 5) 2)) fun σ7 =>
            X7_print_L164 a1
            fuel (0 : Int32) σ7
            )
          fuel (0 : Int32) σ2
          )
        fuel (0 : Int32)
        ) else (
        some ((-1 : Int32), σ)
        )
      )
    )

set_option maxRecDepth 20000 in
theorem sX7_print_L25 {g : GG} {r : Int32 × SS} {σ_ : SS} {x1_ : Int32} {k61 : Unit → Option (Int32 × SS)} 
    (hw_ : WT σ_)
    (hk61 : k61 () = some r → RR g mX7_print (FinR g mX7_print (some (.int r.1)) NF r.2) zF 61 [(0, .ref (ad g 1)), (1, .int x1_)] [] σ_)
    (n : Nat) : ∀ (v2_ : Int32), X7_print_L25 σ_ k61 n v2_ = some r → RR g mX7_print (FinR g mX7_print (some (.int r.1)) NF r.2) zF 25 [(0, .ref (ad g 1)), (1, .int x1_), (2, .int v2_)] [] σ_ := by
  unfold X7_print_L25
  refine lp_ind (P := fun (rec : Int32 → Option (Int32 × SS)) => ∀ (v2_ : Int32), rec v2_ = some r → RR g mX7_print (FinR g mX7_print (some (.int r.1)) NF r.2) zF 25 [(0, .ref (ad g 1)), (1, .int x1_), (2, .int v2_)] [] σ_) ?_ ?_ n
  · intro v2_ hr; cases hr
  intro rec ih v2_ hr
  refine r_iload_n (pc := 25) (j := 2) dX7_print_25 rfl rfl ?_
  refine r_iconst (pc := 26) (v := (4 : Int32)) dX7_print_26 rfl ?_
  refine r_icmp_ge (pc := 27) (tgt := 61) dX7_print_27 rfl (fun hc => ?_) (fun hc => ?_)
  · replace hr := ite_t hc hr
    exact r_pick (ls1 := [(0, .ref (ad g 1)), (1, .int x1_)]) [0, 1] rfl (hk61  hr)
  replace hr := ite_f hc hr
  refine r_aload_n (pc := 30) (j := 0) dX7_print_30 rfl rfl ?_
  refine gf7_2 (pc := 31) tw_2_111 hw_ dX7_print_31 ?_
  refine r_aload_n (pc := 34) (j := 0) dX7_print_34 rfl rfl ?_
  refine gf7_9 (pc := 35) tw_2_118 hw_ dX7_print_35 ?_
  refine r_iload_n (pc := 38) (j := 2) dX7_print_38 rfl rfl ?_
  obtain ⟨h1, hr⟩ := grd_inv hr
  refine x_iald (pc := 39) (k := (Int32.toNatClampNeg v2_)) rfl h1 rfl dX7_print_39 ?_
  refine r_aload_n (pc := 40) (j := 0) dX7_print_40 rfl rfl ?_
  refine gf7_10 (pc := 41) tw_2_119 hw_ dX7_print_41 ?_
  refine r_iload_n (pc := 44) (j := 2) dX7_print_44 rfl rfl ?_
  refine x_iald (pc := 45) (k := (Int32.toNatClampNeg v2_)) rfl h1 rfl dX7_print_45 ?_
  refine kX6_holdsRound (pc := 46) (hf := rfl) (wt_sc hw_).1 tw_4_223 ⟨nle rfl, nle rfl⟩ (nle rfl) dX7_print_46 ?_
  refine r_ifB_ne (pc := 49) (tgt := 55) dX7_print_49 rfl (fun hc => ?_) (fun hc => ?_)
  · replace hr := ite_t hc hr
    refine r_iinc (pc := 55) (j := 2) (v := (v2_ + (1 : Int32))) (ls1 := [(2, .int (v2_ + (1 : Int32))), (0, .ref (ad g 1)), (1, .int x1_)]) dX7_print_55 rfl rfl (nle rfl) rfl ?_
    refine r_goto (pc := 58) (tgt := 25) dX7_print_58 rfl ?_
    exact r_pick (ls1 := [(0, .ref (ad g 1)), (1, .int x1_), (2, .int (v2_ + (1 : Int32)))]) [1, 2, 0] rfl (ih (v2_ + (1 : Int32)) hr)
  replace hr := ite_f hc hr
  refine r_bipush (pc := 52) (v := (-2 : Int32)) dX7_print_52 rfl ?_
  exact l_osi hr (r_iret (pc := 54) (v := (-2 : Int32)) rfl rfl ⟨Nat.le_refl _, Nat.le_refl _⟩ dX7_print_54)

set_option maxRecDepth 20000 in
theorem sX7_print_L92 {g : GG} {r : Int32 × SS} {x1_ : Int32} {k144 : SS → Option (Int32 × SS)} 
    (hk144 : ∀ (σ_ : SS), k144 σ_ = some r → WT σ_ → RR g mX7_print (FinR g mX7_print (some (.int r.1)) NF r.2) zF 144 [(0, .ref (ad g 1)), (1, .int x1_), (2, .ref (ad g 45))] [] σ_)
    (n : Nat) : ∀ (v3_ : Int32) (σ_ : SS), X7_print_L92 k144 n v3_ σ_ = some r → WT σ_ → RR g mX7_print (FinR g mX7_print (some (.int r.1)) NF r.2) zF 92 [(0, .ref (ad g 1)), (1, .int x1_), (2, .ref (ad g 45)), (3, .int v3_)] [] σ_ := by
  unfold X7_print_L92
  refine lp_ind (P := fun (rec : Int32 → SS → Option (Int32 × SS)) => ∀ (v3_ : Int32) (σ_ : SS), rec v3_ σ_ = some r → WT σ_ → RR g mX7_print (FinR g mX7_print (some (.int r.1)) NF r.2) zF 92 [(0, .ref (ad g 1)), (1, .int x1_), (2, .ref (ad g 45)), (3, .int v3_)] [] σ_) ?_ ?_ n
  · intro v3_ σ_ hr; cases hr
  intro rec ih v3_ σ_ hr hw_
  refine r_iload_n (pc := 92) (j := 3) dX7_print_92 rfl rfl ?_
  refine r_iconst (pc := 93) (v := (4 : Int32)) dX7_print_93 rfl ?_
  refine r_icmp_ge (pc := 94) (tgt := 144) dX7_print_94 rfl (fun hc => ?_) (fun hc => ?_)
  · replace hr := ite_t hc hr
    exact r_pick (ls1 := [(0, .ref (ad g 1)), (1, .int x1_), (2, .ref (ad g 45))]) [0, 1, 2] rfl (hk144 σ_ hr hw_)
  replace hr := ite_f hc hr
  refine r_aload_n (pc := 97) (j := 0) dX7_print_97 rfl rfl ?_
  refine gf7_2 (pc := 98) tw_2_111 hw_ dX7_print_98 ?_
  refine r_aload_n (pc := 101) (j := 0) dX7_print_101 rfl rfl ?_
  refine gf7_9 (pc := 102) tw_2_118 hw_ dX7_print_102 ?_
  refine r_iload_n (pc := 105) (j := 3) dX7_print_105 rfl rfl ?_
  obtain ⟨h3, hr⟩ := grd_inv hr
  refine x_iald (pc := 106) (k := (Int32.toNatClampNeg v3_)) rfl h3 rfl dX7_print_106 ?_
  refine r_aload_n (pc := 107) (j := 0) dX7_print_107 rfl rfl ?_
  refine gf7_10 (pc := 108) tw_2_119 hw_ dX7_print_108 ?_
  refine r_iload_n (pc := 111) (j := 3) dX7_print_111 rfl rfl ?_
  refine x_iald (pc := 112) (k := (Int32.toNatClampNeg v3_)) rfl h3 rfl dX7_print_112 ?_
  refine r_bipush (pc := 113) (v := (9 : Int32)) dX7_print_113 rfl ?_
  obtain ⟨σ4, eσ4, hr⟩ := bnd1_inv hr
  refine kX6_putRound (pc := 115) eσ4 (wt_sc hw_).1 tw_4_227 ⟨nle rfl, nle rfl⟩ (nle rfl) dX7_print_115 fun hσ4 => ?_
  refine r_aload_n (pc := 118) (j := 2) dX7_print_118 rfl rfl ?_
  refine r_iload_n (pc := 119) (j := 3) dX7_print_119 rfl rfl ?_
  refine r_aload_n (pc := 120) (j := 0) dX7_print_120 rfl rfl ?_
  refine gf7_9 (pc := 121) tw_2_118 hσ4 dX7_print_121 ?_
  refine r_iload_n (pc := 124) (j := 3) dX7_print_124 rfl rfl ?_
  refine x_iald (pc := 125) (k := (Int32.toNatClampNeg v3_)) rfl h3 rfl dX7_print_125 ?_
  refine r_i2l (pc := 126) dX7_print_126 ?_
  refine r_aload_n (pc := 127) (j := 0) dX7_print_127 rfl rfl ?_
  refine gf7_10 (pc := 128) tw_2_119 hσ4 dX7_print_128 ?_
  refine r_iload_n (pc := 131) (j := 3) dX7_print_131 rfl rfl ?_
  refine x_iald (pc := 132) (k := (Int32.toNatClampNeg v3_)) rfl h3 rfl dX7_print_132 ?_
  refine r_i2l (pc := 133) dX7_print_133 ?_
  refine r_lconst (pc := 134) (v := (1 : Int64)) dX7_print_134 rfl ?_
  obtain ⟨σ5, eσ5, hr⟩ := bnd1_inv hr
  refine kX5_put (pc := 135) eσ5 tw_4_231 ⟨nle rfl, nle rfl⟩ (nle rfl) dX7_print_135 fun hσ5 => ?_
  refine r_iinc (pc := 138) (j := 3) (v := (v3_ + (1 : Int32))) (ls1 := [(3, .int (v3_ + (1 : Int32))), (0, .ref (ad g 1)), (1, .int x1_), (2, .ref (ad g 45))]) dX7_print_138 rfl rfl (nle rfl) rfl ?_
  refine r_goto (pc := 141) (tgt := 92) dX7_print_141 rfl ?_
  exact r_pick (ls1 := [(0, .ref (ad g 1)), (1, .int x1_), (2, .ref (ad g 45)), (3, .int (v3_ + (1 : Int32)))]) [1, 2, 3, 0] rfl (ih (v3_ + (1 : Int32)) σ5 hr hσ5)

set_option maxRecDepth 20000 in
theorem sX7_print_L178 {g : GG} {r : Int32 × SS} {u1_ : Int32} {u3_ : Int32} {k230 : SS → Option (Int32 × SS)} 
    (hk230 : ∀ (σ_ : SS), k230 σ_ = some r → WT σ_ → RR g mX7_print (FinR g mX7_print (some (.int r.1)) NF r.2) zF 230 [(0, .ref (ad g 1)), (1, .int u1_), (3, .int u3_)] [] σ_)
    (n : Nat) : ∀ (v4_ : Int32) (σ_ : SS), X7_print_L178 u1_ u3_ k230 n v4_ σ_ = some r → WT σ_ → RR g mX7_print (FinR g mX7_print (some (.int r.1)) NF r.2) zF 178 [(0, .ref (ad g 1)), (1, .int u1_), (3, .int u3_), (4, .int v4_)] [] σ_ := by
  unfold X7_print_L178
  refine lp_ind (P := fun (rec : Int32 → SS → Option (Int32 × SS)) => ∀ (v4_ : Int32) (σ_ : SS), rec v4_ σ_ = some r → WT σ_ → RR g mX7_print (FinR g mX7_print (some (.int r.1)) NF r.2) zF 178 [(0, .ref (ad g 1)), (1, .int u1_), (3, .int u3_), (4, .int v4_)] [] σ_) ?_ ?_ n
  · intro v4_ σ_ hr; cases hr
  intro rec ih v4_ σ_ hr hw_
  refine r_iload (pc := 178) (j := 3) dX7_print_178 rfl ?_
  refine r_aload_n (pc := 180) (j := 0) dX7_print_180 rfl rfl ?_
  refine gf7_5 (pc := 181) tw_2_114 hw_ dX7_print_181 ?_
  refine gf1_9 (pc := 184) tw_1_92 hw_ (wt_fo hw_).1 dX7_print_184 ?_
  refine r_iload_n (pc := 187) (j := 2) dX7_print_187 rfl rfl ?_
  obtain ⟨h11, hr⟩ := grd_inv hr
  refine x_iald (pc := 188) (k := (Int32.toNatClampNeg u3_)) (sh1_9 (wt_fo hw_).1) h11 rfl dX7_print_188 ?_
  refine r_icmp_ge (pc := 189) (tgt := 230) dX7_print_189 rfl (fun hc => ?_) (fun hc => ?_)
  · replace hr := ite_t hc hr
    exact r_pick (ls1 := [(0, .ref (ad g 1)), (1, .int u1_), (3, .int u3_)]) [0, 1, 2] rfl (hk230 σ_ hr hw_)
  replace hr := ite_f hc hr
  refine r_aload_n (pc := 192) (j := 0) dX7_print_192 rfl rfl ?_
  refine gf7_11 (pc := 193) tw_2_120 hw_ dX7_print_193 ?_
  refine r_iload_n (pc := 196) (j := 2) dX7_print_196 rfl rfl ?_
  refine x_iald (pc := 197) (k := (Int32.toNatClampNeg u3_)) rfl h11 rfl dX7_print_197 ?_
  refine r_iload (pc := 198) (j := 3) dX7_print_198 rfl ?_
  refine r_ishr (pc := 200) dX7_print_200 ?_
  refine r_iconst (pc := 201) (v := (1 : Int32)) dX7_print_201 rfl ?_
  refine r_iand (pc := 202) dX7_print_202 ?_
  refine r_iconst (pc := 203) (v := (1 : Int32)) dX7_print_203 rfl ?_
  refine r_icmp_ne (pc := 204) (tgt := 224) dX7_print_204 rfl (fun hc => ?_) (fun hc => ?_)
  · replace hr := ite_f hc hr
    refine r_iinc (pc := 224) (j := 3) (v := (v4_ + (1 : Int32))) (ls1 := [(4, .int (v4_ + (1 : Int32))), (0, .ref (ad g 1)), (1, .int u1_), (3, .int u3_)]) dX7_print_224 rfl rfl (nle rfl) rfl ?_
    refine r_goto (pc := 227) (tgt := 178) dX7_print_227 rfl ?_
    exact r_pick (ls1 := [(0, .ref (ad g 1)), (1, .int u1_), (3, .int u3_), (4, .int (v4_ + (1 : Int32)))]) [1, 2, 3, 0] rfl (ih (v4_ + (1 : Int32)) σ_ hr hw_)
  replace hr := ite_t hc hr
  refine r_aload_n (pc := 207) (j := 0) dX7_print_207 rfl rfl ?_
  refine r_aload_n (pc := 208) (j := 0) dX7_print_208 rfl rfl ?_
  refine gf7_5 (pc := 209) tw_2_114 hw_ dX7_print_209 ?_
  refine gf1_8 (pc := 212) tw_1_89 hw_ (wt_fo hw_).1 dX7_print_212 ?_
  refine r_iload_n (pc := 215) (j := 2) dX7_print_215 rfl rfl ?_
  refine x_iald (pc := 216) (k := (Int32.toNatClampNeg u3_)) (sh1_8 (wt_fo hw_).1) h11 rfl dX7_print_216 ?_
  refine r_iload (pc := 217) (j := 3) dX7_print_217 rfl ?_
  refine r_iadd (pc := 219) dX7_print_219 ?_
  refine r_iload_n (pc := 220) (j := 1) dX7_print_220 rfl rfl ?_
  obtain ⟨σ12, eσ12, hr⟩ := bnd1_inv hr
  refine kX7_inkBox (pc := 221) eσ12 tw_4_232 ⟨nle rfl, nle rfl⟩ (nle rfl) dX7_print_221 fun hσ12 => ?_
  refine r_iinc (pc := 224) (j := 3) (v := (v4_ + (1 : Int32))) (ls1 := [(4, .int (v4_ + (1 : Int32))), (0, .ref (ad g 1)), (1, .int u1_), (3, .int u3_)]) dX7_print_224 rfl rfl (nle rfl) rfl ?_
  refine r_goto (pc := 227) (tgt := 178) dX7_print_227 rfl ?_
  exact r_pick (ls1 := [(0, .ref (ad g 1)), (1, .int u1_), (3, .int u3_), (4, .int (v4_ + (1 : Int32)))]) [1, 2, 3, 0] rfl (ih (v4_ + (1 : Int32)) σ12 hr hσ12)

set_option maxRecDepth 20000 in
theorem sX7_print_L164 {g : GG} {r : Int32 × SS} {u1_ : Int32}  
    (n : Nat) : ∀ (v3_ : Int32) (σ_ : SS), X7_print_L164 u1_ n v3_ σ_ = some r → WT σ_ → RR g mX7_print (FinR g mX7_print (some (.int r.1)) NF r.2) zF 164 [(0, .ref (ad g 1)), (1, .int u1_), (3, .int v3_)] [] σ_ := by
  unfold X7_print_L164
  refine lp_ind (P := fun (rec : Int32 → SS → Option (Int32 × SS)) => ∀ (v3_ : Int32) (σ_ : SS), rec v3_ σ_ = some r → WT σ_ → RR g mX7_print (FinR g mX7_print (some (.int r.1)) NF r.2) zF 164 [(0, .ref (ad g 1)), (1, .int u1_), (3, .int v3_)] [] σ_) ?_ ?_ n
  · intro v3_ σ_ hr; cases hr
  intro rec ih v3_ σ_ hr hw_
  refine r_iload_n (pc := 164) (j := 2) dX7_print_164 rfl rfl ?_
  refine r_aload_n (pc := 165) (j := 0) dX7_print_165 rfl rfl ?_
  refine gf7_5 (pc := 166) tw_2_114 hw_ dX7_print_166 ?_
  refine gf1_5 (pc := 169) tw_1_79 (wt_fo hw_).1 dX7_print_169 ?_
  refine r_icmp_ge (pc := 172) (tgt := 236) dX7_print_172 rfl (fun hc => ?_) (fun hc => ?_)
  · replace hr := ite_t hc hr
    refine r_aload_n (pc := 236) (j := 0) dX7_print_236 rfl rfl ?_
    refine gf7_2 (pc := 237) tw_2_111 hw_ dX7_print_237 ?_
    refine r_iconst (pc := 240) (v := (1 : Int32)) dX7_print_240 rfl ?_
    obtain ⟨v8, hv8, hr⟩ := bnd1_inv hr
    refine kX6_notBelow (pc := 241) hv8 (wt_sc hw_).1 tw_3_75 ⟨nle rfl, nle rfl⟩ (nle rfl) dX7_print_241 ?_
    exact l_osi hr (r_iret (pc := 244) (v := v8) rfl rfl ⟨Nat.le_refl _, Nat.le_refl _⟩ dX7_print_244)
  replace hr := ite_f hc hr
  refine r_iconst (pc := 175) (v := (0 : Int32)) dX7_print_175 rfl ?_
  refine r_istore (pc := 176) (ls1 := [(4, .int (0 : Int32)), (0, .ref (ad g 1)), (1, .int u1_), (3, .int v3_)]) dX7_print_176 (nle rfl) rfl ?_
  refine r_pick (ls1 := [(0, .ref (ad g 1)), (1, .int u1_), (3, .int v3_), (4, .int (0 : Int32))]) [1, 2, 3, 0] rfl ?_
  refine sX7_print_L178    (fun σ13 hr hσ13 => ?_) fuel (0 : Int32) σ_ hr hw_
  refine r_iinc (pc := 230) (j := 2) (v := (v3_ + (1 : Int32))) (ls1 := [(3, .int (v3_ + (1 : Int32))), (0, .ref (ad g 1)), (1, .int u1_)]) dX7_print_230 rfl rfl (nle rfl) rfl ?_
  refine r_goto (pc := 233) (tgt := 164) dX7_print_233 rfl ?_
  exact r_pick (ls1 := [(0, .ref (ad g 1)), (1, .int u1_), (3, .int (v3_ + (1 : Int32)))]) [1, 2, 0] rfl (ih (v3_ + (1 : Int32)) σ13 hr hσ13)

set_option maxRecDepth 20000 in
theorem sX7_print {g : GG} {σ : SS} {a1 : Int32} {r : Int32 × SS} (hr : fX7_print σ a1 = some r)  : Ct g mX7_print [.ref (ad g 1), .int a1] NF σ (some (.int r.1)) NF r.2 := by
  refine Ct.of (by decide +kernel) (nle rfl) fun hw0 => ?_
  have hw := hw0 rfl
  unfold fX7_print at hr
  change RR g mX7_print (FinR g mX7_print (some (.int r.1)) NF r.2) zF 0 [(0, .ref (ad g 1)), (1, .int a1)] [] σ
  refine r_aload_n (pc := 0) (j := 0) dX7_print_0 rfl rfl ?_
  refine gf7_5 (pc := 1) tw_2_114 hw dX7_print_1 ?_
  refine gf1_0 (pc := 4) tw_1_61 (wt_fo hw).1 dX7_print_4 ?_
  refine r_if_eq (pc := 7) (tgt := 21) dX7_print_7 rfl (fun hc => ?_) (fun hc => ?_)
  · replace hr := ite_t hc hr
    refine r_iconst (pc := 21) (v := (-1 : Int32)) dX7_print_21 rfl ?_
    exact l_osi hr (r_iret (pc := 22) (v := (-1 : Int32)) rfl rfl ⟨Nat.le_refl _, Nat.le_refl _⟩ dX7_print_22)
  replace hr := ite_f hc hr
  refine r_iload_n (pc := 10) (j := 1) dX7_print_10 rfl rfl ?_
  refine r_iconst (pc := 11) (v := (1 : Int32)) dX7_print_11 rfl ?_
  refine r_icmp_lt (pc := 12) (tgt := 21) dX7_print_12 rfl (fun hc => ?_) (fun hc => ?_)
  · replace hr := ite_t hc hr
    refine r_iconst (pc := 21) (v := (-1 : Int32)) dX7_print_21 rfl ?_
    exact l_osi hr (r_iret (pc := 22) (v := (-1 : Int32)) rfl rfl ⟨Nat.le_refl _, Nat.le_refl _⟩ dX7_print_22)
  replace hr := ite_f hc hr
  refine r_iload_n (pc := 15) (j := 1) dX7_print_15 rfl rfl ?_
  refine r_bipush (pc := 16) (v := (9 : Int32)) dX7_print_16 rfl ?_
  refine r_icmp_le (pc := 18) (tgt := 23) dX7_print_18 rfl (fun hc => ?_) (fun hc => ?_)
  · replace hr := ite_t hc hr
    refine r_iconst (pc := 23) (v := (0 : Int32)) dX7_print_23 rfl ?_
    refine r_istore_n (pc := 24) (ls1 := [(2, .int (0 : Int32)), (0, .ref (ad g 1)), (1, .int a1)]) dX7_print_24 rfl (nle rfl) rfl ?_
    refine r_pick (ls1 := [(0, .ref (ad g 1)), (1, .int a1), (2, .int (0 : Int32))]) [1, 2, 0] rfl ?_
    refine sX7_print_L25  hw  (fun hr => ?_) fuel (0 : Int32) hr
    refine r_aload_n (pc := 61) (j := 0) dX7_print_61 rfl rfl ?_
    refine gf7_2 (pc := 62) tw_2_111 hw dX7_print_62 ?_
    refine r_aload_n (pc := 65) (j := 0) dX7_print_65 rfl rfl ?_
    refine gf7_2 (pc := 66) tw_2_111 hw dX7_print_66 ?_
    refine gf6_0 (pc := 69) tw_1_35 (wt_sc hw).1 dX7_print_69 ?_
    refine r_aload_n (pc := 72) (j := 0) dX7_print_72 rfl rfl ?_
    refine gf7_2 (pc := 73) tw_2_111 hw dX7_print_73 ?_
    refine gf6_1 (pc := 76) tw_1_38 (wt_sc hw).1 dX7_print_76 ?_
    obtain ⟨σ2, eσ2, hr⟩ := bnd1_inv hr
    refine kX6_empty (pc := 79) eσ2 (wt_sc hw).1 tw_2_102 ⟨nle rfl, nle rfl⟩ (nle rfl) dX7_print_79 fun hσ2 => ?_
    refine r_aload_n (pc := 82) (j := 0) dX7_print_82 rfl rfl ?_
    refine gf7_12 (pc := 83) tw_2_121 hσ2 dX7_print_83 ?_
    refine gf3_3 (pc := 86) tw_2_29 hσ2 dX7_print_86 ?_
    refine r_astore_n (pc := 89) (ls1 := [(2, .ref (ad g 45)), (0, .ref (ad g 1)), (1, .int a1)]) dX7_print_89 rfl (nle rfl) rfl ?_
    refine r_iconst (pc := 90) (v := (0 : Int32)) dX7_print_90 rfl ?_
    refine r_istore_n (pc := 91) (ls1 := [(3, .int (0 : Int32)), (2, .ref (ad g 45)), (0, .ref (ad g 1)), (1, .int a1)]) dX7_print_91 rfl (nle rfl) rfl ?_
    refine r_pick (ls1 := [(0, .ref (ad g 1)), (1, .int a1), (2, .ref (ad g 45)), (3, .int (0 : Int32))]) [2, 3, 1, 0] rfl ?_
    refine sX7_print_L92    (fun σ6 hr hσ6 => ?_) fuel (0 : Int32) σ2 hr hσ2
    refine r_aload_n (pc := 144) (j := 2) dX7_print_144 rfl rfl ?_
    refine r_aload_n (pc := 145) (j := 0) dX7_print_145 rfl rfl ?_
    refine gf7_5 (pc := 146) tw_2_114 hσ6 dX7_print_146 ?_
    refine gf1_1 (pc := 149) tw_1_65 (wt_fo hσ6).1 dX7_print_149 ?_
    refine r_aload_n (pc := 152) (j := 0) dX7_print_152 rfl rfl ?_
    refine gf7_5 (pc := 153) tw_2_114 hσ6 dX7_print_153 ?_
    refine gf1_2 (pc := 156) tw_1_69 (wt_fo hσ6).1 dX7_print_156 ?_
    obtain ⟨σ7, eσ7, hr⟩ := bnd1_inv hr
    refine kX5_spread (pc := 159) eσ7 tw_4_79 ⟨nle rfl, nle rfl⟩ (nle rfl) dX7_print_159 fun hσ7 => ?_
    refine r_iconst (pc := 162) (v := (0 : Int32)) dX7_print_162 rfl ?_
    refine r_istore_n (pc := 163) (ls1 := [(3, .int (0 : Int32)), (0, .ref (ad g 1)), (1, .int a1), (2, .ref (ad g 45))]) dX7_print_163 rfl (nle rfl) rfl ?_
    refine r_pick (ls1 := [(0, .ref (ad g 1)), (1, .int a1), (3, .int (0 : Int32))]) [1, 2, 0] rfl ?_
    refine sX7_print_L164     fuel (0 : Int32) σ7 hr hσ7
  replace hr := ite_f hc hr
  refine r_iconst (pc := 21) (v := (-1 : Int32)) dX7_print_21 rfl ?_
  exact l_osi hr (r_iret (pc := 22) (v := (-1 : Int32)) rfl rfl ⟨Nat.le_refl _, Nat.le_refl _⟩ dX7_print_22)

theorem kX7_print {g : GG} {σ : SS} {a1 : Int32} {v : Int32} {σ2 : SS} {M : MM} {F : State → Array Value → List Frame → State → Prop} {pc index : Nat} {ls : List (Nat × Value)} {rest : List Value} (hf : fX7_print σ a1 = some (v, σ2))  (hl : Cond.methodLink M.1.cls index yX7_print ∈ lw_gt) (hR : mX7_print.2.2.2.2.frames + 1 ≤ M.2.2.2.2.frames ∧ 8 + (mX7_print.2.2.1 + 11) + mX7_print.2.2.2.2.locals ≤ M.2.2.2.2.locals) (hrest : (rest.map fun v => v.category).sum ≤ 8) (hd : decode M.2.1 pc = .ok (.invokevirtual index, 3)) (k : WT σ2 → RR g M F zF (pc + 3) ls (.int v :: rest) σ2) : RR g M F zF pc ls (.int a1 :: .ref (ad g 1) :: rest) σ :=
  r_callV (N := mX7_print) (nn := 1) (o1 := some (.int v)) (sX7_print hf ) (rfl : shp 1 = (7, 0)) (by decide) (shp_le (rfl : shp 1 = (7, 0)) (nle rfl)) (ci := 7) rfl rfl tw_4_222 tw_1_1 hl tw_4_220 tw_4_221 ⟨by decide, by decide, rfl⟩ hR rfl hrest hd ⟨Nat.zero_le _, Nat.zero_le _⟩ rfl (fun h => k (h rfl))

theorem dX8_inks_0 : decode cX8_inks 0 = .ok (.bipush 6, 2) := by decide +kernel
theorem dX8_inks_2 : decode cX8_inks 2 = .ok (.bipush 12, 2) := by decide +kernel
theorem dX8_inks_4 : decode cX8_inks 4 = .ok (.aload_n 0, 1) := by decide +kernel
theorem dX8_inks_5 : decode cX8_inks 5 = .ok (.getfield 206, 3) := by decide +kernel
theorem dX8_inks_8 : decode cX8_inks 8 = .ok (.imul, 1) := by decide +kernel
theorem dX8_inks_9 : decode cX8_inks 9 = .ok (.iload_n 1, 1) := by decide +kernel
theorem dX8_inks_10 : decode cX8_inks 10 = .ok (.iadd, 1) := by decide +kernel
theorem dX8_inks_11 : decode cX8_inks 11 = .ok (.imul, 1) := by decide +kernel
theorem dX8_inks_12 : decode cX8_inks 12 = .ok (.iload_n 2, 1) := by decide +kernel
theorem dX8_inks_13 : decode cX8_inks 13 = .ok (.iadd, 1) := by decide +kernel
theorem dX8_inks_14 : decode cX8_inks 14 = .ok (.istore 4, 2) := by decide +kernel
theorem dX8_inks_16 : decode cX8_inks 16 = .ok (.iconst 0, 1) := by decide +kernel
theorem dX8_inks_17 : decode cX8_inks 17 = .ok (.istore 5, 2) := by decide +kernel
theorem dX8_inks_19 : decode cX8_inks 19 = .ok (.iload 5, 2) := by decide +kernel
theorem dX8_inks_21 : decode cX8_inks 21 = .ok (.aload_n 0, 1) := by decide +kernel
theorem dX8_inks_22 : decode cX8_inks 22 = .ok (.iconst 3, 1) := by decide +kernel
theorem dX8_inks_23 : decode cX8_inks 23 = .ok (.invokevirtual 262, 3) := by decide +kernel
theorem dX8_inks_26 : decode cX8_inks 26 = .ok (.if_icmp .ge 125, 3) := by decide +kernel
theorem dX8_inks_29 : decode cX8_inks 29 = .ok (.iconst 0, 1) := by decide +kernel
theorem dX8_inks_30 : decode cX8_inks 30 = .ok (.istore 6, 2) := by decide +kernel
theorem dX8_inks_32 : decode cX8_inks 32 = .ok (.iload 6, 2) := by decide +kernel
theorem dX8_inks_34 : decode cX8_inks 34 = .ok (.aload_n 0, 1) := by decide +kernel
theorem dX8_inks_35 : decode cX8_inks 35 = .ok (.iconst 2, 1) := by decide +kernel
theorem dX8_inks_36 : decode cX8_inks 36 = .ok (.invokevirtual 262, 3) := by decide +kernel
theorem dX8_inks_39 : decode cX8_inks 39 = .ok (.if_icmp .ge 106, 3) := by decide +kernel
theorem dX8_inks_42 : decode cX8_inks 42 = .ok (.aload_n 0, 1) := by decide +kernel
theorem dX8_inks_43 : decode cX8_inks 43 = .ok (.iconst 2, 1) := by decide +kernel
theorem dX8_inks_44 : decode cX8_inks 44 = .ok (.aload_n 0, 1) := by decide +kernel
theorem dX8_inks_45 : decode cX8_inks 45 = .ok (.getfield 29, 3) := by decide +kernel
theorem dX8_inks_48 : decode cX8_inks 48 = .ok (.iload 4, 2) := by decide +kernel
theorem dX8_inks_50 : decode cX8_inks 50 = .ok (.iaload, 1) := by decide +kernel
theorem dX8_inks_51 : decode cX8_inks 51 = .ok (.iload 6, 2) := by decide +kernel
theorem dX8_inks_53 : decode cX8_inks 53 = .ok (.iadd, 1) := by decide +kernel
theorem dX8_inks_54 : decode cX8_inks 54 = .ok (.imul, 1) := by decide +kernel
theorem dX8_inks_55 : decode cX8_inks 55 = .ok (.iconst 1, 1) := by decide +kernel
theorem dX8_inks_56 : decode cX8_inks 56 = .ok (.iadd, 1) := by decide +kernel
theorem dX8_inks_57 : decode cX8_inks 57 = .ok (.iconst 2, 1) := by decide +kernel
theorem dX8_inks_58 : decode cX8_inks 58 = .ok (.aload_n 0, 1) := by decide +kernel
theorem dX8_inks_59 : decode cX8_inks 59 = .ok (.getfield 32, 3) := by decide +kernel
theorem dX8_inks_62 : decode cX8_inks 62 = .ok (.iload 4, 2) := by decide +kernel
theorem dX8_inks_64 : decode cX8_inks 64 = .ok (.iaload, 1) := by decide +kernel
theorem dX8_inks_65 : decode cX8_inks 65 = .ok (.iload 5, 2) := by decide +kernel
theorem dX8_inks_67 : decode cX8_inks 67 = .ok (.iadd, 1) := by decide +kernel
theorem dX8_inks_68 : decode cX8_inks 68 = .ok (.imul, 1) := by decide +kernel
theorem dX8_inks_69 : decode cX8_inks 69 = .ok (.iconst 1, 1) := by decide +kernel
theorem dX8_inks_70 : decode cX8_inks 70 = .ok (.iadd, 1) := by decide +kernel
theorem dX8_inks_71 : decode cX8_inks 71 = .ok (.iconst 1, 1) := by decide +kernel
theorem dX8_inks_72 : decode cX8_inks 72 = .ok (.invokevirtual 357, 3) := by decide +kernel
theorem dX8_inks_75 : decode cX8_inks 75 = .ok (.istore 7, 2) := by decide +kernel
theorem dX8_inks_77 : decode cX8_inks 77 = .ok (.aload_n 0, 1) := by decide +kernel
theorem dX8_inks_78 : decode cX8_inks 78 = .ok (.iconst 2, 1) := by decide +kernel
theorem dX8_inks_79 : decode cX8_inks 79 = .ok (.aload_n 0, 1) := by decide +kernel
theorem dX8_inks_80 : decode cX8_inks 80 = .ok (.getfield 29, 3) := by decide +kernel
theorem dX8_inks_83 : decode cX8_inks 83 = .ok (.iload 4, 2) := by decide +kernel
theorem dX8_inks_85 : decode cX8_inks 85 = .ok (.iaload, 1) := by decide +kernel
theorem dX8_inks_86 : decode cX8_inks 86 = .ok (.iload 6, 2) := by decide +kernel
theorem dX8_inks_88 : decode cX8_inks 88 = .ok (.iadd, 1) := by decide +kernel
theorem dX8_inks_89 : decode cX8_inks 89 = .ok (.imul, 1) := by decide +kernel
theorem dX8_inks_90 : decode cX8_inks 90 = .ok (.iconst 1, 1) := by decide +kernel
theorem dX8_inks_91 : decode cX8_inks 91 = .ok (.iadd, 1) := by decide +kernel
theorem dX8_inks_92 : decode cX8_inks 92 = .ok (.iconst 2, 1) := by decide +kernel
theorem dX8_inks_93 : decode cX8_inks 93 = .ok (.aload_n 0, 1) := by decide +kernel
theorem dX8_inks_94 : decode cX8_inks 94 = .ok (.getfield 32, 3) := by decide +kernel
theorem dX8_inks_97 : decode cX8_inks 97 = .ok (.iload 4, 2) := by decide +kernel
theorem dX8_inks_99 : decode cX8_inks 99 = .ok (.iaload, 1) := by decide +kernel
theorem dX8_inks_100 : decode cX8_inks 100 = .ok (.iload 5, 2) := by decide +kernel
theorem dX8_inks_102 : decode cX8_inks 102 = .ok (.iadd, 1) := by decide +kernel
theorem dX8_inks_103 : decode cX8_inks 103 = .ok (.imul, 1) := by decide +kernel
theorem dX8_inks_104 : decode cX8_inks 104 = .ok (.iconst 1, 1) := by decide +kernel
theorem dX8_inks_105 : decode cX8_inks 105 = .ok (.iadd, 1) := by decide +kernel
theorem dX8_inks_106 : decode cX8_inks 106 = .ok (.iconst 0, 1) := by decide +kernel
theorem dX8_inks_107 : decode cX8_inks 107 = .ok (.invokevirtual 357, 3) := by decide +kernel
theorem dX8_inks_110 : decode cX8_inks 110 = .ok (.istore 8, 2) := by decide +kernel
theorem dX8_inks_112 : decode cX8_inks 112 = .ok (.aload_n 0, 1) := by decide +kernel
theorem dX8_inks_113 : decode cX8_inks 113 = .ok (.iload 7, 2) := by decide +kernel
theorem dX8_inks_115 : decode cX8_inks 115 = .ok (.iload 8, 2) := by decide +kernel
theorem dX8_inks_117 : decode cX8_inks 117 = .ok (.invokevirtual 281, 3) := by decide +kernel
theorem dX8_inks_120 : decode cX8_inks 120 = .ok (.ifCond .eq 19, 3) := by decide +kernel
theorem dX8_inks_123 : decode cX8_inks 123 = .ok (.aload_n 0, 1) := by decide +kernel
theorem dX8_inks_124 : decode cX8_inks 124 = .ok (.getfield 38, 3) := by decide +kernel
theorem dX8_inks_127 : decode cX8_inks 127 = .ok (.aload_n 0, 1) := by decide +kernel
theorem dX8_inks_128 : decode cX8_inks 128 = .ok (.getfield 132, 3) := by decide +kernel
theorem dX8_inks_131 : decode cX8_inks 131 = .ok (.iload 8, 2) := by decide +kernel
theorem dX8_inks_133 : decode cX8_inks 133 = .ok (.imul, 1) := by decide +kernel
theorem dX8_inks_134 : decode cX8_inks 134 = .ok (.iload 7, 2) := by decide +kernel
theorem dX8_inks_136 : decode cX8_inks 136 = .ok (.iadd, 1) := by decide +kernel
theorem dX8_inks_137 : decode cX8_inks 137 = .ok (.iload_n 3, 1) := by decide +kernel
theorem dX8_inks_138 : decode cX8_inks 138 = .ok (.iastore, 1) := by decide +kernel
theorem dX8_inks_139 : decode cX8_inks 139 = .ok (.iinc 6 1, 3) := by decide +kernel
theorem dX8_inks_142 : decode cX8_inks 142 = .ok (.goto (-110), 3) := by decide +kernel
theorem dX8_inks_145 : decode cX8_inks 145 = .ok (.iinc 5 1, 3) := by decide +kernel
theorem dX8_inks_148 : decode cX8_inks 148 = .ok (.goto (-129), 3) := by decide +kernel
theorem dX8_inks_151 : decode cX8_inks 151 = .ok (.return_, 1) := by decide +kernel
def mX8_inks : MM := (yX8_inks, cX8_inks, 9, none, { frames := 3, cells := 0, slots := 0, locals := 76 })
def X8_inks_L32 (u3_ : Int32) (u4_ : Int32) (u5_ : Int32) (k145 : SS → Option SS) : Nat → Int32 → SS → Option SS :=
  lp (fun _ _ => none) fun rec v6_ σ_ =>
    bnd1 (fX8_headOf σ_ (2 : Int32)) fun v5 =>
    if v5 ≤ v6_ then (
      k145 σ_
      ) else (
      grd (inb u4_ 144) <|
      bnd (fX8_mapped σ_ (((2 : Int32) * ((gI σ_ 80 (Int32.toNatClampNeg u4_)) + v6_)) + (1 : Int32)) (((2 : Int32) * ((gI σ_ 81 (Int32.toNatClampNeg u4_)) + u5_)) + (1 : Int32)) true) fun v9 σ12 =>
      bnd (fX8_mapped σ12 (((2 : Int32) * ((gI σ12 80 (Int32.toNatClampNeg u4_)) + v6_)) + (1 : Int32)) (((2 : Int32) * ((gI σ12 81 (Int32.toNatClampNeg u4_)) + u5_)) + (1 : Int32)) false) fun v13 σ16 =>
      if (fX8_isDot σ16 v9 v13) = true then (
        grd (inb (((gI σ16 73 29) * v13) + v9) 1600) <|
        vthen (sI σ16 83 (Int32.toNatClampNeg (((gI σ16 73 29) * v13) + v9)) u3_) fun σ18 =>
        rec (v6_ + (1 : Int32)) σ18
        ) else (
        rec (v6_ + (1 : Int32)) σ16
        )
      )

def X8_inks_L19 (u3_ : Int32) (u4_ : Int32)  : Nat → Int32 → SS → Option SS :=
  lp (fun _ _ => none) fun rec v5_ σ_ =>
    bnd1 (fX8_headOf σ_ (3 : Int32)) fun v2 =>
    if v2 ≤ v5_ then (
      some σ_
      ) else (
      X8_inks_L32 u3_ u4_ v5_
      (fun σ19 =>
        rec (v5_ + (1 : Int32)) σ19
        )
      fuel (0 : Int32) σ_
      )

def fX8_inks (σ : SS) (a1 : Int32) (a2 : Int32) (a3 : Int32) : Option SS :=
  vthen (((6 : Int32) * (((12 : Int32) * (gI σ 73 11)) + a1)) + a2) fun v1 =>
  X8_inks_L19 a3 v1
  fuel (0 : Int32) σ

set_option maxRecDepth 20000 in
theorem sX8_inks_L32 {g : GG} {r : SS} {u3_ : Int32} {u4_ : Int32} {u5_ : Int32} {k145 : SS → Option SS} 
    (hk145 : ∀ (σ_ : SS), k145 σ_ = some r → WT σ_ → RR g mX8_inks (FinR g mX8_inks none NF r) zF 145 [(0, .ref (ad g 73)), (3, .int u3_), (4, .int u4_), (5, .int u5_)] [] σ_)
    (n : Nat) : ∀ (v6_ : Int32) (σ_ : SS), X8_inks_L32 u3_ u4_ u5_ k145 n v6_ σ_ = some r → WT σ_ → RR g mX8_inks (FinR g mX8_inks none NF r) zF 32 [(0, .ref (ad g 73)), (3, .int u3_), (4, .int u4_), (5, .int u5_), (6, .int v6_)] [] σ_ := by
  unfold X8_inks_L32
  refine lp_ind (P := fun (rec : Int32 → SS → Option SS) => ∀ (v6_ : Int32) (σ_ : SS), rec v6_ σ_ = some r → WT σ_ → RR g mX8_inks (FinR g mX8_inks none NF r) zF 32 [(0, .ref (ad g 73)), (3, .int u3_), (4, .int u4_), (5, .int u5_), (6, .int v6_)] [] σ_) ?_ ?_ n
  · intro v6_ σ_ hr; cases hr
  intro rec ih v6_ σ_ hr hw_
  refine r_iload (pc := 32) (j := 4) dX8_inks_32 rfl ?_
  refine r_aload_n (pc := 34) (j := 0) dX8_inks_34 rfl rfl ?_
  refine r_iconst (pc := 35) (v := (2 : Int32)) dX8_inks_35 rfl ?_
  obtain ⟨v5, hv5, hr⟩ := bnd1_inv hr
  refine kX8_headOf (pc := 36) hv5 tw_6_149 ⟨nle rfl, nle rfl⟩ (nle rfl) dX8_inks_36 ?_
  refine r_icmp_ge (pc := 39) (tgt := 145) dX8_inks_39 rfl (fun hc => ?_) (fun hc => ?_)
  · replace hr := ite_t hc hr
    exact r_pick (ls1 := [(0, .ref (ad g 73)), (3, .int u3_), (4, .int u4_), (5, .int u5_)]) [0, 1, 2, 3] rfl (hk145 σ_ hr hw_)
  replace hr := ite_f hc hr
  refine r_aload_n (pc := 42) (j := 0) dX8_inks_42 rfl rfl ?_
  refine r_iconst (pc := 43) (v := (2 : Int32)) dX8_inks_43 rfl ?_
  refine r_aload_n (pc := 44) (j := 0) dX8_inks_44 rfl rfl ?_
  refine gf8_18 (pc := 45) tw_5_112 hw_ dX8_inks_45 ?_
  refine r_iload (pc := 48) (j := 2) dX8_inks_48 rfl ?_
  obtain ⟨h8, hr⟩ := grd_inv hr
  refine x_iald (pc := 50) (k := (Int32.toNatClampNeg u4_)) rfl h8 rfl dX8_inks_50 ?_
  refine r_iload (pc := 51) (j := 4) dX8_inks_51 rfl ?_
  refine r_iadd (pc := 53) dX8_inks_53 ?_
  refine r_imul (pc := 54) dX8_inks_54 ?_
  refine r_iconst (pc := 55) (v := (1 : Int32)) dX8_inks_55 rfl ?_
  refine r_iadd (pc := 56) dX8_inks_56 ?_
  refine r_iconst (pc := 57) (v := (2 : Int32)) dX8_inks_57 rfl ?_
  refine r_aload_n (pc := 58) (j := 0) dX8_inks_58 rfl rfl ?_
  refine gf8_19 (pc := 59) tw_5_113 hw_ dX8_inks_59 ?_
  refine r_iload (pc := 62) (j := 2) dX8_inks_62 rfl ?_
  refine x_iald (pc := 64) (k := (Int32.toNatClampNeg u4_)) rfl h8 rfl dX8_inks_64 ?_
  refine r_iload (pc := 65) (j := 3) dX8_inks_65 rfl ?_
  refine r_iadd (pc := 67) dX8_inks_67 ?_
  refine r_imul (pc := 68) dX8_inks_68 ?_
  refine r_iconst (pc := 69) (v := (1 : Int32)) dX8_inks_69 rfl ?_
  refine r_iadd (pc := 70) dX8_inks_70 ?_
  refine r_iconst (pc := 71) (v := (1 : Int32)) dX8_inks_71 rfl ?_
  obtain ⟨v9, σ12, eσ12, hr⟩ := bnd_inv hr
  refine kX8_mapped (pc := 72) eσ12 tw_7_76 ⟨nle rfl, nle rfl⟩ (nle rfl) dX8_inks_72 fun hσ12 => ?_
  refine r_istore (pc := 75) (ls1 := [(7, .int v9), (0, .ref (ad g 73)), (3, .int u3_), (4, .int u4_), (5, .int u5_), (6, .int v6_)]) dX8_inks_75 (nle rfl) rfl ?_
  refine r_aload_n (pc := 77) (j := 1) dX8_inks_77 rfl rfl ?_
  refine r_iconst (pc := 78) (v := (2 : Int32)) dX8_inks_78 rfl ?_
  refine r_aload_n (pc := 79) (j := 1) dX8_inks_79 rfl rfl ?_
  refine gf8_18 (pc := 80) tw_5_112 hσ12 dX8_inks_80 ?_
  refine r_iload (pc := 83) (j := 3) dX8_inks_83 rfl ?_
  refine x_iald (pc := 85) (k := (Int32.toNatClampNeg u4_)) rfl h8 rfl dX8_inks_85 ?_
  refine r_iload (pc := 86) (j := 5) dX8_inks_86 rfl ?_
  refine r_iadd (pc := 88) dX8_inks_88 ?_
  refine r_imul (pc := 89) dX8_inks_89 ?_
  refine r_iconst (pc := 90) (v := (1 : Int32)) dX8_inks_90 rfl ?_
  refine r_iadd (pc := 91) dX8_inks_91 ?_
  refine r_iconst (pc := 92) (v := (2 : Int32)) dX8_inks_92 rfl ?_
  refine r_aload_n (pc := 93) (j := 1) dX8_inks_93 rfl rfl ?_
  refine gf8_19 (pc := 94) tw_5_113 hσ12 dX8_inks_94 ?_
  refine r_iload (pc := 97) (j := 3) dX8_inks_97 rfl ?_
  refine x_iald (pc := 99) (k := (Int32.toNatClampNeg u4_)) rfl h8 rfl dX8_inks_99 ?_
  refine r_iload (pc := 100) (j := 4) dX8_inks_100 rfl ?_
  refine r_iadd (pc := 102) dX8_inks_102 ?_
  refine r_imul (pc := 103) dX8_inks_103 ?_
  refine r_iconst (pc := 104) (v := (1 : Int32)) dX8_inks_104 rfl ?_
  refine r_iadd (pc := 105) dX8_inks_105 ?_
  refine r_iconst (pc := 106) (v := (0 : Int32)) dX8_inks_106 rfl ?_
  obtain ⟨v13, σ16, eσ16, hr⟩ := bnd_inv hr
  refine kX8_mapped (pc := 107) eσ16 tw_7_76 ⟨nle rfl, nle rfl⟩ (nle rfl) dX8_inks_107 fun hσ16 => ?_
  refine r_istore (pc := 110) (ls1 := [(8, .int v13), (7, .int v9), (0, .ref (ad g 73)), (3, .int u3_), (4, .int u4_), (5, .int u5_), (6, .int v6_)]) dX8_inks_110 (nle rfl) rfl ?_
  refine r_aload_n (pc := 112) (j := 2) dX8_inks_112 rfl rfl ?_
  refine r_iload (pc := 113) (j := 1) dX8_inks_113 rfl ?_
  refine r_iload (pc := 115) (j := 0) dX8_inks_115 rfl ?_
  refine kX8_isDot (pc := 117) (hf := rfl) tw_6_173 ⟨nle rfl, nle rfl⟩ (nle rfl) dX8_inks_117 ?_
  refine r_ifB_eq (pc := 120) (tgt := 139) dX8_inks_120 rfl (fun hc => ?_) (fun hc => ?_)
  · replace hr := ite_f hc hr
    refine r_iinc (pc := 139) (j := 6) (v := (v6_ + (1 : Int32))) (ls1 := [(6, .int (v6_ + (1 : Int32))), (8, .int v13), (7, .int v9), (0, .ref (ad g 73)), (3, .int u3_), (4, .int u4_), (5, .int u5_)]) dX8_inks_139 rfl rfl (nle rfl) rfl ?_
    refine r_goto (pc := 142) (tgt := 32) dX8_inks_142 rfl ?_
    exact r_pick (ls1 := [(0, .ref (ad g 73)), (3, .int u3_), (4, .int u4_), (5, .int u5_), (6, .int (v6_ + (1 : Int32)))]) [3, 4, 5, 6, 0] rfl (ih (v6_ + (1 : Int32)) σ16 hr hσ16)
  replace hr := ite_t hc hr
  refine r_aload_n (pc := 123) (j := 2) dX8_inks_123 rfl rfl ?_
  refine gf8_21 (pc := 124) tw_5_115 hσ16 dX8_inks_124 ?_
  refine r_aload_n (pc := 127) (j := 2) dX8_inks_127 rfl rfl ?_
  refine gf8_29 (pc := 128) tw_5_123 rfl dX8_inks_128 ?_
  refine r_iload (pc := 131) (j := 0) dX8_inks_131 rfl ?_
  refine r_imul (pc := 133) dX8_inks_133 ?_
  refine r_iload (pc := 134) (j := 1) dX8_inks_134 rfl ?_
  refine r_iadd (pc := 136) dX8_inks_136 ?_
  refine r_iload_n (pc := 137) (j := 3) dX8_inks_137 rfl rfl ?_
  obtain ⟨h17, hr⟩ := grd_inv hr
  refine x_iast (pc := 138) (j := (Int32.toNatClampNeg (((gI σ16 73 29) * v13) + v9))) rfl h17 rfl dX8_inks_138 fun σ18 eσ18 => ?_
  replace hr := vthen_inv hr σ18 eσ18
  have hσ18 := wtI eσ18 hσ16
  refine r_iinc (pc := 139) (j := 6) (v := (v6_ + (1 : Int32))) (ls1 := [(6, .int (v6_ + (1 : Int32))), (8, .int v13), (7, .int v9), (0, .ref (ad g 73)), (3, .int u3_), (4, .int u4_), (5, .int u5_)]) dX8_inks_139 rfl rfl (nle rfl) rfl ?_
  refine r_goto (pc := 142) (tgt := 32) dX8_inks_142 rfl ?_
  exact r_pick (ls1 := [(0, .ref (ad g 73)), (3, .int u3_), (4, .int u4_), (5, .int u5_), (6, .int (v6_ + (1 : Int32)))]) [3, 4, 5, 6, 0] rfl (ih (v6_ + (1 : Int32)) σ18 hr hσ18)

set_option maxRecDepth 20000 in
theorem sX8_inks_L19 {g : GG} {r : SS} {u3_ : Int32} {u4_ : Int32}  
    (n : Nat) : ∀ (v5_ : Int32) (σ_ : SS), X8_inks_L19 u3_ u4_ n v5_ σ_ = some r → WT σ_ → RR g mX8_inks (FinR g mX8_inks none NF r) zF 19 [(0, .ref (ad g 73)), (3, .int u3_), (4, .int u4_), (5, .int v5_)] [] σ_ := by
  unfold X8_inks_L19
  refine lp_ind (P := fun (rec : Int32 → SS → Option SS) => ∀ (v5_ : Int32) (σ_ : SS), rec v5_ σ_ = some r → WT σ_ → RR g mX8_inks (FinR g mX8_inks none NF r) zF 19 [(0, .ref (ad g 73)), (3, .int u3_), (4, .int u4_), (5, .int v5_)] [] σ_) ?_ ?_ n
  · intro v5_ σ_ hr; cases hr
  intro rec ih v5_ σ_ hr hw_
  refine r_iload (pc := 19) (j := 3) dX8_inks_19 rfl ?_
  refine r_aload_n (pc := 21) (j := 0) dX8_inks_21 rfl rfl ?_
  refine r_iconst (pc := 22) (v := (3 : Int32)) dX8_inks_22 rfl ?_
  obtain ⟨v2, hv2, hr⟩ := bnd1_inv hr
  refine kX8_headOf (pc := 23) hv2 tw_6_149 ⟨nle rfl, nle rfl⟩ (nle rfl) dX8_inks_23 ?_
  refine r_icmp_ge (pc := 26) (tgt := 151) dX8_inks_26 rfl (fun hc => ?_) (fun hc => ?_)
  · replace hr := ite_t hc hr
    exact l_ov hr (r_vret (pc := 151) rfl rfl ⟨Nat.le_refl _, Nat.le_refl _⟩ dX8_inks_151)
  replace hr := ite_f hc hr
  refine r_iconst (pc := 29) (v := (0 : Int32)) dX8_inks_29 rfl ?_
  refine r_istore (pc := 30) (ls1 := [(6, .int (0 : Int32)), (0, .ref (ad g 73)), (3, .int u3_), (4, .int u4_), (5, .int v5_)]) dX8_inks_30 (nle rfl) rfl ?_
  refine r_pick (ls1 := [(0, .ref (ad g 73)), (3, .int u3_), (4, .int u4_), (5, .int v5_), (6, .int (0 : Int32))]) [1, 2, 3, 4, 0] rfl ?_
  refine sX8_inks_L32    (fun σ19 hr hσ19 => ?_) fuel (0 : Int32) σ_ hr hw_
  refine r_iinc (pc := 145) (j := 3) (v := (v5_ + (1 : Int32))) (ls1 := [(5, .int (v5_ + (1 : Int32))), (0, .ref (ad g 73)), (3, .int u3_), (4, .int u4_)]) dX8_inks_145 rfl rfl (nle rfl) rfl ?_
  refine r_goto (pc := 148) (tgt := 19) dX8_inks_148 rfl ?_
  exact r_pick (ls1 := [(0, .ref (ad g 73)), (3, .int u3_), (4, .int u4_), (5, .int (v5_ + (1 : Int32)))]) [1, 2, 3, 0] rfl (ih (v5_ + (1 : Int32)) σ19 hr hσ19)

set_option maxRecDepth 20000 in
theorem sX8_inks {g : GG} {σ : SS} {a1 : Int32} {a2 : Int32} {a3 : Int32} {r : SS} (hr : fX8_inks σ a1 a2 a3 = some r)  : Ct g mX8_inks [.ref (ad g 73), .int a1, .int a2, .int a3] NF σ none NF r := by
  refine Ct.of (by decide +kernel) (nle rfl) fun hw0 => ?_
  have hw := hw0 rfl
  unfold fX8_inks at hr
  change RR g mX8_inks (FinR g mX8_inks none NF r) zF 0 [(0, .ref (ad g 73)), (1, .int a1), (2, .int a2), (3, .int a3)] [] σ
  refine r_bipush (pc := 0) (v := (6 : Int32)) dX8_inks_0 rfl ?_
  refine r_bipush (pc := 2) (v := (12 : Int32)) dX8_inks_2 rfl ?_
  refine r_aload_n (pc := 4) (j := 0) dX8_inks_4 rfl rfl ?_
  refine gf8_11 (pc := 5) tw_5_105 rfl dX8_inks_5 ?_
  refine r_imul (pc := 8) dX8_inks_8 ?_
  refine r_iload_n (pc := 9) (j := 1) dX8_inks_9 rfl rfl ?_
  refine r_iadd (pc := 10) dX8_inks_10 ?_
  refine r_imul (pc := 11) dX8_inks_11 ?_
  refine r_iload_n (pc := 12) (j := 2) dX8_inks_12 rfl rfl ?_
  refine r_iadd (pc := 13) dX8_inks_13 ?_
  refine r_topi fun v1 ev1 => ?_
  replace hr := vthen_inv hr v1 ev1
  refine r_istore (pc := 14) (ls1 := [(4, .int v1), (0, .ref (ad g 73)), (1, .int a1), (2, .int a2), (3, .int a3)]) dX8_inks_14 (nle rfl) rfl ?_
  refine r_iconst (pc := 16) (v := (0 : Int32)) dX8_inks_16 rfl ?_
  refine r_istore (pc := 17) (ls1 := [(5, .int (0 : Int32)), (4, .int v1), (0, .ref (ad g 73)), (1, .int a1), (2, .int a2), (3, .int a3)]) dX8_inks_17 (nle rfl) rfl ?_
  refine r_pick (ls1 := [(0, .ref (ad g 73)), (3, .int a3), (4, .int v1), (5, .int (0 : Int32))]) [2, 5, 1, 0] rfl ?_
  refine sX8_inks_L19     fuel (0 : Int32) σ hr hw

theorem kX8_inks {g : GG} {σ : SS} {a1 : Int32} {a2 : Int32} {a3 : Int32} {σ2 : SS} {M : MM} {F : State → Array Value → List Frame → State → Prop} {pc index : Nat} {ls : List (Nat × Value)} {rest : List Value} (hf : fX8_inks σ a1 a2 a3 = some σ2)  (hl : Cond.methodLink M.1.cls index yX8_inks ∈ lw_gt) (hR : mX8_inks.2.2.2.2.frames + 1 ≤ M.2.2.2.2.frames ∧ 8 + (mX8_inks.2.2.1 + 11) + mX8_inks.2.2.2.2.locals ≤ M.2.2.2.2.locals) (hrest : (rest.map fun v => v.category).sum ≤ 8) (hd : decode M.2.1 pc = .ok (.invokevirtual index, 3)) (k : WT σ2 → RR g M F zF (pc + 3) ls rest σ2) : RR g M F zF pc ls (.int a3 :: .int a2 :: .int a1 :: .ref (ad g 73) :: rest) σ :=
  r_callV (N := mX8_inks) (nn := 3) (o1 := none) (sX8_inks hf ) (rfl : shp 73 = (8, 0)) (by decide) (shp_le (rfl : shp 73 = (8, 0)) (nle rfl)) (ci := 8) rfl rfl tw_7_170 tw_1_10 hl tw_7_169 tp_82 ⟨by decide, by decide, rfl⟩ hR rfl hrest hd ⟨Nat.zero_le _, Nat.zero_le _⟩ rfl (fun h => k (h rfl))

theorem dX8_print_0 : decode cX8_print 0 = .ok (.aload_n 0, 1) := by decide +kernel
theorem dX8_print_1 : decode cX8_print 1 = .ok (.getfield 202, 3) := by decide +kernel
theorem dX8_print_4 : decode cX8_print 4 = .ok (.ifCond .eq 13, 3) := by decide +kernel
theorem dX8_print_7 : decode cX8_print 7 = .ok (.iload_n 1, 1) := by decide +kernel
theorem dX8_print_8 : decode cX8_print 8 = .ok (.iconst 1, 1) := by decide +kernel
theorem dX8_print_9 : decode cX8_print 9 = .ok (.bipush 9, 2) := by decide +kernel
theorem dX8_print_11 : decode cX8_print 11 = .ok (.invokestatic 165, 3) := by decide +kernel
theorem dX8_print_14 : decode cX8_print 14 = .ok (.ifCond .ne 5, 3) := by decide +kernel
theorem dX8_print_17 : decode cX8_print 17 = .ok (.iconst (-1), 1) := by decide +kernel
theorem dX8_print_18 : decode cX8_print 18 = .ok (.ireturn, 1) := by decide +kernel
theorem dX8_print_19 : decode cX8_print 19 = .ok (.iconst 0, 1) := by decide +kernel
theorem dX8_print_20 : decode cX8_print 20 = .ok (.istore_n 2, 1) := by decide +kernel
theorem dX8_print_21 : decode cX8_print 21 = .ok (.iload_n 2, 1) := by decide +kernel
theorem dX8_print_22 : decode cX8_print 22 = .ok (.iconst 4, 1) := by decide +kernel
theorem dX8_print_23 : decode cX8_print 23 = .ok (.if_icmp .ge 50, 3) := by decide +kernel
theorem dX8_print_26 : decode cX8_print 26 = .ok (.aload_n 0, 1) := by decide +kernel
theorem dX8_print_27 : decode cX8_print 27 = .ok (.getfield 56, 3) := by decide +kernel
theorem dX8_print_30 : decode cX8_print 30 = .ok (.iload_n 2, 1) := by decide +kernel
theorem dX8_print_31 : decode cX8_print 31 = .ok (.iaload, 1) := by decide +kernel
theorem dX8_print_32 : decode cX8_print 32 = .ok (.iconst 1, 1) := by decide +kernel
theorem dX8_print_33 : decode cX8_print 33 = .ok (.aload_n 0, 1) := by decide +kernel
theorem dX8_print_34 : decode cX8_print 34 = .ok (.getfield 132, 3) := by decide +kernel
theorem dX8_print_37 : decode cX8_print 37 = .ok (.iconst 2, 1) := by decide +kernel
theorem dX8_print_38 : decode cX8_print 38 = .ok (.isub, 1) := by decide +kernel
theorem dX8_print_39 : decode cX8_print 39 = .ok (.invokestatic 165, 3) := by decide +kernel
theorem dX8_print_42 : decode cX8_print 42 = .ok (.ifCond .eq 22, 3) := by decide +kernel
theorem dX8_print_45 : decode cX8_print 45 = .ok (.aload_n 0, 1) := by decide +kernel
theorem dX8_print_46 : decode cX8_print 46 = .ok (.getfield 59, 3) := by decide +kernel
theorem dX8_print_49 : decode cX8_print 49 = .ok (.iload_n 2, 1) := by decide +kernel
theorem dX8_print_50 : decode cX8_print 50 = .ok (.iaload, 1) := by decide +kernel
theorem dX8_print_51 : decode cX8_print 51 = .ok (.iconst 1, 1) := by decide +kernel
theorem dX8_print_52 : decode cX8_print 52 = .ok (.aload_n 0, 1) := by decide +kernel
theorem dX8_print_53 : decode cX8_print 53 = .ok (.getfield 136, 3) := by decide +kernel
theorem dX8_print_56 : decode cX8_print 56 = .ok (.iconst 2, 1) := by decide +kernel
theorem dX8_print_57 : decode cX8_print 57 = .ok (.isub, 1) := by decide +kernel
theorem dX8_print_58 : decode cX8_print 58 = .ok (.invokestatic 165, 3) := by decide +kernel
theorem dX8_print_61 : decode cX8_print 61 = .ok (.ifCond .ne 6, 3) := by decide +kernel
theorem dX8_print_64 : decode cX8_print 64 = .ok (.bipush (-2), 2) := by decide +kernel
theorem dX8_print_66 : decode cX8_print 66 = .ok (.ireturn, 1) := by decide +kernel
theorem dX8_print_67 : decode cX8_print 67 = .ok (.iinc 2 1, 3) := by decide +kernel
theorem dX8_print_70 : decode cX8_print 70 = .ok (.goto (-49), 3) := by decide +kernel
theorem dX8_print_73 : decode cX8_print 73 = .ok (.aload_n 0, 1) := by decide +kernel
theorem dX8_print_74 : decode cX8_print 74 = .ok (.invokevirtual 278, 3) := by decide +kernel
theorem dX8_print_77 : decode cX8_print 77 = .ok (.iconst 0, 1) := by decide +kernel
theorem dX8_print_78 : decode cX8_print 78 = .ok (.istore_n 2, 1) := by decide +kernel
theorem dX8_print_79 : decode cX8_print 79 = .ok (.iload_n 2, 1) := by decide +kernel
theorem dX8_print_80 : decode cX8_print 80 = .ok (.iconst 4, 1) := by decide +kernel
theorem dX8_print_81 : decode cX8_print 81 = .ok (.if_icmp .ge 93, 3) := by decide +kernel
theorem dX8_print_84 : decode cX8_print 84 = .ok (.iconst 0, 1) := by decide +kernel
theorem dX8_print_85 : decode cX8_print 85 = .ok (.istore_n 3, 1) := by decide +kernel
theorem dX8_print_86 : decode cX8_print 86 = .ok (.iload_n 3, 1) := by decide +kernel
theorem dX8_print_87 : decode cX8_print 87 = .ok (.bipush 9, 2) := by decide +kernel
theorem dX8_print_89 : decode cX8_print 89 = .ok (.if_icmp .ge 46, 3) := by decide +kernel
theorem dX8_print_92 : decode cX8_print 92 = .ok (.aload_n 0, 1) := by decide +kernel
theorem dX8_print_93 : decode cX8_print 93 = .ok (.getfield 38, 3) := by decide +kernel
theorem dX8_print_96 : decode cX8_print 96 = .ok (.aload_n 0, 1) := by decide +kernel
theorem dX8_print_97 : decode cX8_print 97 = .ok (.getfield 132, 3) := by decide +kernel
theorem dX8_print_100 : decode cX8_print 100 = .ok (.aload_n 0, 1) := by decide +kernel
theorem dX8_print_101 : decode cX8_print 101 = .ok (.getfield 59, 3) := by decide +kernel
theorem dX8_print_104 : decode cX8_print 104 = .ok (.iload_n 2, 1) := by decide +kernel
theorem dX8_print_105 : decode cX8_print 105 = .ok (.iaload, 1) := by decide +kernel
theorem dX8_print_106 : decode cX8_print 106 = .ok (.iconst 1, 1) := by decide +kernel
theorem dX8_print_107 : decode cX8_print 107 = .ok (.isub, 1) := by decide +kernel
theorem dX8_print_108 : decode cX8_print 108 = .ok (.iload_n 3, 1) := by decide +kernel
theorem dX8_print_109 : decode cX8_print 109 = .ok (.iconst 3, 1) := by decide +kernel
theorem dX8_print_110 : decode cX8_print 110 = .ok (.idiv, 1) := by decide +kernel
theorem dX8_print_111 : decode cX8_print 111 = .ok (.iadd, 1) := by decide +kernel
theorem dX8_print_112 : decode cX8_print 112 = .ok (.imul, 1) := by decide +kernel
theorem dX8_print_113 : decode cX8_print 113 = .ok (.aload_n 0, 1) := by decide +kernel
theorem dX8_print_114 : decode cX8_print 114 = .ok (.getfield 56, 3) := by decide +kernel
theorem dX8_print_117 : decode cX8_print 117 = .ok (.iload_n 2, 1) := by decide +kernel
theorem dX8_print_118 : decode cX8_print 118 = .ok (.iaload, 1) := by decide +kernel
theorem dX8_print_119 : decode cX8_print 119 = .ok (.iadd, 1) := by decide +kernel
theorem dX8_print_120 : decode cX8_print 120 = .ok (.iconst 1, 1) := by decide +kernel
theorem dX8_print_121 : decode cX8_print 121 = .ok (.isub, 1) := by decide +kernel
theorem dX8_print_122 : decode cX8_print 122 = .ok (.iload_n 3, 1) := by decide +kernel
theorem dX8_print_123 : decode cX8_print 123 = .ok (.iconst 3, 1) := by decide +kernel
theorem dX8_print_124 : decode cX8_print 124 = .ok (.irem, 1) := by decide +kernel
theorem dX8_print_125 : decode cX8_print 125 = .ok (.iadd, 1) := by decide +kernel
theorem dX8_print_126 : decode cX8_print 126 = .ok (.bipush 9, 2) := by decide +kernel
theorem dX8_print_128 : decode cX8_print 128 = .ok (.iastore, 1) := by decide +kernel
theorem dX8_print_129 : decode cX8_print 129 = .ok (.iinc 3 1, 3) := by decide +kernel
theorem dX8_print_132 : decode cX8_print 132 = .ok (.goto (-46), 3) := by decide +kernel
theorem dX8_print_135 : decode cX8_print 135 = .ok (.aload_n 0, 1) := by decide +kernel
theorem dX8_print_136 : decode cX8_print 136 = .ok (.getfield 98, 3) := by decide +kernel
theorem dX8_print_139 : decode cX8_print 139 = .ok (.iload_n 2, 1) := by decide +kernel
theorem dX8_print_140 : decode cX8_print 140 = .ok (.aload_n 0, 1) := by decide +kernel
theorem dX8_print_141 : decode cX8_print 141 = .ok (.getfield 56, 3) := by decide +kernel
theorem dX8_print_144 : decode cX8_print 144 = .ok (.iload_n 2, 1) := by decide +kernel
theorem dX8_print_145 : decode cX8_print 145 = .ok (.iaload, 1) := by decide +kernel
theorem dX8_print_146 : decode cX8_print 146 = .ok (.i2l, 1) := by decide +kernel
theorem dX8_print_147 : decode cX8_print 147 = .ok (.lastore, 1) := by decide +kernel
theorem dX8_print_148 : decode cX8_print 148 = .ok (.aload_n 0, 1) := by decide +kernel
theorem dX8_print_149 : decode cX8_print 149 = .ok (.getfield 102, 3) := by decide +kernel
theorem dX8_print_152 : decode cX8_print 152 = .ok (.iload_n 2, 1) := by decide +kernel
theorem dX8_print_153 : decode cX8_print 153 = .ok (.aload_n 0, 1) := by decide +kernel
theorem dX8_print_154 : decode cX8_print 154 = .ok (.getfield 59, 3) := by decide +kernel
theorem dX8_print_157 : decode cX8_print 157 = .ok (.iload_n 2, 1) := by decide +kernel
theorem dX8_print_158 : decode cX8_print 158 = .ok (.iaload, 1) := by decide +kernel
theorem dX8_print_159 : decode cX8_print 159 = .ok (.i2l, 1) := by decide +kernel
theorem dX8_print_160 : decode cX8_print 160 = .ok (.lastore, 1) := by decide +kernel
theorem dX8_print_161 : decode cX8_print 161 = .ok (.aload_n 0, 1) := by decide +kernel
theorem dX8_print_162 : decode cX8_print 162 = .ok (.getfield 105, 3) := by decide +kernel
theorem dX8_print_165 : decode cX8_print 165 = .ok (.iload_n 2, 1) := by decide +kernel
theorem dX8_print_166 : decode cX8_print 166 = .ok (.lconst 1, 1) := by decide +kernel
theorem dX8_print_167 : decode cX8_print 167 = .ok (.lastore, 1) := by decide +kernel
theorem dX8_print_168 : decode cX8_print 168 = .ok (.iinc 2 1, 3) := by decide +kernel
theorem dX8_print_171 : decode cX8_print 171 = .ok (.goto (-92), 3) := by decide +kernel
theorem dX8_print_174 : decode cX8_print 174 = .ok (.iconst 0, 1) := by decide +kernel
theorem dX8_print_175 : decode cX8_print 175 = .ok (.istore_n 2, 1) := by decide +kernel
theorem dX8_print_176 : decode cX8_print 176 = .ok (.iload_n 2, 1) := by decide +kernel
theorem dX8_print_177 : decode cX8_print 177 = .ok (.aload_n 0, 1) := by decide +kernel
theorem dX8_print_178 : decode cX8_print 178 = .ok (.invokevirtual 266, 3) := by decide +kernel
theorem dX8_print_181 : decode cX8_print 181 = .ok (.if_icmp .ge 46, 3) := by decide +kernel
theorem dX8_print_184 : decode cX8_print 184 = .ok (.iconst 0, 1) := by decide +kernel
theorem dX8_print_185 : decode cX8_print 185 = .ok (.istore_n 3, 1) := by decide +kernel
theorem dX8_print_186 : decode cX8_print 186 = .ok (.iload_n 3, 1) := by decide +kernel
theorem dX8_print_187 : decode cX8_print 187 = .ok (.aload_n 0, 1) := by decide +kernel
theorem dX8_print_188 : decode cX8_print 188 = .ok (.iload_n 2, 1) := by decide +kernel
theorem dX8_print_189 : decode cX8_print 189 = .ok (.invokevirtual 272, 3) := by decide +kernel
theorem dX8_print_192 : decode cX8_print 192 = .ok (.if_icmp .ge 29, 3) := by decide +kernel
theorem dX8_print_195 : decode cX8_print 195 = .ok (.aload_n 0, 1) := by decide +kernel
theorem dX8_print_196 : decode cX8_print 196 = .ok (.getfield 35, 3) := by decide +kernel
theorem dX8_print_199 : decode cX8_print 199 = .ok (.iload_n 2, 1) := by decide +kernel
theorem dX8_print_200 : decode cX8_print 200 = .ok (.iaload, 1) := by decide +kernel
theorem dX8_print_201 : decode cX8_print 201 = .ok (.iload_n 3, 1) := by decide +kernel
theorem dX8_print_202 : decode cX8_print 202 = .ok (.invokestatic 228, 3) := by decide +kernel
theorem dX8_print_205 : decode cX8_print 205 = .ok (.ifCond .eq 10, 3) := by decide +kernel
theorem dX8_print_208 : decode cX8_print 208 = .ok (.aload_n 0, 1) := by decide +kernel
theorem dX8_print_209 : decode cX8_print 209 = .ok (.iload_n 2, 1) := by decide +kernel
theorem dX8_print_210 : decode cX8_print 210 = .ok (.iload_n 3, 1) := by decide +kernel
theorem dX8_print_211 : decode cX8_print 211 = .ok (.iload_n 1, 1) := by decide +kernel
theorem dX8_print_212 : decode cX8_print 212 = .ok (.invokevirtual 414, 3) := by decide +kernel
theorem dX8_print_215 : decode cX8_print 215 = .ok (.iinc 3 1, 3) := by decide +kernel
theorem dX8_print_218 : decode cX8_print 218 = .ok (.goto (-32), 3) := by decide +kernel
theorem dX8_print_221 : decode cX8_print 221 = .ok (.iinc 2 1, 3) := by decide +kernel
theorem dX8_print_224 : decode cX8_print 224 = .ok (.goto (-48), 3) := by decide +kernel
theorem dX8_print_227 : decode cX8_print 227 = .ok (.iconst 0, 1) := by decide +kernel
theorem dX8_print_228 : decode cX8_print 228 = .ok (.istore_n 2, 1) := by decide +kernel
theorem dX8_print_229 : decode cX8_print 229 = .ok (.iconst 0, 1) := by decide +kernel
theorem dX8_print_230 : decode cX8_print 230 = .ok (.istore_n 3, 1) := by decide +kernel
theorem dX8_print_231 : decode cX8_print 231 = .ok (.iload_n 3, 1) := by decide +kernel
theorem dX8_print_232 : decode cX8_print 232 = .ok (.aload_n 0, 1) := by decide +kernel
theorem dX8_print_233 : decode cX8_print 233 = .ok (.invokevirtual 275, 3) := by decide +kernel
theorem dX8_print_236 : decode cX8_print 236 = .ok (.if_icmp .ge 26, 3) := by decide +kernel
theorem dX8_print_239 : decode cX8_print 239 = .ok (.iload_n 2, 1) := by decide +kernel
theorem dX8_print_240 : decode cX8_print 240 = .ok (.aload_n 0, 1) := by decide +kernel
theorem dX8_print_241 : decode cX8_print 241 = .ok (.getfield 38, 3) := by decide +kernel
theorem dX8_print_244 : decode cX8_print 244 = .ok (.iload_n 3, 1) := by decide +kernel
theorem dX8_print_245 : decode cX8_print 245 = .ok (.iaload, 1) := by decide +kernel
theorem dX8_print_246 : decode cX8_print 246 = .ok (.ifCond .le 7, 3) := by decide +kernel
theorem dX8_print_249 : decode cX8_print 249 = .ok (.iconst 1, 1) := by decide +kernel
theorem dX8_print_250 : decode cX8_print 250 = .ok (.goto 4, 3) := by decide +kernel
theorem dX8_print_253 : decode cX8_print 253 = .ok (.iconst 0, 1) := by decide +kernel
theorem dX8_print_254 : decode cX8_print 254 = .ok (.iadd, 1) := by decide +kernel
theorem dX8_print_255 : decode cX8_print 255 = .ok (.istore_n 2, 1) := by decide +kernel
theorem dX8_print_256 : decode cX8_print 256 = .ok (.iinc 3 1, 3) := by decide +kernel
theorem dX8_print_259 : decode cX8_print 259 = .ok (.goto (-28), 3) := by decide +kernel
theorem dX8_print_262 : decode cX8_print 262 = .ok (.iload_n 2, 1) := by decide +kernel
theorem dX8_print_263 : decode cX8_print 263 = .ok (.ireturn, 1) := by decide +kernel
def mX8_print : MM := (yX8_print, cX8_print, 4, Option.some Jvm.ClassFile.FieldType.int, { frames := 4, cells := 0, slots := 0, locals := 104 })
def X8_print_L21 (σ_ : SS)  (k73 : Unit → Option (Int32 × SS)) : Nat → Int32 → Option (Int32 × SS) :=
  lp (fun _ => none) fun rec v2_ =>
    if (4 : Int32) ≤ v2_ then (
      k73 ()
      ) else (
      grd (inb v2_ 4) <|
      if (fX8_in σ_ (gI σ_ 89 (Int32.toNatClampNeg v2_)) (1 : Int32) ((gI σ_ 73 29) - (2 : Int32))) = true then (
        if (fX8_in σ_ (gI σ_ 90 (Int32.toNatClampNeg v2_)) (1 : Int32) ((gI σ_ 73 30) - (2 : Int32))) = true then (
          rec (v2_ + (1 : Int32))
          ) else (
          some ((-2 : Int32), σ_)
          )
        ) else (
        some ((-2 : Int32), σ_)
        )
      )

def X8_print_L86 (u2_ : Int32) (k135 : SS → Option (Int32 × SS)) : Nat → Int32 → SS → Option (Int32 × SS) :=
  lp (fun _ _ => none) fun rec v3_ σ_ =>
    if (9 : Int32) ≤ v3_ then (
      k135 σ_
      ) else (
      grd (inb u2_ 4) <|
      grd (inb (((((gI σ_ 73 29) * (((gI σ_ 90 (Int32.toNatClampNeg u2_)) - (1 : Int32)) + (v3_ / (3 : Int32)))) + (gI σ_ 89 (Int32.toNatClampNeg u2_))) - (1 : Int32)) + (irm v3_ (3 : Int32))) 1600) <|
      vthen (sI σ_ 83 (Int32.toNatClampNeg (((((gI σ_ 73 29) * (((gI σ_ 90 (Int32.toNatClampNeg u2_)) - (1 : Int32)) + (v3_ / (3 : Int32)))) + (gI σ_ 89 (Int32.toNatClampNeg u2_))) - (1 : Int32)) + (irm v3_ (3 : Int32)))) (9 : Int32)) fun σ5 =>
      rec (v3_ + (1 : Int32)) σ5
      )

def X8_print_L79  (k174 : SS → Option (Int32 × SS)) : Nat → Int32 → SS → Option (Int32 × SS) :=
  lp (fun _ _ => none) fun rec v2_ σ_ =>
    if (4 : Int32) ≤ v2_ then (
      k174 σ_
      ) else (
      X8_print_L86 v2_
      (fun σ6 =>
        grd (inb v2_ 4) <|
        vthen (sL σ6 103 (Int32.toNatClampNeg v2_) (Int32.toInt64 (gI σ6 89 (Int32.toNatClampNeg v2_)))) fun σ8 =>
        vthen (sL σ8 104 (Int32.toNatClampNeg v2_) (Int32.toInt64 (gI σ8 90 (Int32.toNatClampNeg v2_)))) fun σ9 =>
        vthen (sL σ9 105 (Int32.toNatClampNeg v2_) (1 : Int64)) fun σ10 =>
        rec (v2_ + (1 : Int32)) σ10
        )
      fuel (0 : Int32) σ_
      )

def X8_print_L186 (u1_ : Int32) (u2_ : Int32) (k221 : SS → Option (Int32 × SS)) : Nat → Int32 → SS → Option (Int32 × SS) :=
  lp (fun _ _ => none) fun rec v3_ σ_ =>
    bnd1 (fX8_boxesOf σ_ u2_) fun v15 =>
    if v15 ≤ v3_ then (
      k221 σ_
      ) else (
      grd (inb u2_ 12) <|
      if (fX8_has σ_ (gI σ_ 82 (Int32.toNatClampNeg u2_)) v3_) = true then (
        bnd1 (fX8_inks σ_ u2_ v3_ u1_) fun σ19 =>
        rec (v3_ + (1 : Int32)) σ19
        ) else (
        rec (v3_ + (1 : Int32)) σ_
        )
      )

def X8_print_L176 (u1_ : Int32) (k227 : SS → Option (Int32 × SS)) : Nat → Int32 → SS → Option (Int32 × SS) :=
  lp (fun _ _ => none) fun rec v2_ σ_ =>
    bnd1 (fX8_questions σ_) fun v12 =>
    if v12 ≤ v2_ then (
      k227 σ_
      ) else (
      X8_print_L186 u1_ v2_
      (fun σ20 =>
        rec (v2_ + (1 : Int32)) σ20
        )
      fuel (0 : Int32) σ_
      )

def X8_print_L231 (σ_ : SS)   : Nat → Int32 → Int32 → Option (Int32 × SS) :=
  lp (fun _ _ => none) fun rec v2_ v3_ =>
    if (fX8_all σ_) ≤ v3_ then (
      some (v2_, σ_)
      ) else (
      grd (inb v3_ 1600) <|
      if (gI σ_ 83 (Int32.toNatClampNeg v3_)) ≤ 0 then (
        vthen (v2_ + (0 : Int32)) fun v23 =>
        rec v23 (v3_ + (1 : Int32))
        ) else (
        vthen (v2_ + (1 : Int32)) fun v24 =>
        rec v24 (v3_ + (1 : Int32))
        )
      )

def fX8_print (σ : SS) (a1 : Int32) : Option (Int32 × SS) :=
  if (gI σ 73 12) = 0 then (
    some ((-1 : Int32), σ)
    ) else (
    if (fX8_in σ a1 (1 : Int32) (9 : Int32)) = true then (
      X8_print_L21 σ
      (fun _ =>
        bnd1 (fX8_clears σ) fun σ2 =>
        X8_print_L79
        (fun σ11 =>
          X8_print_L176 a1
          (fun σ21 =>
            X8_print_L231 σ21
            fuel (0 : Int32) (0 : Int32)
            )
          fuel (0 : Int32) σ11
          )
        fuel (0 : Int32) σ2
        )
      fuel (0 : Int32)
      ) else (
      some ((-1 : Int32), σ)
      )
    )

set_option maxRecDepth 20000 in
theorem sX8_print_L21 {g : GG} {r : Int32 × SS} {σ_ : SS} {x1_ : Int32} {k73 : Unit → Option (Int32 × SS)} 
    (hw_ : WT σ_)
    (hk73 : k73 () = some r → RR g mX8_print (FinR g mX8_print (some (.int r.1)) NF r.2) zF 73 [(0, .ref (ad g 73)), (1, .int x1_)] [] σ_)
    (n : Nat) : ∀ (v2_ : Int32), X8_print_L21 σ_ k73 n v2_ = some r → RR g mX8_print (FinR g mX8_print (some (.int r.1)) NF r.2) zF 21 [(0, .ref (ad g 73)), (1, .int x1_), (2, .int v2_)] [] σ_ := by
  unfold X8_print_L21
  refine lp_ind (P := fun (rec : Int32 → Option (Int32 × SS)) => ∀ (v2_ : Int32), rec v2_ = some r → RR g mX8_print (FinR g mX8_print (some (.int r.1)) NF r.2) zF 21 [(0, .ref (ad g 73)), (1, .int x1_), (2, .int v2_)] [] σ_) ?_ ?_ n
  · intro v2_ hr; cases hr
  intro rec ih v2_ hr
  refine r_iload_n (pc := 21) (j := 2) dX8_print_21 rfl rfl ?_
  refine r_iconst (pc := 22) (v := (4 : Int32)) dX8_print_22 rfl ?_
  refine r_icmp_ge (pc := 23) (tgt := 73) dX8_print_23 rfl (fun hc => ?_) (fun hc => ?_)
  · replace hr := ite_t hc hr
    exact r_pick (ls1 := [(0, .ref (ad g 73)), (1, .int x1_)]) [0, 1] rfl (hk73  hr)
  replace hr := ite_f hc hr
  refine r_aload_n (pc := 26) (j := 0) dX8_print_26 rfl rfl ?_
  refine gf8_27 (pc := 27) tw_5_121 hw_ dX8_print_27 ?_
  refine r_iload_n (pc := 30) (j := 2) dX8_print_30 rfl rfl ?_
  obtain ⟨h1, hr⟩ := grd_inv hr
  refine x_iald (pc := 31) (k := (Int32.toNatClampNeg v2_)) rfl h1 rfl dX8_print_31 ?_
  refine r_iconst (pc := 32) (v := (1 : Int32)) dX8_print_32 rfl ?_
  refine r_aload_n (pc := 33) (j := 0) dX8_print_33 rfl rfl ?_
  refine gf8_29 (pc := 34) tw_5_123 rfl dX8_print_34 ?_
  refine r_iconst (pc := 37) (v := (2 : Int32)) dX8_print_37 rfl ?_
  refine r_isub (pc := 38) dX8_print_38 ?_
  refine kX8_in (pc := 39) (hf := rfl) tw_6_65 ⟨nle rfl, nle rfl⟩ (nle rfl) dX8_print_39 ?_
  refine r_ifB_eq (pc := 42) (tgt := 64) dX8_print_42 rfl (fun hc => ?_) (fun hc => ?_)
  · replace hr := ite_f hc hr
    refine r_bipush (pc := 64) (v := (-2 : Int32)) dX8_print_64 rfl ?_
    exact l_osi hr (r_iret (pc := 66) (v := (-2 : Int32)) rfl rfl ⟨Nat.le_refl _, Nat.le_refl _⟩ dX8_print_66)
  replace hr := ite_t hc hr
  refine r_aload_n (pc := 45) (j := 0) dX8_print_45 rfl rfl ?_
  refine gf8_28 (pc := 46) tw_5_122 hw_ dX8_print_46 ?_
  refine r_iload_n (pc := 49) (j := 2) dX8_print_49 rfl rfl ?_
  refine x_iald (pc := 50) (k := (Int32.toNatClampNeg v2_)) rfl h1 rfl dX8_print_50 ?_
  refine r_iconst (pc := 51) (v := (1 : Int32)) dX8_print_51 rfl ?_
  refine r_aload_n (pc := 52) (j := 0) dX8_print_52 rfl rfl ?_
  refine gf8_30 (pc := 53) tw_5_124 rfl dX8_print_53 ?_
  refine r_iconst (pc := 56) (v := (2 : Int32)) dX8_print_56 rfl ?_
  refine r_isub (pc := 57) dX8_print_57 ?_
  refine kX8_in (pc := 58) (hf := rfl) tw_6_65 ⟨nle rfl, nle rfl⟩ (nle rfl) dX8_print_58 ?_
  refine r_ifB_ne (pc := 61) (tgt := 67) dX8_print_61 rfl (fun hc => ?_) (fun hc => ?_)
  · replace hr := ite_t hc hr
    refine r_iinc (pc := 67) (j := 2) (v := (v2_ + (1 : Int32))) (ls1 := [(2, .int (v2_ + (1 : Int32))), (0, .ref (ad g 73)), (1, .int x1_)]) dX8_print_67 rfl rfl (nle rfl) rfl ?_
    refine r_goto (pc := 70) (tgt := 21) dX8_print_70 rfl ?_
    exact r_pick (ls1 := [(0, .ref (ad g 73)), (1, .int x1_), (2, .int (v2_ + (1 : Int32)))]) [1, 2, 0] rfl (ih (v2_ + (1 : Int32)) hr)
  replace hr := ite_f hc hr
  refine r_bipush (pc := 64) (v := (-2 : Int32)) dX8_print_64 rfl ?_
  exact l_osi hr (r_iret (pc := 66) (v := (-2 : Int32)) rfl rfl ⟨Nat.le_refl _, Nat.le_refl _⟩ dX8_print_66)

set_option maxRecDepth 20000 in
theorem sX8_print_L86 {g : GG} {r : Int32 × SS} {x1_ : Int32} {u2_ : Int32} {k135 : SS → Option (Int32 × SS)} 
    (hk135 : ∀ (σ_ : SS), k135 σ_ = some r → WT σ_ → RR g mX8_print (FinR g mX8_print (some (.int r.1)) NF r.2) zF 135 [(0, .ref (ad g 73)), (1, .int x1_), (2, .int u2_)] [] σ_)
    (n : Nat) : ∀ (v3_ : Int32) (σ_ : SS), X8_print_L86 u2_ k135 n v3_ σ_ = some r → WT σ_ → RR g mX8_print (FinR g mX8_print (some (.int r.1)) NF r.2) zF 86 [(0, .ref (ad g 73)), (1, .int x1_), (2, .int u2_), (3, .int v3_)] [] σ_ := by
  unfold X8_print_L86
  refine lp_ind (P := fun (rec : Int32 → SS → Option (Int32 × SS)) => ∀ (v3_ : Int32) (σ_ : SS), rec v3_ σ_ = some r → WT σ_ → RR g mX8_print (FinR g mX8_print (some (.int r.1)) NF r.2) zF 86 [(0, .ref (ad g 73)), (1, .int x1_), (2, .int u2_), (3, .int v3_)] [] σ_) ?_ ?_ n
  · intro v3_ σ_ hr; cases hr
  intro rec ih v3_ σ_ hr hw_
  refine r_iload_n (pc := 86) (j := 3) dX8_print_86 rfl rfl ?_
  refine r_bipush (pc := 87) (v := (9 : Int32)) dX8_print_87 rfl ?_
  refine r_icmp_ge (pc := 89) (tgt := 135) dX8_print_89 rfl (fun hc => ?_) (fun hc => ?_)
  · replace hr := ite_t hc hr
    exact r_pick (ls1 := [(0, .ref (ad g 73)), (1, .int x1_), (2, .int u2_)]) [0, 1, 2] rfl (hk135 σ_ hr hw_)
  replace hr := ite_f hc hr
  refine r_aload_n (pc := 92) (j := 0) dX8_print_92 rfl rfl ?_
  refine gf8_21 (pc := 93) tw_5_115 hw_ dX8_print_93 ?_
  refine r_aload_n (pc := 96) (j := 0) dX8_print_96 rfl rfl ?_
  refine gf8_29 (pc := 97) tw_5_123 rfl dX8_print_97 ?_
  refine r_aload_n (pc := 100) (j := 0) dX8_print_100 rfl rfl ?_
  refine gf8_28 (pc := 101) tw_5_122 hw_ dX8_print_101 ?_
  refine r_iload_n (pc := 104) (j := 2) dX8_print_104 rfl rfl ?_
  obtain ⟨h3, hr⟩ := grd_inv hr
  refine x_iald (pc := 105) (k := (Int32.toNatClampNeg u2_)) rfl h3 rfl dX8_print_105 ?_
  refine r_iconst (pc := 106) (v := (1 : Int32)) dX8_print_106 rfl ?_
  refine r_isub (pc := 107) dX8_print_107 ?_
  refine r_iload_n (pc := 108) (j := 3) dX8_print_108 rfl rfl ?_
  refine r_iconst (pc := 109) (v := (3 : Int32)) dX8_print_109 rfl ?_
  refine r_idiv (pc := 110) dX8_print_110 (by decide) ?_
  refine r_iadd (pc := 111) dX8_print_111 ?_
  refine r_imul (pc := 112) dX8_print_112 ?_
  refine r_aload_n (pc := 113) (j := 0) dX8_print_113 rfl rfl ?_
  refine gf8_27 (pc := 114) tw_5_121 hw_ dX8_print_114 ?_
  refine r_iload_n (pc := 117) (j := 2) dX8_print_117 rfl rfl ?_
  refine x_iald (pc := 118) (k := (Int32.toNatClampNeg u2_)) rfl h3 rfl dX8_print_118 ?_
  refine r_iadd (pc := 119) dX8_print_119 ?_
  refine r_iconst (pc := 120) (v := (1 : Int32)) dX8_print_120 rfl ?_
  refine r_isub (pc := 121) dX8_print_121 ?_
  refine r_iload_n (pc := 122) (j := 3) dX8_print_122 rfl rfl ?_
  refine r_iconst (pc := 123) (v := (3 : Int32)) dX8_print_123 rfl ?_
  refine r_irem (pc := 124) dX8_print_124 (by decide) ?_
  refine r_iadd (pc := 125) dX8_print_125 ?_
  refine r_bipush (pc := 126) (v := (9 : Int32)) dX8_print_126 rfl ?_
  obtain ⟨h4, hr⟩ := grd_inv hr
  refine x_iast (pc := 128) (j := (Int32.toNatClampNeg (((((gI σ_ 73 29) * (((gI σ_ 90 (Int32.toNatClampNeg u2_)) - (1 : Int32)) + (v3_ / (3 : Int32)))) + (gI σ_ 89 (Int32.toNatClampNeg u2_))) - (1 : Int32)) + (irm v3_ (3 : Int32))))) rfl h4 rfl dX8_print_128 fun σ5 eσ5 => ?_
  replace hr := vthen_inv hr σ5 eσ5
  have hσ5 := wtI eσ5 hw_
  refine r_iinc (pc := 129) (j := 3) (v := (v3_ + (1 : Int32))) (ls1 := [(3, .int (v3_ + (1 : Int32))), (0, .ref (ad g 73)), (1, .int x1_), (2, .int u2_)]) dX8_print_129 rfl rfl (nle rfl) rfl ?_
  refine r_goto (pc := 132) (tgt := 86) dX8_print_132 rfl ?_
  exact r_pick (ls1 := [(0, .ref (ad g 73)), (1, .int x1_), (2, .int u2_), (3, .int (v3_ + (1 : Int32)))]) [1, 2, 3, 0] rfl (ih (v3_ + (1 : Int32)) σ5 hr hσ5)

set_option maxRecDepth 20000 in
theorem sX8_print_L79 {g : GG} {r : Int32 × SS} {x1_ : Int32} {k174 : SS → Option (Int32 × SS)} 
    (hk174 : ∀ (σ_ : SS), k174 σ_ = some r → WT σ_ → RR g mX8_print (FinR g mX8_print (some (.int r.1)) NF r.2) zF 174 [(0, .ref (ad g 73)), (1, .int x1_)] [] σ_)
    (n : Nat) : ∀ (v2_ : Int32) (σ_ : SS), X8_print_L79 k174 n v2_ σ_ = some r → WT σ_ → RR g mX8_print (FinR g mX8_print (some (.int r.1)) NF r.2) zF 79 [(0, .ref (ad g 73)), (1, .int x1_), (2, .int v2_)] [] σ_ := by
  unfold X8_print_L79
  refine lp_ind (P := fun (rec : Int32 → SS → Option (Int32 × SS)) => ∀ (v2_ : Int32) (σ_ : SS), rec v2_ σ_ = some r → WT σ_ → RR g mX8_print (FinR g mX8_print (some (.int r.1)) NF r.2) zF 79 [(0, .ref (ad g 73)), (1, .int x1_), (2, .int v2_)] [] σ_) ?_ ?_ n
  · intro v2_ σ_ hr; cases hr
  intro rec ih v2_ σ_ hr hw_
  refine r_iload_n (pc := 79) (j := 2) dX8_print_79 rfl rfl ?_
  refine r_iconst (pc := 80) (v := (4 : Int32)) dX8_print_80 rfl ?_
  refine r_icmp_ge (pc := 81) (tgt := 174) dX8_print_81 rfl (fun hc => ?_) (fun hc => ?_)
  · replace hr := ite_t hc hr
    exact r_pick (ls1 := [(0, .ref (ad g 73)), (1, .int x1_)]) [0, 1] rfl (hk174 σ_ hr hw_)
  replace hr := ite_f hc hr
  refine r_iconst (pc := 84) (v := (0 : Int32)) dX8_print_84 rfl ?_
  refine r_istore_n (pc := 85) (ls1 := [(3, .int (0 : Int32)), (0, .ref (ad g 73)), (1, .int x1_), (2, .int v2_)]) dX8_print_85 rfl (nle rfl) rfl ?_
  refine r_pick (ls1 := [(0, .ref (ad g 73)), (1, .int x1_), (2, .int v2_), (3, .int (0 : Int32))]) [1, 2, 3, 0] rfl ?_
  refine sX8_print_L86    (fun σ6 hr hσ6 => ?_) fuel (0 : Int32) σ_ hr hw_
  refine r_aload_n (pc := 135) (j := 0) dX8_print_135 rfl rfl ?_
  refine gf8_46 (pc := 136) tw_5_140 hσ6 dX8_print_136 ?_
  refine r_iload_n (pc := 139) (j := 2) dX8_print_139 rfl rfl ?_
  refine r_aload_n (pc := 140) (j := 0) dX8_print_140 rfl rfl ?_
  refine gf8_27 (pc := 141) tw_5_121 hσ6 dX8_print_141 ?_
  refine r_iload_n (pc := 144) (j := 2) dX8_print_144 rfl rfl ?_
  obtain ⟨h7, hr⟩ := grd_inv hr
  refine x_iald (pc := 145) (k := (Int32.toNatClampNeg v2_)) rfl h7 rfl dX8_print_145 ?_
  refine r_i2l (pc := 146) dX8_print_146 ?_
  refine x_last (pc := 147) (j := (Int32.toNatClampNeg v2_)) rfl h7 rfl dX8_print_147 fun σ8 eσ8 => ?_
  replace hr := vthen_inv hr σ8 eσ8
  have hσ8 := wtL eσ8 hσ6
  refine r_aload_n (pc := 148) (j := 0) dX8_print_148 rfl rfl ?_
  refine gf8_47 (pc := 149) tw_5_141 hσ8 dX8_print_149 ?_
  refine r_iload_n (pc := 152) (j := 2) dX8_print_152 rfl rfl ?_
  refine r_aload_n (pc := 153) (j := 0) dX8_print_153 rfl rfl ?_
  refine gf8_28 (pc := 154) tw_5_122 hσ8 dX8_print_154 ?_
  refine r_iload_n (pc := 157) (j := 2) dX8_print_157 rfl rfl ?_
  refine x_iald (pc := 158) (k := (Int32.toNatClampNeg v2_)) rfl h7 rfl dX8_print_158 ?_
  refine r_i2l (pc := 159) dX8_print_159 ?_
  refine x_last (pc := 160) (j := (Int32.toNatClampNeg v2_)) rfl h7 rfl dX8_print_160 fun σ9 eσ9 => ?_
  replace hr := vthen_inv hr σ9 eσ9
  have hσ9 := wtL eσ9 hσ8
  refine r_aload_n (pc := 161) (j := 0) dX8_print_161 rfl rfl ?_
  refine gf8_48 (pc := 162) tw_5_142 hσ9 dX8_print_162 ?_
  refine r_iload_n (pc := 165) (j := 2) dX8_print_165 rfl rfl ?_
  refine r_lconst (pc := 166) (v := (1 : Int64)) dX8_print_166 rfl ?_
  refine x_last (pc := 167) (j := (Int32.toNatClampNeg v2_)) rfl h7 rfl dX8_print_167 fun σ10 eσ10 => ?_
  replace hr := vthen_inv hr σ10 eσ10
  have hσ10 := wtL eσ10 hσ9
  refine r_iinc (pc := 168) (j := 2) (v := (v2_ + (1 : Int32))) (ls1 := [(2, .int (v2_ + (1 : Int32))), (0, .ref (ad g 73)), (1, .int x1_)]) dX8_print_168 rfl rfl (nle rfl) rfl ?_
  refine r_goto (pc := 171) (tgt := 79) dX8_print_171 rfl ?_
  exact r_pick (ls1 := [(0, .ref (ad g 73)), (1, .int x1_), (2, .int (v2_ + (1 : Int32)))]) [1, 2, 0] rfl (ih (v2_ + (1 : Int32)) σ10 hr hσ10)

set_option maxRecDepth 20000 in
theorem sX8_print_L186 {g : GG} {r : Int32 × SS} {u1_ : Int32} {u2_ : Int32} {k221 : SS → Option (Int32 × SS)} 
    (hk221 : ∀ (σ_ : SS), k221 σ_ = some r → WT σ_ → RR g mX8_print (FinR g mX8_print (some (.int r.1)) NF r.2) zF 221 [(0, .ref (ad g 73)), (1, .int u1_), (2, .int u2_)] [] σ_)
    (n : Nat) : ∀ (v3_ : Int32) (σ_ : SS), X8_print_L186 u1_ u2_ k221 n v3_ σ_ = some r → WT σ_ → RR g mX8_print (FinR g mX8_print (some (.int r.1)) NF r.2) zF 186 [(0, .ref (ad g 73)), (1, .int u1_), (2, .int u2_), (3, .int v3_)] [] σ_ := by
  unfold X8_print_L186
  refine lp_ind (P := fun (rec : Int32 → SS → Option (Int32 × SS)) => ∀ (v3_ : Int32) (σ_ : SS), rec v3_ σ_ = some r → WT σ_ → RR g mX8_print (FinR g mX8_print (some (.int r.1)) NF r.2) zF 186 [(0, .ref (ad g 73)), (1, .int u1_), (2, .int u2_), (3, .int v3_)] [] σ_) ?_ ?_ n
  · intro v3_ σ_ hr; cases hr
  intro rec ih v3_ σ_ hr hw_
  refine r_iload_n (pc := 186) (j := 3) dX8_print_186 rfl rfl ?_
  refine r_aload_n (pc := 187) (j := 0) dX8_print_187 rfl rfl ?_
  refine r_iload_n (pc := 188) (j := 2) dX8_print_188 rfl rfl ?_
  obtain ⟨v15, hv15, hr⟩ := bnd1_inv hr
  refine kX8_boxesOf (pc := 189) hv15 tw_7_27 ⟨nle rfl, nle rfl⟩ (nle rfl) dX8_print_189 ?_
  refine r_icmp_ge (pc := 192) (tgt := 221) dX8_print_192 rfl (fun hc => ?_) (fun hc => ?_)
  · replace hr := ite_t hc hr
    exact r_pick (ls1 := [(0, .ref (ad g 73)), (1, .int u1_), (2, .int u2_)]) [0, 1, 2] rfl (hk221 σ_ hr hw_)
  replace hr := ite_f hc hr
  refine r_aload_n (pc := 195) (j := 0) dX8_print_195 rfl rfl ?_
  refine gf8_20 (pc := 196) tw_5_114 hw_ dX8_print_196 ?_
  refine r_iload_n (pc := 199) (j := 2) dX8_print_199 rfl rfl ?_
  obtain ⟨h18, hr⟩ := grd_inv hr
  refine x_iald (pc := 200) (k := (Int32.toNatClampNeg u2_)) rfl h18 rfl dX8_print_200 ?_
  refine r_iload_n (pc := 201) (j := 3) dX8_print_201 rfl rfl ?_
  refine kX8_has (pc := 202) (hf := rfl) tw_6_133 ⟨nle rfl, nle rfl⟩ (nle rfl) dX8_print_202 ?_
  refine r_ifB_eq (pc := 205) (tgt := 215) dX8_print_205 rfl (fun hc => ?_) (fun hc => ?_)
  · replace hr := ite_f hc hr
    refine r_iinc (pc := 215) (j := 3) (v := (v3_ + (1 : Int32))) (ls1 := [(3, .int (v3_ + (1 : Int32))), (0, .ref (ad g 73)), (1, .int u1_), (2, .int u2_)]) dX8_print_215 rfl rfl (nle rfl) rfl ?_
    refine r_goto (pc := 218) (tgt := 186) dX8_print_218 rfl ?_
    exact r_pick (ls1 := [(0, .ref (ad g 73)), (1, .int u1_), (2, .int u2_), (3, .int (v3_ + (1 : Int32)))]) [1, 2, 3, 0] rfl (ih (v3_ + (1 : Int32)) σ_ hr hw_)
  replace hr := ite_t hc hr
  refine r_aload_n (pc := 208) (j := 0) dX8_print_208 rfl rfl ?_
  refine r_iload_n (pc := 209) (j := 2) dX8_print_209 rfl rfl ?_
  refine r_iload_n (pc := 210) (j := 3) dX8_print_210 rfl rfl ?_
  refine r_iload_n (pc := 211) (j := 1) dX8_print_211 rfl rfl ?_
  obtain ⟨σ19, eσ19, hr⟩ := bnd1_inv hr
  refine kX8_inks (pc := 212) eσ19 tw_7_167 ⟨nle rfl, nle rfl⟩ (nle rfl) dX8_print_212 fun hσ19 => ?_
  refine r_iinc (pc := 215) (j := 3) (v := (v3_ + (1 : Int32))) (ls1 := [(3, .int (v3_ + (1 : Int32))), (0, .ref (ad g 73)), (1, .int u1_), (2, .int u2_)]) dX8_print_215 rfl rfl (nle rfl) rfl ?_
  refine r_goto (pc := 218) (tgt := 186) dX8_print_218 rfl ?_
  exact r_pick (ls1 := [(0, .ref (ad g 73)), (1, .int u1_), (2, .int u2_), (3, .int (v3_ + (1 : Int32)))]) [1, 2, 3, 0] rfl (ih (v3_ + (1 : Int32)) σ19 hr hσ19)

set_option maxRecDepth 20000 in
theorem sX8_print_L176 {g : GG} {r : Int32 × SS} {u1_ : Int32} {k227 : SS → Option (Int32 × SS)} 
    (hk227 : ∀ (σ_ : SS), k227 σ_ = some r → WT σ_ → RR g mX8_print (FinR g mX8_print (some (.int r.1)) NF r.2) zF 227 [(0, .ref (ad g 73))] [] σ_)
    (n : Nat) : ∀ (v2_ : Int32) (σ_ : SS), X8_print_L176 u1_ k227 n v2_ σ_ = some r → WT σ_ → RR g mX8_print (FinR g mX8_print (some (.int r.1)) NF r.2) zF 176 [(0, .ref (ad g 73)), (1, .int u1_), (2, .int v2_)] [] σ_ := by
  unfold X8_print_L176
  refine lp_ind (P := fun (rec : Int32 → SS → Option (Int32 × SS)) => ∀ (v2_ : Int32) (σ_ : SS), rec v2_ σ_ = some r → WT σ_ → RR g mX8_print (FinR g mX8_print (some (.int r.1)) NF r.2) zF 176 [(0, .ref (ad g 73)), (1, .int u1_), (2, .int v2_)] [] σ_) ?_ ?_ n
  · intro v2_ σ_ hr; cases hr
  intro rec ih v2_ σ_ hr hw_
  refine r_iload_n (pc := 176) (j := 2) dX8_print_176 rfl rfl ?_
  refine r_aload_n (pc := 177) (j := 0) dX8_print_177 rfl rfl ?_
  obtain ⟨v12, hv12, hr⟩ := bnd1_inv hr
  refine kX8_questions (pc := 178) hv12 tw_6_145 ⟨nle rfl, nle rfl⟩ (nle rfl) dX8_print_178 ?_
  refine r_icmp_ge (pc := 181) (tgt := 227) dX8_print_181 rfl (fun hc => ?_) (fun hc => ?_)
  · replace hr := ite_t hc hr
    exact r_pick (ls1 := [(0, .ref (ad g 73))]) [0] rfl (hk227 σ_ hr hw_)
  replace hr := ite_f hc hr
  refine r_iconst (pc := 184) (v := (0 : Int32)) dX8_print_184 rfl ?_
  refine r_istore_n (pc := 185) (ls1 := [(3, .int (0 : Int32)), (0, .ref (ad g 73)), (1, .int u1_), (2, .int v2_)]) dX8_print_185 rfl (nle rfl) rfl ?_
  refine r_pick (ls1 := [(0, .ref (ad g 73)), (1, .int u1_), (2, .int v2_), (3, .int (0 : Int32))]) [1, 2, 3, 0] rfl ?_
  refine sX8_print_L186    (fun σ20 hr hσ20 => ?_) fuel (0 : Int32) σ_ hr hw_
  refine r_iinc (pc := 221) (j := 2) (v := (v2_ + (1 : Int32))) (ls1 := [(2, .int (v2_ + (1 : Int32))), (0, .ref (ad g 73)), (1, .int u1_)]) dX8_print_221 rfl rfl (nle rfl) rfl ?_
  refine r_goto (pc := 224) (tgt := 176) dX8_print_224 rfl ?_
  exact r_pick (ls1 := [(0, .ref (ad g 73)), (1, .int u1_), (2, .int (v2_ + (1 : Int32)))]) [1, 2, 0] rfl (ih (v2_ + (1 : Int32)) σ20 hr hσ20)

set_option maxRecDepth 20000 in
theorem sX8_print_L231 {g : GG} {r : Int32 × SS} {σ_ : SS}   
    (hw_ : WT σ_)
    (n : Nat) : ∀ (v2_ : Int32) (v3_ : Int32), X8_print_L231 σ_ n v2_ v3_ = some r → RR g mX8_print (FinR g mX8_print (some (.int r.1)) NF r.2) zF 231 [(0, .ref (ad g 73)), (2, .int v2_), (3, .int v3_)] [] σ_ := by
  unfold X8_print_L231
  refine lp_ind (P := fun (rec : Int32 → Int32 → Option (Int32 × SS)) => ∀ (v2_ : Int32) (v3_ : Int32), rec v2_ v3_ = some r → RR g mX8_print (FinR g mX8_print (some (.int r.1)) NF r.2) zF 231 [(0, .ref (ad g 73)), (2, .int v2_), (3, .int v3_)] [] σ_) ?_ ?_ n
  · intro v2_ v3_ hr; cases hr
  intro rec ih v2_ v3_ hr
  refine r_iload_n (pc := 231) (j := 2) dX8_print_231 rfl rfl ?_
  refine r_aload_n (pc := 232) (j := 0) dX8_print_232 rfl rfl ?_
  refine kX8_all (pc := 233) (hf := rfl) tw_6_215 ⟨nle rfl, nle rfl⟩ (nle rfl) dX8_print_233 ?_
  refine r_icmp_ge (pc := 236) (tgt := 262) dX8_print_236 rfl (fun hc => ?_) (fun hc => ?_)
  · replace hr := ite_t hc hr
    refine r_iload_n (pc := 262) (j := 1) dX8_print_262 rfl rfl ?_
    exact l_osi hr (r_iret (pc := 263) (v := v2_) rfl rfl ⟨Nat.le_refl _, Nat.le_refl _⟩ dX8_print_263)
  replace hr := ite_f hc hr
  refine r_iload_n (pc := 239) (j := 1) dX8_print_239 rfl rfl ?_
  refine r_aload_n (pc := 240) (j := 0) dX8_print_240 rfl rfl ?_
  refine gf8_21 (pc := 241) tw_5_115 hw_ dX8_print_241 ?_
  refine r_iload_n (pc := 244) (j := 2) dX8_print_244 rfl rfl ?_
  obtain ⟨h22, hr⟩ := grd_inv hr
  refine x_iald (pc := 245) (k := (Int32.toNatClampNeg v3_)) rfl h22 rfl dX8_print_245 ?_
  refine r_if_le (pc := 246) (tgt := 253) dX8_print_246 rfl (fun hc => ?_) (fun hc => ?_)
  · replace hr := ite_t hc hr
    refine r_iconst (pc := 253) (v := (0 : Int32)) dX8_print_253 rfl ?_
    refine r_iadd (pc := 254) dX8_print_254 ?_
    refine r_topi fun v23 ev23 => ?_
    replace hr := vthen_inv hr v23 ev23
    refine r_istore_n (pc := 255) (ls1 := [(2, .int v23), (0, .ref (ad g 73)), (3, .int v3_)]) dX8_print_255 rfl (nle rfl) rfl ?_
    refine r_iinc (pc := 256) (j := 2) (v := (v3_ + (1 : Int32))) (ls1 := [(3, .int (v3_ + (1 : Int32))), (2, .int v23), (0, .ref (ad g 73))]) dX8_print_256 rfl rfl (nle rfl) rfl ?_
    refine r_goto (pc := 259) (tgt := 231) dX8_print_259 rfl ?_
    exact r_pick (ls1 := [(0, .ref (ad g 73)), (2, .int v23), (3, .int (v3_ + (1 : Int32)))]) [2, 1, 0] rfl (ih v23 (v3_ + (1 : Int32)) hr)
  replace hr := ite_f hc hr
  refine r_iconst (pc := 249) (v := (1 : Int32)) dX8_print_249 rfl ?_
  refine r_goto (pc := 250) (tgt := 254) dX8_print_250 rfl ?_
  refine r_iadd (pc := 254) dX8_print_254 ?_
  refine r_topi fun v24 ev24 => ?_
  replace hr := vthen_inv hr v24 ev24
  refine r_istore_n (pc := 255) (ls1 := [(2, .int v24), (0, .ref (ad g 73)), (3, .int v3_)]) dX8_print_255 rfl (nle rfl) rfl ?_
  refine r_iinc (pc := 256) (j := 2) (v := (v3_ + (1 : Int32))) (ls1 := [(3, .int (v3_ + (1 : Int32))), (2, .int v24), (0, .ref (ad g 73))]) dX8_print_256 rfl rfl (nle rfl) rfl ?_
  refine r_goto (pc := 259) (tgt := 231) dX8_print_259 rfl ?_
  exact r_pick (ls1 := [(0, .ref (ad g 73)), (2, .int v24), (3, .int (v3_ + (1 : Int32)))]) [2, 1, 0] rfl (ih v24 (v3_ + (1 : Int32)) hr)

set_option maxRecDepth 20000 in
theorem sX8_print {g : GG} {σ : SS} {a1 : Int32} {r : Int32 × SS} (hr : fX8_print σ a1 = some r)  : Ct g mX8_print [.ref (ad g 73), .int a1] NF σ (some (.int r.1)) NF r.2 := by
  refine Ct.of (by decide +kernel) (nle rfl) fun hw0 => ?_
  have hw := hw0 rfl
  unfold fX8_print at hr
  change RR g mX8_print (FinR g mX8_print (some (.int r.1)) NF r.2) zF 0 [(0, .ref (ad g 73)), (1, .int a1)] [] σ
  refine r_aload_n (pc := 0) (j := 0) dX8_print_0 rfl rfl ?_
  refine gf8_12 (pc := 1) tw_5_106 rfl dX8_print_1 ?_
  refine r_if_eq (pc := 4) (tgt := 17) dX8_print_4 rfl (fun hc => ?_) (fun hc => ?_)
  · replace hr := ite_t hc hr
    refine r_iconst (pc := 17) (v := (-1 : Int32)) dX8_print_17 rfl ?_
    exact l_osi hr (r_iret (pc := 18) (v := (-1 : Int32)) rfl rfl ⟨Nat.le_refl _, Nat.le_refl _⟩ dX8_print_18)
  replace hr := ite_f hc hr
  refine r_iload_n (pc := 7) (j := 1) dX8_print_7 rfl rfl ?_
  refine r_iconst (pc := 8) (v := (1 : Int32)) dX8_print_8 rfl ?_
  refine r_bipush (pc := 9) (v := (9 : Int32)) dX8_print_9 rfl ?_
  refine kX8_in (pc := 11) (hf := rfl) tw_6_65 ⟨nle rfl, nle rfl⟩ (nle rfl) dX8_print_11 ?_
  refine r_ifB_ne (pc := 14) (tgt := 19) dX8_print_14 rfl (fun hc => ?_) (fun hc => ?_)
  · replace hr := ite_t hc hr
    refine r_iconst (pc := 19) (v := (0 : Int32)) dX8_print_19 rfl ?_
    refine r_istore_n (pc := 20) (ls1 := [(2, .int (0 : Int32)), (0, .ref (ad g 73)), (1, .int a1)]) dX8_print_20 rfl (nle rfl) rfl ?_
    refine r_pick (ls1 := [(0, .ref (ad g 73)), (1, .int a1), (2, .int (0 : Int32))]) [1, 2, 0] rfl ?_
    refine sX8_print_L21  hw  (fun hr => ?_) fuel (0 : Int32) hr
    refine r_aload_n (pc := 73) (j := 0) dX8_print_73 rfl rfl ?_
    obtain ⟨σ2, eσ2, hr⟩ := bnd1_inv hr
    refine kX8_clears (pc := 74) eσ2 tw_6_161 ⟨nle rfl, nle rfl⟩ (nle rfl) dX8_print_74 fun hσ2 => ?_
    refine r_iconst (pc := 77) (v := (0 : Int32)) dX8_print_77 rfl ?_
    refine r_istore_n (pc := 78) (ls1 := [(2, .int (0 : Int32)), (0, .ref (ad g 73)), (1, .int a1)]) dX8_print_78 rfl (nle rfl) rfl ?_
    refine r_pick (ls1 := [(0, .ref (ad g 73)), (1, .int a1), (2, .int (0 : Int32))]) [1, 2, 0] rfl ?_
    refine sX8_print_L79    (fun σ11 hr hσ11 => ?_) fuel (0 : Int32) σ2 hr hσ2
    refine r_iconst (pc := 174) (v := (0 : Int32)) dX8_print_174 rfl ?_
    refine r_istore_n (pc := 175) (ls1 := [(2, .int (0 : Int32)), (0, .ref (ad g 73)), (1, .int a1)]) dX8_print_175 rfl (nle rfl) rfl ?_
    refine r_pick (ls1 := [(0, .ref (ad g 73)), (1, .int a1), (2, .int (0 : Int32))]) [1, 2, 0] rfl ?_
    refine sX8_print_L176    (fun σ21 hr hσ21 => ?_) fuel (0 : Int32) σ11 hr hσ11
    refine r_iconst (pc := 227) (v := (0 : Int32)) dX8_print_227 rfl ?_
    refine r_istore_n (pc := 228) (ls1 := [(2, .int (0 : Int32)), (0, .ref (ad g 73))]) dX8_print_228 rfl (nle rfl) rfl ?_
    refine r_iconst (pc := 229) (v := (0 : Int32)) dX8_print_229 rfl ?_
    refine r_istore_n (pc := 230) (ls1 := [(3, .int (0 : Int32)), (2, .int (0 : Int32)), (0, .ref (ad g 73))]) dX8_print_230 rfl (nle rfl) rfl ?_
    refine r_pick (ls1 := [(0, .ref (ad g 73)), (2, .int (0 : Int32)), (3, .int (0 : Int32))]) [2, 1, 0] rfl ?_
    refine sX8_print_L231  hσ21   fuel (0 : Int32) (0 : Int32) hr
  replace hr := ite_f hc hr
  refine r_iconst (pc := 17) (v := (-1 : Int32)) dX8_print_17 rfl ?_
  exact l_osi hr (r_iret (pc := 18) (v := (-1 : Int32)) rfl rfl ⟨Nat.le_refl _, Nat.le_refl _⟩ dX8_print_18)

theorem kX8_print {g : GG} {σ : SS} {a1 : Int32} {v : Int32} {σ2 : SS} {M : MM} {F : State → Array Value → List Frame → State → Prop} {pc index : Nat} {ls : List (Nat × Value)} {rest : List Value} (hf : fX8_print σ a1 = some (v, σ2))  (hl : Cond.methodLink M.1.cls index yX8_print ∈ lw_gt) (hR : mX8_print.2.2.2.2.frames + 1 ≤ M.2.2.2.2.frames ∧ 8 + (mX8_print.2.2.1 + 11) + mX8_print.2.2.2.2.locals ≤ M.2.2.2.2.locals) (hrest : (rest.map fun v => v.category).sum ≤ 8) (hd : decode M.2.1 pc = .ok (.invokevirtual index, 3)) (k : WT σ2 → RR g M F zF (pc + 3) ls (.int v :: rest) σ2) : RR g M F zF pc ls (.int a1 :: .ref (ad g 73) :: rest) σ :=
  r_callV (N := mX8_print) (nn := 1) (o1 := some (.int v)) (sX8_print hf ) (rfl : shp 73 = (8, 0)) (by decide) (shp_le (rfl : shp 73 = (8, 0)) (nle rfl)) (ci := 8) rfl rfl tw_7_166 tw_1_10 hl tw_7_164 tw_7_165 ⟨by decide, by decide, rfl⟩ hR rfl hrest hd ⟨Nat.zero_le _, Nat.zero_le _⟩ rfl (fun h => k (h rfl))

theorem dX7_unlike_0 : decode cX7_unlike 0 = .ok (.aload_n 0, 1) := by decide +kernel
theorem dX7_unlike_1 : decode cX7_unlike 1 = .ok (.getfield 32, 3) := by decide +kernel
theorem dX7_unlike_4 : decode cX7_unlike 4 = .ok (.getfield 274, 3) := by decide +kernel
theorem dX7_unlike_7 : decode cX7_unlike 7 = .ok (.ifCond .ne 5, 3) := by decide +kernel
theorem dX7_unlike_10 : decode cX7_unlike 10 = .ok (.iconst (-1), 1) := by decide +kernel
theorem dX7_unlike_11 : decode cX7_unlike 11 = .ok (.ireturn, 1) := by decide +kernel
theorem dX7_unlike_12 : decode cX7_unlike 12 = .ok (.aload_n 0, 1) := by decide +kernel
theorem dX7_unlike_13 : decode cX7_unlike 13 = .ok (.getfield 62, 3) := by decide +kernel
theorem dX7_unlike_16 : decode cX7_unlike 16 = .ok (.aload_n 0, 1) := by decide +kernel
theorem dX7_unlike_17 : decode cX7_unlike 17 = .ok (.getfield 18, 3) := by decide +kernel
theorem dX7_unlike_20 : decode cX7_unlike 20 = .ok (.aload_n 0, 1) := by decide +kernel
theorem dX7_unlike_21 : decode cX7_unlike 21 = .ok (.getfield 32, 3) := by decide +kernel
theorem dX7_unlike_24 : decode cX7_unlike 24 = .ok (.invokevirtual 303, 3) := by decide +kernel
theorem dX7_unlike_27 : decode cX7_unlike 27 = .ok (.ifCond .ne 6, 3) := by decide +kernel
theorem dX7_unlike_30 : decode cX7_unlike 30 = .ok (.bipush (-2), 2) := by decide +kernel
theorem dX7_unlike_32 : decode cX7_unlike 32 = .ok (.ireturn, 1) := by decide +kernel
theorem dX7_unlike_33 : decode cX7_unlike 33 = .ok (.iconst 0, 1) := by decide +kernel
theorem dX7_unlike_34 : decode cX7_unlike 34 = .ok (.istore_n 1, 1) := by decide +kernel
theorem dX7_unlike_35 : decode cX7_unlike 35 = .ok (.iconst 0, 1) := by decide +kernel
theorem dX7_unlike_36 : decode cX7_unlike 36 = .ok (.istore_n 2, 1) := by decide +kernel
theorem dX7_unlike_37 : decode cX7_unlike 37 = .ok (.iload_n 2, 1) := by decide +kernel
theorem dX7_unlike_38 : decode cX7_unlike 38 = .ok (.aload_n 0, 1) := by decide +kernel
theorem dX7_unlike_39 : decode cX7_unlike 39 = .ok (.getfield 32, 3) := by decide +kernel
theorem dX7_unlike_42 : decode cX7_unlike 42 = .ok (.getfield 97, 3) := by decide +kernel
theorem dX7_unlike_45 : decode cX7_unlike 45 = .ok (.if_icmp .ge 30, 3) := by decide +kernel
theorem dX7_unlike_48 : decode cX7_unlike 48 = .ok (.aload_n 0, 1) := by decide +kernel
theorem dX7_unlike_49 : decode cX7_unlike 49 = .ok (.getfield 62, 3) := by decide +kernel
theorem dX7_unlike_52 : decode cX7_unlike 52 = .ok (.getfield 305, 3) := by decide +kernel
theorem dX7_unlike_55 : decode cX7_unlike 55 = .ok (.iload_n 2, 1) := by decide +kernel
theorem dX7_unlike_56 : decode cX7_unlike 56 = .ok (.iaload, 1) := by decide +kernel
theorem dX7_unlike_57 : decode cX7_unlike 57 = .ok (.aload_n 0, 1) := by decide +kernel
theorem dX7_unlike_58 : decode cX7_unlike 58 = .ok (.getfield 56, 3) := by decide +kernel
theorem dX7_unlike_61 : decode cX7_unlike 61 = .ok (.iload_n 2, 1) := by decide +kernel
theorem dX7_unlike_62 : decode cX7_unlike 62 = .ok (.iaload, 1) := by decide +kernel
theorem dX7_unlike_63 : decode cX7_unlike 63 = .ok (.if_icmp .eq 6, 3) := by decide +kernel
theorem dX7_unlike_66 : decode cX7_unlike 66 = .ok (.iinc 1 1, 3) := by decide +kernel
theorem dX7_unlike_69 : decode cX7_unlike 69 = .ok (.iinc 2 1, 3) := by decide +kernel
theorem dX7_unlike_72 : decode cX7_unlike 72 = .ok (.goto (-35), 3) := by decide +kernel
theorem dX7_unlike_75 : decode cX7_unlike 75 = .ok (.iload_n 1, 1) := by decide +kernel
theorem dX7_unlike_76 : decode cX7_unlike 76 = .ok (.ireturn, 1) := by decide +kernel
def mX7_unlike : MM := (yX7_unlike, cX7_unlike, 3, Option.some Jvm.ClassFile.FieldType.int, { frames := 6, cells := 0, slots := 0, locals := 148 })
def X7_unlike_L37 (σ_ : SS)   : Nat → Int32 → Int32 → Option (Int32 × SS) :=
  lp (fun _ _ => none) fun rec v1_ v2_ =>
    if (gI σ_ (gR σ_ 1 5) 5) ≤ v2_ then (
      some (v1_, σ_)
      ) else (
      grd (inb v2_ 12) <|
      if (gI σ_ 53 (Int32.toNatClampNeg v2_)) = (gI σ_ 30 (Int32.toNatClampNeg v2_)) then (
        rec v1_ (v2_ + (1 : Int32))
        ) else (
        rec (v1_ + (1 : Int32)) (v2_ + (1 : Int32))
        )
      )

def fX7_unlike (σ : SS)  : Option (Int32 × SS) :=
  if (gI σ (gR σ 1 5) 0) = 0 then (
    some ((-1 : Int32), σ)
    ) else (
    bnd (fX3_read σ (gR σ 1 2) (gR σ 1 5)) fun b2 σ4 =>
    if b2 = true then (
      X7_unlike_L37 σ4
      fuel (0 : Int32) (0 : Int32)
      ) else (
      some ((-2 : Int32), σ4)
      )
    )

set_option maxRecDepth 20000 in
theorem sX7_unlike_L37 {g : GG} {r : Int32 × SS} {σ_ : SS}   
    (hw_ : WT σ_)
    (n : Nat) : ∀ (v1_ : Int32) (v2_ : Int32), X7_unlike_L37 σ_ n v1_ v2_ = some r → RR g mX7_unlike (FinR g mX7_unlike (some (.int r.1)) NF r.2) zF 37 [(0, .ref (ad g 1)), (1, .int v1_), (2, .int v2_)] [] σ_ := by
  unfold X7_unlike_L37
  refine lp_ind (P := fun (rec : Int32 → Int32 → Option (Int32 × SS)) => ∀ (v1_ : Int32) (v2_ : Int32), rec v1_ v2_ = some r → RR g mX7_unlike (FinR g mX7_unlike (some (.int r.1)) NF r.2) zF 37 [(0, .ref (ad g 1)), (1, .int v1_), (2, .int v2_)] [] σ_) ?_ ?_ n
  · intro v1_ v2_ hr; cases hr
  intro rec ih v1_ v2_ hr
  refine r_iload_n (pc := 37) (j := 2) dX7_unlike_37 rfl rfl ?_
  refine r_aload_n (pc := 38) (j := 0) dX7_unlike_38 rfl rfl ?_
  refine gf7_5 (pc := 39) tw_2_114 hw_ dX7_unlike_39 ?_
  refine gf1_5 (pc := 42) tw_1_79 (wt_fo hw_).1 dX7_unlike_42 ?_
  refine r_icmp_ge (pc := 45) (tgt := 75) dX7_unlike_45 rfl (fun hc => ?_) (fun hc => ?_)
  · replace hr := ite_t hc hr
    refine r_iload_n (pc := 75) (j := 1) dX7_unlike_75 rfl rfl ?_
    exact l_osi hr (r_iret (pc := 76) (v := v1_) rfl rfl ⟨Nat.le_refl _, Nat.le_refl _⟩ dX7_unlike_76)
  replace hr := ite_f hc hr
  refine r_aload_n (pc := 48) (j := 0) dX7_unlike_48 rfl rfl ?_
  refine gf7_12 (pc := 49) tw_2_121 hw_ dX7_unlike_49 ?_
  refine gf3_7 (pc := 52) tw_2_37 hw_ dX7_unlike_52 ?_
  refine r_iload_n (pc := 55) (j := 2) dX7_unlike_55 rfl rfl ?_
  obtain ⟨h5, hr⟩ := grd_inv hr
  refine x_iald (pc := 56) (k := (Int32.toNatClampNeg v2_)) rfl h5 rfl dX7_unlike_56 ?_
  refine r_aload_n (pc := 57) (j := 0) dX7_unlike_57 rfl rfl ?_
  refine gf7_11 (pc := 58) tw_2_120 hw_ dX7_unlike_58 ?_
  refine r_iload_n (pc := 61) (j := 2) dX7_unlike_61 rfl rfl ?_
  refine x_iald (pc := 62) (k := (Int32.toNatClampNeg v2_)) rfl h5 rfl dX7_unlike_62 ?_
  refine r_icmp_eq (pc := 63) (tgt := 69) dX7_unlike_63 rfl (fun hc => ?_) (fun hc => ?_)
  · replace hr := ite_t hc hr
    refine r_iinc (pc := 69) (j := 2) (v := (v2_ + (1 : Int32))) (ls1 := [(2, .int (v2_ + (1 : Int32))), (0, .ref (ad g 1)), (1, .int v1_)]) dX7_unlike_69 rfl rfl (nle rfl) rfl ?_
    refine r_goto (pc := 72) (tgt := 37) dX7_unlike_72 rfl ?_
    exact r_pick (ls1 := [(0, .ref (ad g 1)), (1, .int v1_), (2, .int (v2_ + (1 : Int32)))]) [1, 2, 0] rfl (ih v1_ (v2_ + (1 : Int32)) hr)
  replace hr := ite_f hc hr
  refine r_iinc (pc := 66) (j := 1) (v := (v1_ + (1 : Int32))) (ls1 := [(1, .int (v1_ + (1 : Int32))), (0, .ref (ad g 1)), (2, .int v2_)]) dX7_unlike_66 rfl rfl (nle rfl) rfl ?_
  refine r_iinc (pc := 69) (j := 2) (v := (v2_ + (1 : Int32))) (ls1 := [(2, .int (v2_ + (1 : Int32))), (1, .int (v1_ + (1 : Int32))), (0, .ref (ad g 1))]) dX7_unlike_69 rfl rfl (nle rfl) rfl ?_
  refine r_goto (pc := 72) (tgt := 37) dX7_unlike_72 rfl ?_
  exact r_pick (ls1 := [(0, .ref (ad g 1)), (1, .int (v1_ + (1 : Int32))), (2, .int (v2_ + (1 : Int32)))]) [2, 1, 0] rfl (ih (v1_ + (1 : Int32)) (v2_ + (1 : Int32)) hr)

set_option maxRecDepth 20000 in
theorem sX7_unlike {g : GG} {σ : SS}  {r : Int32 × SS} (hr : fX7_unlike σ = some r)  : Ct g mX7_unlike [.ref (ad g 1)] NF σ (some (.int r.1)) NF r.2 := by
  refine Ct.of (by decide +kernel) (nle rfl) fun hw0 => ?_
  have hw := hw0 rfl
  unfold fX7_unlike at hr
  change RR g mX7_unlike (FinR g mX7_unlike (some (.int r.1)) NF r.2) zF 0 [(0, .ref (ad g 1))] [] σ
  refine r_aload_n (pc := 0) (j := 0) dX7_unlike_0 rfl rfl ?_
  refine gf7_5 (pc := 1) tw_2_114 hw dX7_unlike_1 ?_
  refine gf1_0 (pc := 4) tw_1_61 (wt_fo hw).1 dX7_unlike_4 ?_
  refine r_if_ne (pc := 7) (tgt := 12) dX7_unlike_7 rfl (fun hc => ?_) (fun hc => ?_)
  · replace hr := ite_f hc hr
    refine r_aload_n (pc := 12) (j := 0) dX7_unlike_12 rfl rfl ?_
    refine gf7_12 (pc := 13) tw_2_121 hw dX7_unlike_13 ?_
    refine r_aload_n (pc := 16) (j := 0) dX7_unlike_16 rfl rfl ?_
    refine gf7_2 (pc := 17) tw_2_111 hw dX7_unlike_17 ?_
    refine r_aload_n (pc := 20) (j := 0) dX7_unlike_20 rfl rfl ?_
    refine gf7_5 (pc := 21) tw_2_114 hw dX7_unlike_21 ?_
    obtain ⟨b2, σ4, eσ4, hr⟩ := bnd_inv hr
    refine kX3_read (pc := 24) eσ4 (wt_sc hw).1 (wt_fo hw).1 tw_4_135 ⟨nle rfl, nle rfl⟩ (nle rfl) dX7_unlike_24 fun hσ4 => ?_
    refine r_ifB_ne (pc := 27) (tgt := 33) dX7_unlike_27 rfl (fun hc => ?_) (fun hc => ?_)
    · replace hr := ite_t hc hr
      refine r_iconst (pc := 33) (v := (0 : Int32)) dX7_unlike_33 rfl ?_
      refine r_istore_n (pc := 34) (ls1 := [(1, .int (0 : Int32)), (0, .ref (ad g 1))]) dX7_unlike_34 rfl (nle rfl) rfl ?_
      refine r_iconst (pc := 35) (v := (0 : Int32)) dX7_unlike_35 rfl ?_
      refine r_istore_n (pc := 36) (ls1 := [(2, .int (0 : Int32)), (1, .int (0 : Int32)), (0, .ref (ad g 1))]) dX7_unlike_36 rfl (nle rfl) rfl ?_
      refine r_pick (ls1 := [(0, .ref (ad g 1)), (1, .int (0 : Int32)), (2, .int (0 : Int32))]) [2, 1, 0] rfl ?_
      refine sX7_unlike_L37  hσ4   fuel (0 : Int32) (0 : Int32) hr
    replace hr := ite_f hc hr
    refine r_bipush (pc := 30) (v := (-2 : Int32)) dX7_unlike_30 rfl ?_
    exact l_osi hr (r_iret (pc := 32) (v := (-2 : Int32)) rfl rfl ⟨Nat.le_refl _, Nat.le_refl _⟩ dX7_unlike_32)
  replace hr := ite_t hc hr
  refine r_iconst (pc := 10) (v := (-1 : Int32)) dX7_unlike_10 rfl ?_
  exact l_osi hr (r_iret (pc := 11) (v := (-1 : Int32)) rfl rfl ⟨Nat.le_refl _, Nat.le_refl _⟩ dX7_unlike_11)

theorem kX7_unlike {g : GG} {σ : SS}  {v : Int32} {σ2 : SS} {M : MM} {F : State → Array Value → List Frame → State → Prop} {pc index : Nat} {ls : List (Nat × Value)} {rest : List Value} (hf : fX7_unlike σ = some (v, σ2))  (hl : Cond.methodLink M.1.cls index yX7_unlike ∈ lw_gt) (hR : mX7_unlike.2.2.2.2.frames + 1 ≤ M.2.2.2.2.frames ∧ 8 + (mX7_unlike.2.2.1 + 11) + mX7_unlike.2.2.2.2.locals ≤ M.2.2.2.2.locals) (hrest : (rest.map fun v => v.category).sum ≤ 8) (hd : decode M.2.1 pc = .ok (.invokevirtual index, 3)) (k : WT σ2 → RR g M F zF (pc + 3) ls (.int v :: rest) σ2) : RR g M F zF pc ls (.ref (ad g 1) :: rest) σ :=
  r_callV (N := mX7_unlike) (nn := 0) (o1 := some (.int v)) (sX7_unlike hf ) (rfl : shp 1 = (7, 0)) (by decide) (shp_le (rfl : shp 1 = (7, 0)) (nle rfl)) (ci := 7) rfl rfl tw_4_239 tw_1_1 hl tw_4_237 tw_4_238 ⟨by decide, by decide, rfl⟩ hR rfl hrest hd ⟨Nat.zero_le _, Nat.zero_le _⟩ rfl (fun h => k (h rfl))

theorem dX8_unlike_0 : decode cX8_unlike 0 = .ok (.aload_n 0, 1) := by decide +kernel
theorem dX8_unlike_1 : decode cX8_unlike 1 = .ok (.getfield 202, 3) := by decide +kernel
theorem dX8_unlike_4 : decode cX8_unlike 4 = .ok (.ifCond .ne 5, 3) := by decide +kernel
theorem dX8_unlike_7 : decode cX8_unlike 7 = .ok (.iconst (-1), 1) := by decide +kernel
theorem dX8_unlike_8 : decode cX8_unlike 8 = .ok (.ireturn, 1) := by decide +kernel
theorem dX8_unlike_9 : decode cX8_unlike 9 = .ok (.aload_n 0, 1) := by decide +kernel
theorem dX8_unlike_10 : decode cX8_unlike 10 = .ok (.invokevirtual 373, 3) := by decide +kernel
theorem dX8_unlike_13 : decode cX8_unlike 13 = .ok (.ifCond .ne 6, 3) := by decide +kernel
theorem dX8_unlike_16 : decode cX8_unlike 16 = .ok (.bipush (-2), 2) := by decide +kernel
theorem dX8_unlike_18 : decode cX8_unlike 18 = .ok (.ireturn, 1) := by decide +kernel
theorem dX8_unlike_19 : decode cX8_unlike 19 = .ok (.iconst 0, 1) := by decide +kernel
theorem dX8_unlike_20 : decode cX8_unlike 20 = .ok (.istore_n 1, 1) := by decide +kernel
theorem dX8_unlike_21 : decode cX8_unlike 21 = .ok (.iconst 0, 1) := by decide +kernel
theorem dX8_unlike_22 : decode cX8_unlike 22 = .ok (.istore_n 2, 1) := by decide +kernel
theorem dX8_unlike_23 : decode cX8_unlike 23 = .ok (.iload_n 2, 1) := by decide +kernel
theorem dX8_unlike_24 : decode cX8_unlike 24 = .ok (.aload_n 0, 1) := by decide +kernel
theorem dX8_unlike_25 : decode cX8_unlike 25 = .ok (.invokevirtual 266, 3) := by decide +kernel
theorem dX8_unlike_28 : decode cX8_unlike 28 = .ok (.if_icmp .ge 41, 3) := by decide +kernel
theorem dX8_unlike_31 : decode cX8_unlike 31 = .ok (.aload_n 0, 1) := by decide +kernel
theorem dX8_unlike_32 : decode cX8_unlike 32 = .ok (.iload_n 2, 1) := by decide +kernel
theorem dX8_unlike_33 : decode cX8_unlike 33 = .ok (.aload_n 0, 1) := by decide +kernel
theorem dX8_unlike_34 : decode cX8_unlike 34 = .ok (.getfield 53, 3) := by decide +kernel
theorem dX8_unlike_37 : decode cX8_unlike 37 = .ok (.iconst 3, 1) := by decide +kernel
theorem dX8_unlike_38 : decode cX8_unlike 38 = .ok (.iaload, 1) := by decide +kernel
theorem dX8_unlike_39 : decode cX8_unlike 39 = .ok (.invokevirtual 401, 3) := by decide +kernel
theorem dX8_unlike_42 : decode cX8_unlike 42 = .ok (.iload_n 1, 1) := by decide +kernel
theorem dX8_unlike_43 : decode cX8_unlike 43 = .ok (.aload_n 0, 1) := by decide +kernel
theorem dX8_unlike_44 : decode cX8_unlike 44 = .ok (.getfield 385, 3) := by decide +kernel
theorem dX8_unlike_47 : decode cX8_unlike 47 = .ok (.aload_n 0, 1) := by decide +kernel
theorem dX8_unlike_48 : decode cX8_unlike 48 = .ok (.getfield 35, 3) := by decide +kernel
theorem dX8_unlike_51 : decode cX8_unlike 51 = .ok (.iload_n 2, 1) := by decide +kernel
theorem dX8_unlike_52 : decode cX8_unlike 52 = .ok (.iaload, 1) := by decide +kernel
theorem dX8_unlike_53 : decode cX8_unlike 53 = .ok (.if_icmp .ne 7, 3) := by decide +kernel
theorem dX8_unlike_56 : decode cX8_unlike 56 = .ok (.iconst 0, 1) := by decide +kernel
theorem dX8_unlike_57 : decode cX8_unlike 57 = .ok (.goto 4, 3) := by decide +kernel
theorem dX8_unlike_60 : decode cX8_unlike 60 = .ok (.iconst 1, 1) := by decide +kernel
theorem dX8_unlike_61 : decode cX8_unlike 61 = .ok (.iadd, 1) := by decide +kernel
theorem dX8_unlike_62 : decode cX8_unlike 62 = .ok (.istore_n 1, 1) := by decide +kernel
theorem dX8_unlike_63 : decode cX8_unlike 63 = .ok (.iinc 2 1, 3) := by decide +kernel
theorem dX8_unlike_66 : decode cX8_unlike 66 = .ok (.goto (-43), 3) := by decide +kernel
theorem dX8_unlike_69 : decode cX8_unlike 69 = .ok (.iload_n 1, 1) := by decide +kernel
theorem dX8_unlike_70 : decode cX8_unlike 70 = .ok (.ireturn, 1) := by decide +kernel
def mX8_unlike : MM := (yX8_unlike, cX8_unlike, 3, Option.some Jvm.ClassFile.FieldType.int, { frames := 7, cells := 0, slots := 0, locals := 158 })
def X8_unlike_L23   : Nat → Int32 → Int32 → SS → Option (Int32 × SS) :=
  lp (fun _ _ _ => none) fun rec v1_ v2_ σ_ =>
    bnd1 (fX8_questions σ_) fun v5 =>
    if v5 ≤ v2_ then (
      some (v1_, σ_)
      ) else (
      bnd1 (fX8_judges σ_ v2_ (gI σ_ 88 3)) fun σ8 =>
      grd (inb v2_ 12) <|
      if (gI σ8 73 55) = (gI σ8 82 (Int32.toNatClampNeg v2_)) then (
        vthen (v1_ + (0 : Int32)) fun v11 =>
        rec v11 (v2_ + (1 : Int32)) σ8
        ) else (
        vthen (v1_ + (1 : Int32)) fun v10 =>
        rec v10 (v2_ + (1 : Int32)) σ8
        )
      )

def fX8_unlike (σ : SS)  : Option (Int32 × SS) :=
  if (gI σ 73 12) = 0 then (
    some ((-1 : Int32), σ)
    ) else (
    bnd (fX8_finds σ) fun b2 σ4 =>
    if b2 = true then (
      X8_unlike_L23
      fuel (0 : Int32) (0 : Int32) σ4
      ) else (
      some ((-2 : Int32), σ4)
      )
    )

set_option maxRecDepth 20000 in
theorem sX8_unlike_L23 {g : GG} {r : Int32 × SS}   
    (n : Nat) : ∀ (v1_ : Int32) (v2_ : Int32) (σ_ : SS), X8_unlike_L23 n v1_ v2_ σ_ = some r → WT σ_ → RR g mX8_unlike (FinR g mX8_unlike (some (.int r.1)) NF r.2) zF 23 [(0, .ref (ad g 73)), (1, .int v1_), (2, .int v2_)] [] σ_ := by
  unfold X8_unlike_L23
  refine lp_ind (P := fun (rec : Int32 → Int32 → SS → Option (Int32 × SS)) => ∀ (v1_ : Int32) (v2_ : Int32) (σ_ : SS), rec v1_ v2_ σ_ = some r → WT σ_ → RR g mX8_unlike (FinR g mX8_unlike (some (.int r.1)) NF r.2) zF 23 [(0, .ref (ad g 73)), (1, .int v1_), (2, .int v2_)] [] σ_) ?_ ?_ n
  · intro v1_ v2_ σ_ hr; cases hr
  intro rec ih v1_ v2_ σ_ hr hw_
  refine r_iload_n (pc := 23) (j := 2) dX8_unlike_23 rfl rfl ?_
  refine r_aload_n (pc := 24) (j := 0) dX8_unlike_24 rfl rfl ?_
  obtain ⟨v5, hv5, hr⟩ := bnd1_inv hr
  refine kX8_questions (pc := 25) hv5 tw_6_145 ⟨nle rfl, nle rfl⟩ (nle rfl) dX8_unlike_25 ?_
  refine r_icmp_ge (pc := 28) (tgt := 69) dX8_unlike_28 rfl (fun hc => ?_) (fun hc => ?_)
  · replace hr := ite_t hc hr
    refine r_iload_n (pc := 69) (j := 1) dX8_unlike_69 rfl rfl ?_
    exact l_osi hr (r_iret (pc := 70) (v := v1_) rfl rfl ⟨Nat.le_refl _, Nat.le_refl _⟩ dX8_unlike_70)
  replace hr := ite_f hc hr
  refine r_aload_n (pc := 31) (j := 0) dX8_unlike_31 rfl rfl ?_
  refine r_iload_n (pc := 32) (j := 2) dX8_unlike_32 rfl rfl ?_
  refine r_aload_n (pc := 33) (j := 0) dX8_unlike_33 rfl rfl ?_
  refine gf8_26 (pc := 34) tw_5_120 hw_ dX8_unlike_34 ?_
  refine r_iconst (pc := 37) (v := (3 : Int32)) dX8_unlike_37 rfl ?_
  refine x_iald (pc := 38) (k := 3) rfl (by decide) rfl dX8_unlike_38 ?_
  obtain ⟨σ8, eσ8, hr⟩ := bnd1_inv hr
  refine kX8_judges (pc := 39) eσ8 tw_7_107 ⟨nle rfl, nle rfl⟩ (nle rfl) dX8_unlike_39 fun hσ8 => ?_
  refine r_iload_n (pc := 42) (j := 1) dX8_unlike_42 rfl rfl ?_
  refine r_aload_n (pc := 43) (j := 0) dX8_unlike_43 rfl rfl ?_
  refine gf8_55 (pc := 44) tw_5_149 rfl dX8_unlike_44 ?_
  refine r_aload_n (pc := 47) (j := 0) dX8_unlike_47 rfl rfl ?_
  refine gf8_20 (pc := 48) tw_5_114 hσ8 dX8_unlike_48 ?_
  refine r_iload_n (pc := 51) (j := 2) dX8_unlike_51 rfl rfl ?_
  obtain ⟨h9, hr⟩ := grd_inv hr
  refine x_iald (pc := 52) (k := (Int32.toNatClampNeg v2_)) rfl h9 rfl dX8_unlike_52 ?_
  refine r_icmp_ne (pc := 53) (tgt := 60) dX8_unlike_53 rfl (fun hc => ?_) (fun hc => ?_)
  · replace hr := ite_f hc hr
    refine r_iconst (pc := 60) (v := (1 : Int32)) dX8_unlike_60 rfl ?_
    refine r_iadd (pc := 61) dX8_unlike_61 ?_
    refine r_topi fun v10 ev10 => ?_
    replace hr := vthen_inv hr v10 ev10
    refine r_istore_n (pc := 62) (ls1 := [(1, .int v10), (0, .ref (ad g 73)), (2, .int v2_)]) dX8_unlike_62 rfl (nle rfl) rfl ?_
    refine r_iinc (pc := 63) (j := 2) (v := (v2_ + (1 : Int32))) (ls1 := [(2, .int (v2_ + (1 : Int32))), (1, .int v10), (0, .ref (ad g 73))]) dX8_unlike_63 rfl rfl (nle rfl) rfl ?_
    refine r_goto (pc := 66) (tgt := 23) dX8_unlike_66 rfl ?_
    exact r_pick (ls1 := [(0, .ref (ad g 73)), (1, .int v10), (2, .int (v2_ + (1 : Int32)))]) [2, 1, 0] rfl (ih v10 (v2_ + (1 : Int32)) σ8 hr hσ8)
  replace hr := ite_t hc hr
  refine r_iconst (pc := 56) (v := (0 : Int32)) dX8_unlike_56 rfl ?_
  refine r_goto (pc := 57) (tgt := 61) dX8_unlike_57 rfl ?_
  refine r_iadd (pc := 61) dX8_unlike_61 ?_
  refine r_topi fun v11 ev11 => ?_
  replace hr := vthen_inv hr v11 ev11
  refine r_istore_n (pc := 62) (ls1 := [(1, .int v11), (0, .ref (ad g 73)), (2, .int v2_)]) dX8_unlike_62 rfl (nle rfl) rfl ?_
  refine r_iinc (pc := 63) (j := 2) (v := (v2_ + (1 : Int32))) (ls1 := [(2, .int (v2_ + (1 : Int32))), (1, .int v11), (0, .ref (ad g 73))]) dX8_unlike_63 rfl rfl (nle rfl) rfl ?_
  refine r_goto (pc := 66) (tgt := 23) dX8_unlike_66 rfl ?_
  exact r_pick (ls1 := [(0, .ref (ad g 73)), (1, .int v11), (2, .int (v2_ + (1 : Int32)))]) [2, 1, 0] rfl (ih v11 (v2_ + (1 : Int32)) σ8 hr hσ8)

set_option maxRecDepth 20000 in
theorem sX8_unlike {g : GG} {σ : SS}  {r : Int32 × SS} (hr : fX8_unlike σ = some r)  : Ct g mX8_unlike [.ref (ad g 73)] NF σ (some (.int r.1)) NF r.2 := by
  refine Ct.of (by decide +kernel) (nle rfl) fun hw0 => ?_
  have hw := hw0 rfl
  unfold fX8_unlike at hr
  change RR g mX8_unlike (FinR g mX8_unlike (some (.int r.1)) NF r.2) zF 0 [(0, .ref (ad g 73))] [] σ
  refine r_aload_n (pc := 0) (j := 0) dX8_unlike_0 rfl rfl ?_
  refine gf8_12 (pc := 1) tw_5_106 rfl dX8_unlike_1 ?_
  refine r_if_ne (pc := 4) (tgt := 9) dX8_unlike_4 rfl (fun hc => ?_) (fun hc => ?_)
  · replace hr := ite_f hc hr
    refine r_aload_n (pc := 9) (j := 0) dX8_unlike_9 rfl rfl ?_
    obtain ⟨b2, σ4, eσ4, hr⟩ := bnd_inv hr
    refine kX8_finds (pc := 10) eσ4 tw_7_94 ⟨nle rfl, nle rfl⟩ (nle rfl) dX8_unlike_10 fun hσ4 => ?_
    refine r_ifB_ne (pc := 13) (tgt := 19) dX8_unlike_13 rfl (fun hc => ?_) (fun hc => ?_)
    · replace hr := ite_t hc hr
      refine r_iconst (pc := 19) (v := (0 : Int32)) dX8_unlike_19 rfl ?_
      refine r_istore_n (pc := 20) (ls1 := [(1, .int (0 : Int32)), (0, .ref (ad g 73))]) dX8_unlike_20 rfl (nle rfl) rfl ?_
      refine r_iconst (pc := 21) (v := (0 : Int32)) dX8_unlike_21 rfl ?_
      refine r_istore_n (pc := 22) (ls1 := [(2, .int (0 : Int32)), (1, .int (0 : Int32)), (0, .ref (ad g 73))]) dX8_unlike_22 rfl (nle rfl) rfl ?_
      refine r_pick (ls1 := [(0, .ref (ad g 73)), (1, .int (0 : Int32)), (2, .int (0 : Int32))]) [2, 1, 0] rfl ?_
      refine sX8_unlike_L23     fuel (0 : Int32) (0 : Int32) σ4 hr hσ4
    replace hr := ite_f hc hr
    refine r_bipush (pc := 16) (v := (-2 : Int32)) dX8_unlike_16 rfl ?_
    exact l_osi hr (r_iret (pc := 18) (v := (-2 : Int32)) rfl rfl ⟨Nat.le_refl _, Nat.le_refl _⟩ dX8_unlike_18)
  replace hr := ite_t hc hr
  refine r_iconst (pc := 7) (v := (-1 : Int32)) dX8_unlike_7 rfl ?_
  exact l_osi hr (r_iret (pc := 8) (v := (-1 : Int32)) rfl rfl ⟨Nat.le_refl _, Nat.le_refl _⟩ dX8_unlike_8)

theorem kX8_unlike {g : GG} {σ : SS}  {v : Int32} {σ2 : SS} {M : MM} {F : State → Array Value → List Frame → State → Prop} {pc index : Nat} {ls : List (Nat × Value)} {rest : List Value} (hf : fX8_unlike σ = some (v, σ2))  (hl : Cond.methodLink M.1.cls index yX8_unlike ∈ lw_gt) (hR : mX8_unlike.2.2.2.2.frames + 1 ≤ M.2.2.2.2.frames ∧ 8 + (mX8_unlike.2.2.1 + 11) + mX8_unlike.2.2.2.2.locals ≤ M.2.2.2.2.locals) (hrest : (rest.map fun v => v.category).sum ≤ 8) (hd : decode M.2.1 pc = .ok (.invokevirtual index, 3)) (k : WT σ2 → RR g M F zF (pc + 3) ls (.int v :: rest) σ2) : RR g M F zF pc ls (.ref (ad g 73) :: rest) σ :=
  r_callV (N := mX8_unlike) (nn := 0) (o1 := some (.int v)) (sX8_unlike hf ) (rfl : shp 73 = (8, 0)) (by decide) (shp_le (rfl : shp 73 = (8, 0)) (nle rfl)) (ci := 8) rfl rfl tw_7_174 tw_1_10 hl tw_7_172 tw_7_173 ⟨by decide, by decide, rfl⟩ hR rfl hrest hd ⟨Nat.zero_le _, Nat.zero_le _⟩ rfl (fun h => k (h rfl))

