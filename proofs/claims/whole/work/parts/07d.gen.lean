/-! Walks written by a program out of the bytecode: each method as a function over the store, and its contract. -/
theorem dX0_wipeSpecks_0 : decode cX0_wipeSpecks 0 = .ok (.iconst 0, 1) := by decide +kernel
theorem dX0_wipeSpecks_1 : decode cX0_wipeSpecks 1 = .ok (.istore 4, 2) := by decide +kernel
theorem dX0_wipeSpecks_3 : decode cX0_wipeSpecks 3 = .ok (.aload_n 0, 1) := by decide +kernel
theorem dX0_wipeSpecks_4 : decode cX0_wipeSpecks 4 = .ok (.getfield 39, 3) := by decide +kernel
theorem dX0_wipeSpecks_7 : decode cX0_wipeSpecks 7 = .ok (.iconst 0, 1) := by decide +kernel
theorem dX0_wipeSpecks_8 : decode cX0_wipeSpecks 8 = .ok (.invokestatic 47, 3) := by decide +kernel
theorem dX0_wipeSpecks_11 : decode cX0_wipeSpecks 11 = .ok (.iconst 0, 1) := by decide +kernel
theorem dX0_wipeSpecks_12 : decode cX0_wipeSpecks 12 = .ok (.istore 5, 2) := by decide +kernel
theorem dX0_wipeSpecks_14 : decode cX0_wipeSpecks 14 = .ok (.iload 5, 2) := by decide +kernel
theorem dX0_wipeSpecks_16 : decode cX0_wipeSpecks 16 = .ok (.aload_n 1, 1) := by decide +kernel
theorem dX0_wipeSpecks_17 : decode cX0_wipeSpecks 17 = .ok (.invokevirtual 53, 3) := by decide +kernel
theorem dX0_wipeSpecks_20 : decode cX0_wipeSpecks 20 = .ok (.if_icmp .ge 61, 3) := by decide +kernel
theorem dX0_wipeSpecks_23 : decode cX0_wipeSpecks 23 = .ok (.aload_n 0, 1) := by decide +kernel
theorem dX0_wipeSpecks_24 : decode cX0_wipeSpecks 24 = .ok (.aload_n 1, 1) := by decide +kernel
theorem dX0_wipeSpecks_25 : decode cX0_wipeSpecks 25 = .ok (.iload_n 2, 1) := by decide +kernel
theorem dX0_wipeSpecks_26 : decode cX0_wipeSpecks 26 = .ok (.iload 5, 2) := by decide +kernel
theorem dX0_wipeSpecks_28 : decode cX0_wipeSpecks 28 = .ok (.invokevirtual 59, 3) := by decide +kernel
theorem dX0_wipeSpecks_31 : decode cX0_wipeSpecks 31 = .ok (.istore 6, 2) := by decide +kernel
theorem dX0_wipeSpecks_33 : decode cX0_wipeSpecks 33 = .ok (.iload 6, 2) := by decide +kernel
theorem dX0_wipeSpecks_35 : decode cX0_wipeSpecks 35 = .ok (.iload_n 3, 1) := by decide +kernel
theorem dX0_wipeSpecks_36 : decode cX0_wipeSpecks 36 = .ok (.if_icmp .ge 39, 3) := by decide +kernel
theorem dX0_wipeSpecks_39 : decode cX0_wipeSpecks 39 = .ok (.iconst 0, 1) := by decide +kernel
theorem dX0_wipeSpecks_40 : decode cX0_wipeSpecks 40 = .ok (.istore 7, 2) := by decide +kernel
theorem dX0_wipeSpecks_42 : decode cX0_wipeSpecks 42 = .ok (.iload 7, 2) := by decide +kernel
theorem dX0_wipeSpecks_44 : decode cX0_wipeSpecks 44 = .ok (.iload 6, 2) := by decide +kernel
theorem dX0_wipeSpecks_46 : decode cX0_wipeSpecks 46 = .ok (.if_icmp .ge 22, 3) := by decide +kernel
theorem dX0_wipeSpecks_49 : decode cX0_wipeSpecks 49 = .ok (.aload_n 1, 1) := by decide +kernel
theorem dX0_wipeSpecks_50 : decode cX0_wipeSpecks 50 = .ok (.getfield 70, 3) := by decide +kernel
theorem dX0_wipeSpecks_53 : decode cX0_wipeSpecks 53 = .ok (.aload_n 0, 1) := by decide +kernel
theorem dX0_wipeSpecks_54 : decode cX0_wipeSpecks 54 = .ok (.getfield 36, 3) := by decide +kernel
theorem dX0_wipeSpecks_57 : decode cX0_wipeSpecks 57 = .ok (.iload 7, 2) := by decide +kernel
theorem dX0_wipeSpecks_59 : decode cX0_wipeSpecks 59 = .ok (.iaload, 1) := by decide +kernel
theorem dX0_wipeSpecks_60 : decode cX0_wipeSpecks 60 = .ok (.iconst 0, 1) := by decide +kernel
theorem dX0_wipeSpecks_61 : decode cX0_wipeSpecks 61 = .ok (.iastore, 1) := by decide +kernel
theorem dX0_wipeSpecks_62 : decode cX0_wipeSpecks 62 = .ok (.iinc 7 1, 3) := by decide +kernel
theorem dX0_wipeSpecks_65 : decode cX0_wipeSpecks 65 = .ok (.goto (-23), 3) := by decide +kernel
theorem dX0_wipeSpecks_68 : decode cX0_wipeSpecks 68 = .ok (.iload 4, 2) := by decide +kernel
theorem dX0_wipeSpecks_70 : decode cX0_wipeSpecks 70 = .ok (.iload 6, 2) := by decide +kernel
theorem dX0_wipeSpecks_72 : decode cX0_wipeSpecks 72 = .ok (.iadd, 1) := by decide +kernel
theorem dX0_wipeSpecks_73 : decode cX0_wipeSpecks 73 = .ok (.istore 4, 2) := by decide +kernel
theorem dX0_wipeSpecks_75 : decode cX0_wipeSpecks 75 = .ok (.iinc 5 1, 3) := by decide +kernel
theorem dX0_wipeSpecks_78 : decode cX0_wipeSpecks 78 = .ok (.goto (-64), 3) := by decide +kernel
theorem dX0_wipeSpecks_81 : decode cX0_wipeSpecks 81 = .ok (.iload 4, 2) := by decide +kernel
theorem dX0_wipeSpecks_83 : decode cX0_wipeSpecks 83 = .ok (.ireturn, 1) := by decide +kernel
def mX0_wipeSpecks : MM := (yX0_wipeSpecks, cX0_wipeSpecks, 8, Option.some Jvm.ClassFile.FieldType.int, { frames := 2, cells := 0, slots := 0, locals := 53 })
def X0_wipeSpecks_L42 (o1_ : Nat) (u6_ : Int32) (k68 : SS → Option (Int32 × SS)) : Nat → Int32 → SS → Option (Int32 × SS) :=
  lp (fun _ _ => none) fun rec v7_ σ_ =>
    if u6_ ≤ v7_ then (
      k68 σ_
      ) else (
      grd (inb v7_ 1600) <|
      grd (inb (gI σ_ 42 (Int32.toNatClampNeg v7_)) 1600) <|
      vthen (sI σ_ (o1_ + 1) (Int32.toNatClampNeg (gI σ_ 42 (Int32.toNatClampNeg v7_))) (0 : Int32)) fun σ8 =>
      rec (v7_ + (1 : Int32)) σ8
      )

def X0_wipeSpecks_L14 (o1_ : Nat) (u2_ : Int32) (u3_ : Int32)  : Nat → Int32 → Int32 → SS → Option (Int32 × SS) :=
  lp (fun _ _ _ => none) fun rec v4_ v5_ σ_ =>
    if (fX6_size σ_ o1_) ≤ v5_ then (
      some (v4_, σ_)
      ) else (
      bnd (fX0_gather σ_ o1_ u2_ v5_) fun v2 σ5 =>
      if u3_ ≤ v2 then (
        rec v4_ (v5_ + (1 : Int32)) σ5
        ) else (
        X0_wipeSpecks_L42 o1_ v2
        (fun σ9 =>
          vthen (v4_ + v2) fun v10 =>
          rec v10 (v5_ + (1 : Int32)) σ9
          )
        fuel (0 : Int32) σ5
        )
      )

def fX0_wipeSpecks (σ : SS) (a1 : Nat) (a2 : Int32) (a3 : Int32) : Option (Int32 × SS) :=
  vthen (flB σ 43 1600 (0 : Int32)) fun σ1 =>
  X0_wipeSpecks_L14 a1 a2 a3
  fuel (0 : Int32) (0 : Int32) σ1

set_option maxRecDepth 20000 in
theorem sX0_wipeSpecks_L42 {g : GG} {r : Int32 × SS} {o1_ : Nat} {x2_ : Int32} {x3_ : Int32} {x4_ : Int32} {x5_ : Int32} {u6_ : Int32} {k68 : SS → Option (Int32 × SS)} (hs1_ : shp o1_ = (6, 0))
    (hk68 : ∀ (σ_ : SS), k68 σ_ = some r → WT σ_ → RR g mX0_wipeSpecks (FinR g mX0_wipeSpecks (some (.int r.1)) NF r.2) zF 68 [(0, .ref (ad g 33)), (1, .ref (ad g o1_)), (2, .int x2_), (3, .int x3_), (4, .int x4_), (5, .int x5_), (6, .int u6_)] [] σ_)
    (n : Nat) : ∀ (v7_ : Int32) (σ_ : SS), X0_wipeSpecks_L42 o1_ u6_ k68 n v7_ σ_ = some r → WT σ_ → RR g mX0_wipeSpecks (FinR g mX0_wipeSpecks (some (.int r.1)) NF r.2) zF 42 [(0, .ref (ad g 33)), (1, .ref (ad g o1_)), (2, .int x2_), (3, .int x3_), (4, .int x4_), (5, .int x5_), (6, .int u6_), (7, .int v7_)] [] σ_ := by
  unfold X0_wipeSpecks_L42
  refine lp_ind (P := fun (rec : Int32 → SS → Option (Int32 × SS)) => ∀ (v7_ : Int32) (σ_ : SS), rec v7_ σ_ = some r → WT σ_ → RR g mX0_wipeSpecks (FinR g mX0_wipeSpecks (some (.int r.1)) NF r.2) zF 42 [(0, .ref (ad g 33)), (1, .ref (ad g o1_)), (2, .int x2_), (3, .int x3_), (4, .int x4_), (5, .int x5_), (6, .int u6_), (7, .int v7_)] [] σ_) ?_ ?_ n
  · intro v7_ σ_ hr; cases hr
  intro rec ih v7_ σ_ hr hw_
  refine r_iload (pc := 42) (j := 7) dX0_wipeSpecks_42 rfl ?_
  refine r_iload (pc := 44) (j := 6) dX0_wipeSpecks_44 rfl ?_
  refine r_icmp_ge (pc := 46) (tgt := 68) dX0_wipeSpecks_46 rfl (fun hc => ?_) (fun hc => ?_)
  · replace hr := ite_t hc hr
    exact r_pick (ls1 := [(0, .ref (ad g 33)), (1, .ref (ad g o1_)), (2, .int x2_), (3, .int x3_), (4, .int x4_), (5, .int x5_), (6, .int u6_)]) [0, 1, 2, 3, 4, 5, 6] rfl (hk68 σ_ hr hw_)
  replace hr := ite_f hc hr
  refine r_aload_n (pc := 49) (j := 1) dX0_wipeSpecks_49 rfl rfl ?_
  refine gf6_2 (pc := 50) tw_1_40 hw_ hs1_ dX0_wipeSpecks_50 ?_
  refine r_aload_n (pc := 53) (j := 0) dX0_wipeSpecks_53 rfl rfl ?_
  refine gf0_9 (pc := 54) tw_1_204 hw_ dX0_wipeSpecks_54 ?_
  refine r_iload (pc := 57) (j := 7) dX0_wipeSpecks_57 rfl ?_
  obtain ⟨h6, hr⟩ := grd_inv hr
  refine x_iald (pc := 59) (k := (Int32.toNatClampNeg v7_)) rfl h6 rfl dX0_wipeSpecks_59 ?_
  refine r_iconst (pc := 60) (v := (0 : Int32)) dX0_wipeSpecks_60 rfl ?_
  obtain ⟨h7, hr⟩ := grd_inv hr
  refine x_iast (pc := 61) (j := (Int32.toNatClampNeg (gI σ_ 42 (Int32.toNatClampNeg v7_)))) (sh6_2 hs1_) h7 rfl dX0_wipeSpecks_61 fun σ8 eσ8 => ?_
  replace hr := vthen_inv hr σ8 eσ8
  have hσ8 := wtI eσ8 hw_
  refine r_iinc (pc := 62) (j := 7) (v := (v7_ + (1 : Int32))) (ls1 := [(7, .int (v7_ + (1 : Int32))), (0, .ref (ad g 33)), (1, .ref (ad g o1_)), (2, .int x2_), (3, .int x3_), (4, .int x4_), (5, .int x5_), (6, .int u6_)]) dX0_wipeSpecks_62 rfl rfl (nle rfl) rfl ?_
  refine r_goto (pc := 65) (tgt := 42) dX0_wipeSpecks_65 rfl ?_
  exact r_pick (ls1 := [(0, .ref (ad g 33)), (1, .ref (ad g o1_)), (2, .int x2_), (3, .int x3_), (4, .int x4_), (5, .int x5_), (6, .int u6_), (7, .int (v7_ + (1 : Int32)))]) [1, 2, 3, 4, 5, 6, 7, 0] rfl (ih (v7_ + (1 : Int32)) σ8 hr hσ8)

set_option maxRecDepth 20000 in
theorem sX0_wipeSpecks_L14 {g : GG} {r : Int32 × SS} {o1_ : Nat} {u2_ : Int32} {u3_ : Int32}  (hs1_ : shp o1_ = (6, 0))
    (n : Nat) : ∀ (v4_ : Int32) (v5_ : Int32) (σ_ : SS), X0_wipeSpecks_L14 o1_ u2_ u3_ n v4_ v5_ σ_ = some r → WT σ_ → RR g mX0_wipeSpecks (FinR g mX0_wipeSpecks (some (.int r.1)) NF r.2) zF 14 [(0, .ref (ad g 33)), (1, .ref (ad g o1_)), (2, .int u2_), (3, .int u3_), (4, .int v4_), (5, .int v5_)] [] σ_ := by
  unfold X0_wipeSpecks_L14
  refine lp_ind (P := fun (rec : Int32 → Int32 → SS → Option (Int32 × SS)) => ∀ (v4_ : Int32) (v5_ : Int32) (σ_ : SS), rec v4_ v5_ σ_ = some r → WT σ_ → RR g mX0_wipeSpecks (FinR g mX0_wipeSpecks (some (.int r.1)) NF r.2) zF 14 [(0, .ref (ad g 33)), (1, .ref (ad g o1_)), (2, .int u2_), (3, .int u3_), (4, .int v4_), (5, .int v5_)] [] σ_) ?_ ?_ n
  · intro v4_ v5_ σ_ hr; cases hr
  intro rec ih v4_ v5_ σ_ hr hw_
  refine r_iload (pc := 14) (j := 5) dX0_wipeSpecks_14 rfl ?_
  refine r_aload_n (pc := 16) (j := 1) dX0_wipeSpecks_16 rfl rfl ?_
  refine kX6_size (pc := 17) (hf := rfl) hs1_ tw_3_214 ⟨nle rfl, nle rfl⟩ (nle rfl) dX0_wipeSpecks_17 ?_
  refine r_icmp_ge (pc := 20) (tgt := 81) dX0_wipeSpecks_20 rfl (fun hc => ?_) (fun hc => ?_)
  · replace hr := ite_t hc hr
    refine r_iload (pc := 81) (j := 4) dX0_wipeSpecks_81 rfl ?_
    exact l_osi hr (r_iret (pc := 83) (v := v4_) rfl rfl ⟨Nat.le_refl _, Nat.le_refl _⟩ dX0_wipeSpecks_83)
  replace hr := ite_f hc hr
  refine r_aload_n (pc := 23) (j := 0) dX0_wipeSpecks_23 rfl rfl ?_
  refine r_aload_n (pc := 24) (j := 1) dX0_wipeSpecks_24 rfl rfl ?_
  refine r_iload_n (pc := 25) (j := 2) dX0_wipeSpecks_25 rfl rfl ?_
  refine r_iload (pc := 26) (j := 5) dX0_wipeSpecks_26 rfl ?_
  obtain ⟨v2, σ5, eσ5, hr⟩ := bnd_inv hr
  refine kX0_gather (pc := 28) eσ5 hs1_ tw_3_218 ⟨nle rfl, nle rfl⟩ (nle rfl) dX0_wipeSpecks_28 fun hσ5 => ?_
  refine r_istore (pc := 31) (ls1 := [(6, .int v2), (0, .ref (ad g 33)), (1, .ref (ad g o1_)), (2, .int u2_), (3, .int u3_), (4, .int v4_), (5, .int v5_)]) dX0_wipeSpecks_31 (nle rfl) rfl ?_
  refine r_iload (pc := 33) (j := 0) dX0_wipeSpecks_33 rfl ?_
  refine r_iload_n (pc := 35) (j := 4) dX0_wipeSpecks_35 rfl rfl ?_
  refine r_icmp_ge (pc := 36) (tgt := 75) dX0_wipeSpecks_36 rfl (fun hc => ?_) (fun hc => ?_)
  · replace hr := ite_t hc hr
    refine r_iinc (pc := 75) (j := 6) (v := (v5_ + (1 : Int32))) (ls1 := [(5, .int (v5_ + (1 : Int32))), (6, .int v2), (0, .ref (ad g 33)), (1, .ref (ad g o1_)), (2, .int u2_), (3, .int u3_), (4, .int v4_)]) dX0_wipeSpecks_75 rfl rfl (nle rfl) rfl ?_
    refine r_goto (pc := 78) (tgt := 14) dX0_wipeSpecks_78 rfl ?_
    exact r_pick (ls1 := [(0, .ref (ad g 33)), (1, .ref (ad g o1_)), (2, .int u2_), (3, .int u3_), (4, .int v4_), (5, .int (v5_ + (1 : Int32)))]) [2, 3, 4, 5, 6, 0] rfl (ih v4_ (v5_ + (1 : Int32)) σ5 hr hσ5)
  replace hr := ite_f hc hr
  refine r_iconst (pc := 39) (v := (0 : Int32)) dX0_wipeSpecks_39 rfl ?_
  refine r_istore (pc := 40) (ls1 := [(7, .int (0 : Int32)), (6, .int v2), (0, .ref (ad g 33)), (1, .ref (ad g o1_)), (2, .int u2_), (3, .int u3_), (4, .int v4_), (5, .int v5_)]) dX0_wipeSpecks_40 (nle rfl) rfl ?_
  refine r_pick (ls1 := [(0, .ref (ad g 33)), (1, .ref (ad g o1_)), (2, .int u2_), (3, .int u3_), (4, .int v4_), (5, .int v5_), (6, .int v2), (7, .int (0 : Int32))]) [2, 3, 4, 5, 6, 7, 1, 0] rfl ?_
  refine sX0_wipeSpecks_L42 hs1_   (fun σ9 hr hσ9 => ?_) fuel (0 : Int32) σ5 hr hσ5
  refine r_iload (pc := 68) (j := 4) dX0_wipeSpecks_68 rfl ?_
  refine r_iload (pc := 70) (j := 6) dX0_wipeSpecks_70 rfl ?_
  refine r_iadd (pc := 72) dX0_wipeSpecks_72 ?_
  refine r_topi fun v10 ev10 => ?_
  replace hr := vthen_inv hr v10 ev10
  refine r_istore (pc := 73) (ls1 := [(4, .int v10), (0, .ref (ad g 33)), (1, .ref (ad g o1_)), (2, .int u2_), (3, .int u3_), (5, .int v5_), (6, .int v2)]) dX0_wipeSpecks_73 (nle rfl) rfl ?_
  refine r_iinc (pc := 75) (j := 5) (v := (v5_ + (1 : Int32))) (ls1 := [(5, .int (v5_ + (1 : Int32))), (4, .int v10), (0, .ref (ad g 33)), (1, .ref (ad g o1_)), (2, .int u2_), (3, .int u3_), (6, .int v2)]) dX0_wipeSpecks_75 rfl rfl (nle rfl) rfl ?_
  refine r_goto (pc := 78) (tgt := 14) dX0_wipeSpecks_78 rfl ?_
  exact r_pick (ls1 := [(0, .ref (ad g 33)), (1, .ref (ad g o1_)), (2, .int u2_), (3, .int u3_), (4, .int v10), (5, .int (v5_ + (1 : Int32)))]) [2, 3, 4, 5, 1, 0] rfl (ih v10 (v5_ + (1 : Int32)) σ9 hr hσ9)

set_option maxRecDepth 20000 in
theorem sX0_wipeSpecks {g : GG} {σ : SS} {a1 : Nat} {a2 : Int32} {a3 : Int32} {r : Int32 × SS} (hr : fX0_wipeSpecks σ a1 a2 a3 = some r) (hs1 : shp a1 = (6, 0)) : Ct g mX0_wipeSpecks [.ref (ad g 33), .ref (ad g a1), .int a2, .int a3] NF σ (some (.int r.1)) NF r.2 := by
  refine Ct.of (by decide +kernel) (nle rfl) fun hw0 => ?_
  have hw := hw0 rfl
  unfold fX0_wipeSpecks at hr
  change RR g mX0_wipeSpecks (FinR g mX0_wipeSpecks (some (.int r.1)) NF r.2) zF 0 [(0, .ref (ad g 33)), (1, .ref (ad g a1)), (2, .int a2), (3, .int a3)] [] σ
  refine r_iconst (pc := 0) (v := (0 : Int32)) dX0_wipeSpecks_0 rfl ?_
  refine r_istore (pc := 1) (ls1 := [(4, .int (0 : Int32)), (0, .ref (ad g 33)), (1, .ref (ad g a1)), (2, .int a2), (3, .int a3)]) dX0_wipeSpecks_1 (nle rfl) rfl ?_
  refine r_aload_n (pc := 3) (j := 1) dX0_wipeSpecks_3 rfl rfl ?_
  refine gf0_10 (pc := 4) tw_1_205 hw dX0_wipeSpecks_4 ?_
  refine r_iconst (pc := 7) (v := (0 : Int32)) dX0_wipeSpecks_7 rfl ?_
  refine x_flB (pc := 8) (σ := σ) (c0 := 43) (n := 1600) (v := (0 : Int32)) rfl tw_3_211 ⟨nle rfl, nle rfl⟩ (nle rfl) dX0_wipeSpecks_8 fun σ1 eσ1 => ?_
  replace hr := vthen_inv hr σ1 eσ1
  have hσ1 := wtFB eσ1 hw
  refine r_iconst (pc := 11) (v := (0 : Int32)) dX0_wipeSpecks_11 rfl ?_
  refine r_istore (pc := 12) (ls1 := [(5, .int (0 : Int32)), (4, .int (0 : Int32)), (0, .ref (ad g 33)), (1, .ref (ad g a1)), (2, .int a2), (3, .int a3)]) dX0_wipeSpecks_12 (nle rfl) rfl ?_
  refine r_pick (ls1 := [(0, .ref (ad g 33)), (1, .ref (ad g a1)), (2, .int a2), (3, .int a3), (4, .int (0 : Int32)), (5, .int (0 : Int32))]) [2, 3, 4, 5, 1, 0] rfl ?_
  refine sX0_wipeSpecks_L14 hs1    fuel (0 : Int32) (0 : Int32) σ1 hr hσ1

theorem kX0_wipeSpecks {g : GG} {σ : SS} {a1 : Nat} {a2 : Int32} {a3 : Int32} {v : Int32} {σ2 : SS} {M : MM} {F : State → Array Value → List Frame → State → Prop} {pc index : Nat} {ls : List (Nat × Value)} {rest : List Value} (hf : fX0_wipeSpecks σ a1 a2 a3 = some (v, σ2)) (hs1 : shp a1 = (6, 0)) (hl : Cond.methodLink M.1.cls index yX0_wipeSpecks ∈ lw_gt) (hR : mX0_wipeSpecks.2.2.2.2.frames + 1 ≤ M.2.2.2.2.frames ∧ 8 + (mX0_wipeSpecks.2.2.1 + 11) + mX0_wipeSpecks.2.2.2.2.locals ≤ M.2.2.2.2.locals) (hrest : (rest.map fun v => v.category).sum ≤ 8) (hd : decode M.2.1 pc = .ok (.invokevirtual index, 3)) (k : WT σ2 → RR g M F zF (pc + 3) ls (.int v :: rest) σ2) : RR g M F zF pc ls (.int a3 :: .int a2 :: .ref (ad g a1) :: .ref (ad g 33) :: rest) σ :=
  r_callV (z := zF) (N := mX0_wipeSpecks) (nn := 3) (o1 := some (.int v)) (sX0_wipeSpecks hf hs1) (rfl : shp 33 = (0, 0)) (by decide) (shp_le (rfl : shp 33 = (0, 0)) (nle rfl)) (ci := 0) rfl rfl tw_3_210 tw_1_6 hl tw_3_208 tw_3_209 ⟨by decide, by decide, rfl⟩ hR rfl hrest hd ⟨Nat.zero_le _, Nat.zero_le _⟩ rfl (fun h => k (h rfl))

theorem dX7_clean_0 : decode cX7_clean 0 = .ok (.aload_n 0, 1) := by decide +kernel
theorem dX7_clean_1 : decode cX7_clean 1 = .ok (.getfield 62, 3) := by decide +kernel
theorem dX7_clean_4 : decode cX7_clean 4 = .ok (.getfield 205, 3) := by decide +kernel
theorem dX7_clean_7 : decode cX7_clean 7 = .ok (.aload_n 0, 1) := by decide +kernel
theorem dX7_clean_8 : decode cX7_clean 8 = .ok (.getfield 18, 3) := by decide +kernel
theorem dX7_clean_11 : decode cX7_clean 11 = .ok (.aload_n 0, 1) := by decide +kernel
theorem dX7_clean_12 : decode cX7_clean 12 = .ok (.getfield 62, 3) := by decide +kernel
theorem dX7_clean_15 : decode cX7_clean 15 = .ok (.getfield 111, 3) := by decide +kernel
theorem dX7_clean_18 : decode cX7_clean 18 = .ok (.iconst 0, 1) := by decide +kernel
theorem dX7_clean_19 : decode cX7_clean 19 = .ok (.iaload, 1) := by decide +kernel
theorem dX7_clean_20 : decode cX7_clean 20 = .ok (.aload_n 0, 1) := by decide +kernel
theorem dX7_clean_21 : decode cX7_clean 21 = .ok (.getfield 62, 3) := by decide +kernel
theorem dX7_clean_24 : decode cX7_clean 24 = .ok (.getfield 111, 3) := by decide +kernel
theorem dX7_clean_27 : decode cX7_clean 27 = .ok (.iconst 1, 1) := by decide +kernel
theorem dX7_clean_28 : decode cX7_clean 28 = .ok (.iaload, 1) := by decide +kernel
theorem dX7_clean_29 : decode cX7_clean 29 = .ok (.invokevirtual 209, 3) := by decide +kernel
theorem dX7_clean_32 : decode cX7_clean 32 = .ok (.ireturn, 1) := by decide +kernel
def mX7_clean : MM := (yX7_clean, cX7_clean, 1, Option.some Jvm.ClassFile.FieldType.int, { frames := 3, cells := 0, slots := 0, locals := 80 })
def fX7_clean (σ : SS)  : Option (Int32 × SS) :=
  bnd (fX0_wipeSpecks σ (gR σ 1 2) (gI σ 32 0) (gI σ 32 1)) fun v1 σ4 =>
  some (v1, σ4)

set_option maxRecDepth 20000 in
theorem sX7_clean {g : GG} {σ : SS}  {r : Int32 × SS} (hr : fX7_clean σ = some r)  : Ct g mX7_clean [.ref (ad g 1)] NF σ (some (.int r.1)) NF r.2 := by
  refine Ct.of (by decide +kernel) (nle rfl) fun hw0 => ?_
  have hw := hw0 rfl
  unfold fX7_clean at hr
  change RR g mX7_clean (FinR g mX7_clean (some (.int r.1)) NF r.2) zF 0 [(0, .ref (ad g 1))] [] σ
  refine r_aload_n (pc := 0) (j := 0) dX7_clean_0 rfl rfl ?_
  refine gf7_12 (pc := 1) tw_2_121 hw dX7_clean_1 ?_
  refine gf3_1 (pc := 4) tw_2_25 hw dX7_clean_4 ?_
  refine r_aload_n (pc := 7) (j := 0) dX7_clean_7 rfl rfl ?_
  refine gf7_2 (pc := 8) tw_2_111 hw dX7_clean_8 ?_
  refine r_aload_n (pc := 11) (j := 0) dX7_clean_11 rfl rfl ?_
  refine gf7_12 (pc := 12) tw_2_121 hw dX7_clean_12 ?_
  refine gf3_0 (pc := 15) tw_2_23 hw dX7_clean_15 ?_
  refine r_iconst (pc := 18) (v := (0 : Int32)) dX7_clean_18 rfl ?_
  refine x_iald (pc := 19) (k := 0) rfl (by decide) rfl dX7_clean_19 ?_
  refine r_aload_n (pc := 20) (j := 0) dX7_clean_20 rfl rfl ?_
  refine gf7_12 (pc := 21) tw_2_121 hw dX7_clean_21 ?_
  refine gf3_0 (pc := 24) tw_2_23 hw dX7_clean_24 ?_
  refine r_iconst (pc := 27) (v := (1 : Int32)) dX7_clean_27 rfl ?_
  refine x_iald (pc := 28) (k := 1) rfl (by decide) rfl dX7_clean_28 ?_
  obtain ⟨v1, σ4, eσ4, hr⟩ := bnd_inv hr
  refine kX0_wipeSpecks (pc := 29) eσ4 (wt_sc hw).1 tw_3_207 ⟨nle rfl, nle rfl⟩ (nle rfl) dX7_clean_29 fun hσ4 => ?_
  exact l_osi hr (r_iret (pc := 32) (v := v1) rfl rfl ⟨Nat.le_refl _, Nat.le_refl _⟩ dX7_clean_32)

theorem kX7_clean {g : GG} {σ : SS}  {v : Int32} {σ2 : SS} {M : MM} {F : State → Array Value → List Frame → State → Prop} {pc index : Nat} {ls : List (Nat × Value)} {rest : List Value} (hf : fX7_clean σ = some (v, σ2))  (hl : Cond.methodLink M.1.cls index yX7_clean ∈ lw_gt) (hR : mX7_clean.2.2.2.2.frames + 1 ≤ M.2.2.2.2.frames ∧ 8 + (mX7_clean.2.2.1 + 11) + mX7_clean.2.2.2.2.locals ≤ M.2.2.2.2.locals) (hrest : (rest.map fun v => v.category).sum ≤ 8) (hd : decode M.2.1 pc = .ok (.invokevirtual index, 3)) (k : WT σ2 → RR g M F zF (pc + 3) ls (.int v :: rest) σ2) : RR g M F zF pc ls (.ref (ad g 1) :: rest) σ :=
  r_callV (z := zF) (N := mX7_clean) (nn := 0) (o1 := some (.int v)) (sX7_clean hf ) (rfl : shp 1 = (7, 0)) (by decide) (shp_le (rfl : shp 1 = (7, 0)) (nle rfl)) (ci := 7) rfl rfl tw_3_206 tw_1_1 hl tw_3_204 tw_3_205 ⟨by decide, by decide, rfl⟩ hR rfl hrest hd ⟨Nat.zero_le _, Nat.zero_le _⟩ rfl (fun h => k (h rfl))

theorem dX8_meets_0 : decode cX8_meets 0 = .ok (.aload_n 0, 1) := by decide +kernel
theorem dX8_meets_1 : decode cX8_meets 1 = .ok (.iload_n 1, 1) := by decide +kernel
theorem dX8_meets_2 : decode cX8_meets 2 = .ok (.iload_n 2, 1) := by decide +kernel
theorem dX8_meets_3 : decode cX8_meets 3 = .ok (.invokevirtual 281, 3) := by decide +kernel
theorem dX8_meets_6 : decode cX8_meets 6 = .ok (.ifCond .eq 42, 3) := by decide +kernel
theorem dX8_meets_9 : decode cX8_meets 9 = .ok (.aload_n 0, 1) := by decide +kernel
theorem dX8_meets_10 : decode cX8_meets 10 = .ok (.getfield 38, 3) := by decide +kernel
theorem dX8_meets_13 : decode cX8_meets 13 = .ok (.aload_n 0, 1) := by decide +kernel
theorem dX8_meets_14 : decode cX8_meets 14 = .ok (.getfield 132, 3) := by decide +kernel
theorem dX8_meets_17 : decode cX8_meets 17 = .ok (.iload_n 2, 1) := by decide +kernel
theorem dX8_meets_18 : decode cX8_meets 18 = .ok (.imul, 1) := by decide +kernel
theorem dX8_meets_19 : decode cX8_meets 19 = .ok (.iload_n 1, 1) := by decide +kernel
theorem dX8_meets_20 : decode cX8_meets 20 = .ok (.iadd, 1) := by decide +kernel
theorem dX8_meets_21 : decode cX8_meets 21 = .ok (.iaload, 1) := by decide +kernel
theorem dX8_meets_22 : decode cX8_meets 22 = .ok (.aload_n 0, 1) := by decide +kernel
theorem dX8_meets_23 : decode cX8_meets 23 = .ok (.getfield 53, 3) := by decide +kernel
theorem dX8_meets_26 : decode cX8_meets 26 = .ok (.iconst 0, 1) := by decide +kernel
theorem dX8_meets_27 : decode cX8_meets 27 = .ok (.iaload, 1) := by decide +kernel
theorem dX8_meets_28 : decode cX8_meets 28 = .ok (.if_icmp .lt 20, 3) := by decide +kernel
theorem dX8_meets_31 : decode cX8_meets 31 = .ok (.aload_n 0, 1) := by decide +kernel
theorem dX8_meets_32 : decode cX8_meets 32 = .ok (.getfield 65, 3) := by decide +kernel
theorem dX8_meets_35 : decode cX8_meets 35 = .ok (.aload_n 0, 1) := by decide +kernel
theorem dX8_meets_36 : decode cX8_meets 36 = .ok (.getfield 132, 3) := by decide +kernel
theorem dX8_meets_39 : decode cX8_meets 39 = .ok (.iload_n 2, 1) := by decide +kernel
theorem dX8_meets_40 : decode cX8_meets 40 = .ok (.imul, 1) := by decide +kernel
theorem dX8_meets_41 : decode cX8_meets 41 = .ok (.iload_n 1, 1) := by decide +kernel
theorem dX8_meets_42 : decode cX8_meets 42 = .ok (.iadd, 1) := by decide +kernel
theorem dX8_meets_43 : decode cX8_meets 43 = .ok (.iaload, 1) := by decide +kernel
theorem dX8_meets_44 : decode cX8_meets 44 = .ok (.iconst (-1), 1) := by decide +kernel
theorem dX8_meets_45 : decode cX8_meets 45 = .ok (.if_icmp .eq 4, 3) := by decide +kernel
theorem dX8_meets_48 : decode cX8_meets 48 = .ok (.return_, 1) := by decide +kernel
theorem dX8_meets_49 : decode cX8_meets 49 = .ok (.aload_n 0, 1) := by decide +kernel
theorem dX8_meets_50 : decode cX8_meets 50 = .ok (.getfield 65, 3) := by decide +kernel
theorem dX8_meets_53 : decode cX8_meets 53 = .ok (.aload_n 0, 1) := by decide +kernel
theorem dX8_meets_54 : decode cX8_meets 54 = .ok (.getfield 132, 3) := by decide +kernel
theorem dX8_meets_57 : decode cX8_meets 57 = .ok (.iload_n 2, 1) := by decide +kernel
theorem dX8_meets_58 : decode cX8_meets 58 = .ok (.imul, 1) := by decide +kernel
theorem dX8_meets_59 : decode cX8_meets 59 = .ok (.iload_n 1, 1) := by decide +kernel
theorem dX8_meets_60 : decode cX8_meets 60 = .ok (.iadd, 1) := by decide +kernel
theorem dX8_meets_61 : decode cX8_meets 61 = .ok (.aload_n 0, 1) := by decide +kernel
theorem dX8_meets_62 : decode cX8_meets 62 = .ok (.getfield 313, 3) := by decide +kernel
theorem dX8_meets_65 : decode cX8_meets 65 = .ok (.iastore, 1) := by decide +kernel
theorem dX8_meets_66 : decode cX8_meets 66 = .ok (.aload_n 0, 1) := by decide +kernel
theorem dX8_meets_67 : decode cX8_meets 67 = .ok (.getfield 68, 3) := by decide +kernel
theorem dX8_meets_70 : decode cX8_meets 70 = .ok (.aload_n 0, 1) := by decide +kernel
theorem dX8_meets_71 : decode cX8_meets 71 = .ok (.getfield 316, 3) := by decide +kernel
theorem dX8_meets_74 : decode cX8_meets 74 = .ok (.aload_n 0, 1) := by decide +kernel
theorem dX8_meets_75 : decode cX8_meets 75 = .ok (.getfield 132, 3) := by decide +kernel
theorem dX8_meets_78 : decode cX8_meets 78 = .ok (.iload_n 2, 1) := by decide +kernel
theorem dX8_meets_79 : decode cX8_meets 79 = .ok (.imul, 1) := by decide +kernel
theorem dX8_meets_80 : decode cX8_meets 80 = .ok (.iload_n 1, 1) := by decide +kernel
theorem dX8_meets_81 : decode cX8_meets 81 = .ok (.iadd, 1) := by decide +kernel
theorem dX8_meets_82 : decode cX8_meets 82 = .ok (.iastore, 1) := by decide +kernel
theorem dX8_meets_83 : decode cX8_meets 83 = .ok (.aload_n 0, 1) := by decide +kernel
theorem dX8_meets_84 : decode cX8_meets 84 = .ok (.aload_n 0, 1) := by decide +kernel
theorem dX8_meets_85 : decode cX8_meets 85 = .ok (.getfield 316, 3) := by decide +kernel
theorem dX8_meets_88 : decode cX8_meets 88 = .ok (.iconst 1, 1) := by decide +kernel
theorem dX8_meets_89 : decode cX8_meets 89 = .ok (.iadd, 1) := by decide +kernel
theorem dX8_meets_90 : decode cX8_meets 90 = .ok (.putfield 316, 3) := by decide +kernel
theorem dX8_meets_93 : decode cX8_meets 93 = .ok (.return_, 1) := by decide +kernel
def mX8_meets : MM := (yX8_meets, cX8_meets, 3, none, { frames := 2, cells := 0, slots := 0, locals := 44 })
def fX8_meets (σ : SS) (a1 : Int32) (a2 : Int32) : Option SS :=
  if (fX8_isDot σ a1 a2) = true then (
    grd (inb (((gI σ 73 29) * a2) + a1) 1600) <|
    if (gI σ 83 (Int32.toNatClampNeg (((gI σ 73 29) * a2) + a1))) < (gI σ 88 0) then (
      some σ
      ) else (
      if (gI σ 92 (Int32.toNatClampNeg (((gI σ 73 29) * a2) + a1))) = (-1 : Int32) then (
        vthen (sI σ 92 (Int32.toNatClampNeg (((gI σ 73 29) * a2) + a1)) (gI σ 73 43)) fun σ2 =>
        grd (inb (gI σ2 73 44) 1600) <|
        vthen (sI σ2 93 (Int32.toNatClampNeg (gI σ2 73 44)) (((gI σ2 73 29) * a2) + a1)) fun σ4 =>
        vthen (sI σ4 73 44 ((gI σ4 73 44) + (1 : Int32))) fun σ5 =>
        some σ5
        ) else (
        some σ
        )
      )
    ) else (
    some σ
    )

set_option maxRecDepth 20000 in
theorem sX8_meets {g : GG} {σ : SS} {a1 : Int32} {a2 : Int32} {r : SS} (hr : fX8_meets σ a1 a2 = some r)  : Ct g mX8_meets [.ref (ad g 73), .int a1, .int a2] NF σ none NF r := by
  refine Ct.of (by decide +kernel) (nle rfl) fun hw0 => ?_
  have hw := hw0 rfl
  unfold fX8_meets at hr
  change RR g mX8_meets (FinR g mX8_meets none NF r) zF 0 [(0, .ref (ad g 73)), (1, .int a1), (2, .int a2)] [] σ
  refine r_aload_n (pc := 0) (j := 0) dX8_meets_0 rfl rfl ?_
  refine r_iload_n (pc := 1) (j := 1) dX8_meets_1 rfl rfl ?_
  refine r_iload_n (pc := 2) (j := 2) dX8_meets_2 rfl rfl ?_
  refine kX8_isDot (pc := 3) (hf := rfl) tw_6_173 ⟨nle rfl, nle rfl⟩ (nle rfl) dX8_meets_3 ?_
  refine r_ifB_eq (pc := 6) (tgt := 48) dX8_meets_6 rfl (fun hc => ?_) (fun hc => ?_)
  · replace hr := ite_f hc hr
    exact l_ov hr (r_vret (pc := 48) rfl rfl ⟨Nat.le_refl _, Nat.le_refl _⟩ dX8_meets_48)
  replace hr := ite_t hc hr
  refine r_aload_n (pc := 9) (j := 0) dX8_meets_9 rfl rfl ?_
  refine gf8_21 (pc := 10) tw_5_115 hw dX8_meets_10 ?_
  refine r_aload_n (pc := 13) (j := 0) dX8_meets_13 rfl rfl ?_
  refine gf8_29 (pc := 14) tw_5_123 rfl dX8_meets_14 ?_
  refine r_iload_n (pc := 17) (j := 2) dX8_meets_17 rfl rfl ?_
  refine r_imul (pc := 18) dX8_meets_18 ?_
  refine r_iload_n (pc := 19) (j := 1) dX8_meets_19 rfl rfl ?_
  refine r_iadd (pc := 20) dX8_meets_20 ?_
  obtain ⟨h1, hr⟩ := grd_inv hr
  refine x_iald (pc := 21) (k := (Int32.toNatClampNeg (((gI σ 73 29) * a2) + a1))) rfl h1 rfl dX8_meets_21 ?_
  refine r_aload_n (pc := 22) (j := 0) dX8_meets_22 rfl rfl ?_
  refine gf8_26 (pc := 23) tw_5_120 hw dX8_meets_23 ?_
  refine r_iconst (pc := 26) (v := (0 : Int32)) dX8_meets_26 rfl ?_
  refine x_iald (pc := 27) (k := 0) rfl (by decide) rfl dX8_meets_27 ?_
  refine r_icmp_lt (pc := 28) (tgt := 48) dX8_meets_28 rfl (fun hc => ?_) (fun hc => ?_)
  · replace hr := ite_t hc hr
    exact l_ov hr (r_vret (pc := 48) rfl rfl ⟨Nat.le_refl _, Nat.le_refl _⟩ dX8_meets_48)
  replace hr := ite_f hc hr
  refine r_aload_n (pc := 31) (j := 0) dX8_meets_31 rfl rfl ?_
  refine gf8_33 (pc := 32) tw_5_127 hw dX8_meets_32 ?_
  refine r_aload_n (pc := 35) (j := 0) dX8_meets_35 rfl rfl ?_
  refine gf8_29 (pc := 36) tw_5_123 rfl dX8_meets_36 ?_
  refine r_iload_n (pc := 39) (j := 2) dX8_meets_39 rfl rfl ?_
  refine r_imul (pc := 40) dX8_meets_40 ?_
  refine r_iload_n (pc := 41) (j := 1) dX8_meets_41 rfl rfl ?_
  refine r_iadd (pc := 42) dX8_meets_42 ?_
  refine x_iald (pc := 43) (k := (Int32.toNatClampNeg (((gI σ 73 29) * a2) + a1))) rfl h1 rfl dX8_meets_43 ?_
  refine r_iconst (pc := 44) (v := (-1 : Int32)) dX8_meets_44 rfl ?_
  refine r_icmp_eq (pc := 45) (tgt := 49) dX8_meets_45 rfl (fun hc => ?_) (fun hc => ?_)
  · replace hr := ite_t hc hr
    refine r_aload_n (pc := 49) (j := 0) dX8_meets_49 rfl rfl ?_
    refine gf8_33 (pc := 50) tw_5_127 hw dX8_meets_50 ?_
    refine r_aload_n (pc := 53) (j := 0) dX8_meets_53 rfl rfl ?_
    refine gf8_29 (pc := 54) tw_5_123 rfl dX8_meets_54 ?_
    refine r_iload_n (pc := 57) (j := 2) dX8_meets_57 rfl rfl ?_
    refine r_imul (pc := 58) dX8_meets_58 ?_
    refine r_iload_n (pc := 59) (j := 1) dX8_meets_59 rfl rfl ?_
    refine r_iadd (pc := 60) dX8_meets_60 ?_
    refine r_aload_n (pc := 61) (j := 0) dX8_meets_61 rfl rfl ?_
    refine gf8_43 (pc := 62) tw_5_137 rfl dX8_meets_62 ?_
    refine x_iast (pc := 65) (j := (Int32.toNatClampNeg (((gI σ 73 29) * a2) + a1))) rfl h1 rfl dX8_meets_65 fun σ2 eσ2 => ?_
    replace hr := vthen_inv hr σ2 eσ2
    have hσ2 := wtI eσ2 hw
    refine r_aload_n (pc := 66) (j := 0) dX8_meets_66 rfl rfl ?_
    refine gf8_34 (pc := 67) tw_5_128 hσ2 dX8_meets_67 ?_
    refine r_aload_n (pc := 70) (j := 0) dX8_meets_70 rfl rfl ?_
    refine gf8_44 (pc := 71) tw_5_138 rfl dX8_meets_71 ?_
    refine r_aload_n (pc := 74) (j := 0) dX8_meets_74 rfl rfl ?_
    refine gf8_29 (pc := 75) tw_5_123 rfl dX8_meets_75 ?_
    refine r_iload_n (pc := 78) (j := 2) dX8_meets_78 rfl rfl ?_
    refine r_imul (pc := 79) dX8_meets_79 ?_
    refine r_iload_n (pc := 80) (j := 1) dX8_meets_80 rfl rfl ?_
    refine r_iadd (pc := 81) dX8_meets_81 ?_
    obtain ⟨h3, hr⟩ := grd_inv hr
    refine x_iast (pc := 82) (j := (Int32.toNatClampNeg (gI σ2 73 44))) rfl h3 rfl dX8_meets_82 fun σ4 eσ4 => ?_
    replace hr := vthen_inv hr σ4 eσ4
    have hσ4 := wtI eσ4 hσ2
    refine r_aload_n (pc := 83) (j := 0) dX8_meets_83 rfl rfl ?_
    refine r_aload_n (pc := 84) (j := 0) dX8_meets_84 rfl rfl ?_
    refine gf8_44 (pc := 85) tw_5_138 rfl dX8_meets_85 ?_
    refine r_iconst (pc := 88) (v := (1 : Int32)) dX8_meets_88 rfl ?_
    refine r_iadd (pc := 89) dX8_meets_89 ?_
    refine pf8_44 (pc := 90) tw_5_138 rfl dX8_meets_90 fun σ5 eσ5 => ?_
    replace hr := vthen_inv hr σ5 eσ5
    have hσ5 := wtI eσ5 hσ4
    exact l_ov hr (r_vret (pc := 93) rfl rfl ⟨Nat.le_refl _, Nat.le_refl _⟩ dX8_meets_93)
  replace hr := ite_f hc hr
  exact l_ov hr (r_vret (pc := 48) rfl rfl ⟨Nat.le_refl _, Nat.le_refl _⟩ dX8_meets_48)

theorem kX8_meets {g : GG} {σ : SS} {a1 : Int32} {a2 : Int32} {σ2 : SS} {M : MM} {F : State → Array Value → List Frame → State → Prop} {pc index : Nat} {ls : List (Nat × Value)} {rest : List Value} (hf : fX8_meets σ a1 a2 = some σ2)  (hl : Cond.methodLink M.1.cls index yX8_meets ∈ lw_gt) (hR : mX8_meets.2.2.2.2.frames + 1 ≤ M.2.2.2.2.frames ∧ 8 + (mX8_meets.2.2.1 + 11) + mX8_meets.2.2.2.2.locals ≤ M.2.2.2.2.locals) (hrest : (rest.map fun v => v.category).sum ≤ 8) (hd : decode M.2.1 pc = .ok (.invokevirtual index, 3)) (k : WT σ2 → RR g M F zF (pc + 3) ls rest σ2) : RR g M F zF pc ls (.int a2 :: .int a1 :: .ref (ad g 73) :: rest) σ :=
  r_callV (z := zF) (N := mX8_meets) (nn := 2) (o1 := none) (sX8_meets hf ) (rfl : shp 73 = (8, 0)) (by decide) (shp_le (rfl : shp 73 = (8, 0)) (nle rfl)) (ci := 8) rfl rfl tw_7_2 tw_1_10 hl tw_7_1 tp_60 ⟨by decide, by decide, rfl⟩ hR rfl hrest hd ⟨Nat.zero_le _, Nat.zero_le _⟩ rfl (fun h => k (h rfl))

theorem dX8_laysBlob_0 : decode cX8_laysBlob 0 = .ok (.aload_n 0, 1) := by decide +kernel
theorem dX8_laysBlob_1 : decode cX8_laysBlob 1 = .ok (.getfield 313, 3) := by decide +kernel
theorem dX8_laysBlob_4 : decode cX8_laysBlob 4 = .ok (.istore_n 2, 1) := by decide +kernel
theorem dX8_laysBlob_5 : decode cX8_laysBlob 5 = .ok (.aload_n 0, 1) := by decide +kernel
theorem dX8_laysBlob_6 : decode cX8_laysBlob 6 = .ok (.getfield 71, 3) := by decide +kernel
theorem dX8_laysBlob_9 : decode cX8_laysBlob 9 = .ok (.iload_n 2, 1) := by decide +kernel
theorem dX8_laysBlob_10 : decode cX8_laysBlob 10 = .ok (.iconst 0, 1) := by decide +kernel
theorem dX8_laysBlob_11 : decode cX8_laysBlob 11 = .ok (.iastore, 1) := by decide +kernel
theorem dX8_laysBlob_12 : decode cX8_laysBlob 12 = .ok (.aload_n 0, 1) := by decide +kernel
theorem dX8_laysBlob_13 : decode cX8_laysBlob 13 = .ok (.getfield 74, 3) := by decide +kernel
theorem dX8_laysBlob_16 : decode cX8_laysBlob 16 = .ok (.iload_n 2, 1) := by decide +kernel
theorem dX8_laysBlob_17 : decode cX8_laysBlob 17 = .ok (.iconst 0, 1) := by decide +kernel
theorem dX8_laysBlob_18 : decode cX8_laysBlob 18 = .ok (.iastore, 1) := by decide +kernel
theorem dX8_laysBlob_19 : decode cX8_laysBlob 19 = .ok (.aload_n 0, 1) := by decide +kernel
theorem dX8_laysBlob_20 : decode cX8_laysBlob 20 = .ok (.getfield 77, 3) := by decide +kernel
theorem dX8_laysBlob_23 : decode cX8_laysBlob 23 = .ok (.iload_n 2, 1) := by decide +kernel
theorem dX8_laysBlob_24 : decode cX8_laysBlob 24 = .ok (.iconst 0, 1) := by decide +kernel
theorem dX8_laysBlob_25 : decode cX8_laysBlob 25 = .ok (.iastore, 1) := by decide +kernel
theorem dX8_laysBlob_26 : decode cX8_laysBlob 26 = .ok (.aload_n 0, 1) := by decide +kernel
theorem dX8_laysBlob_27 : decode cX8_laysBlob 27 = .ok (.getfield 80, 3) := by decide +kernel
theorem dX8_laysBlob_30 : decode cX8_laysBlob 30 = .ok (.iload_n 2, 1) := by decide +kernel
theorem dX8_laysBlob_31 : decode cX8_laysBlob 31 = .ok (.iload_n 1, 1) := by decide +kernel
theorem dX8_laysBlob_32 : decode cX8_laysBlob 32 = .ok (.iastore, 1) := by decide +kernel
theorem dX8_laysBlob_33 : decode cX8_laysBlob 33 = .ok (.aload_n 0, 1) := by decide +kernel
theorem dX8_laysBlob_34 : decode cX8_laysBlob 34 = .ok (.getfield 83, 3) := by decide +kernel
theorem dX8_laysBlob_37 : decode cX8_laysBlob 37 = .ok (.iload_n 2, 1) := by decide +kernel
theorem dX8_laysBlob_38 : decode cX8_laysBlob 38 = .ok (.bipush 40, 2) := by decide +kernel
theorem dX8_laysBlob_40 : decode cX8_laysBlob 40 = .ok (.iastore, 1) := by decide +kernel
theorem dX8_laysBlob_41 : decode cX8_laysBlob 41 = .ok (.aload_n 0, 1) := by decide +kernel
theorem dX8_laysBlob_42 : decode cX8_laysBlob 42 = .ok (.getfield 86, 3) := by decide +kernel
theorem dX8_laysBlob_45 : decode cX8_laysBlob 45 = .ok (.iload_n 2, 1) := by decide +kernel
theorem dX8_laysBlob_46 : decode cX8_laysBlob 46 = .ok (.iconst 0, 1) := by decide +kernel
theorem dX8_laysBlob_47 : decode cX8_laysBlob 47 = .ok (.iastore, 1) := by decide +kernel
theorem dX8_laysBlob_48 : decode cX8_laysBlob 48 = .ok (.aload_n 0, 1) := by decide +kernel
theorem dX8_laysBlob_49 : decode cX8_laysBlob 49 = .ok (.getfield 89, 3) := by decide +kernel
theorem dX8_laysBlob_52 : decode cX8_laysBlob 52 = .ok (.iload_n 2, 1) := by decide +kernel
theorem dX8_laysBlob_53 : decode cX8_laysBlob 53 = .ok (.bipush 40, 2) := by decide +kernel
theorem dX8_laysBlob_55 : decode cX8_laysBlob 55 = .ok (.iastore, 1) := by decide +kernel
theorem dX8_laysBlob_56 : decode cX8_laysBlob 56 = .ok (.aload_n 0, 1) := by decide +kernel
theorem dX8_laysBlob_57 : decode cX8_laysBlob 57 = .ok (.getfield 92, 3) := by decide +kernel
theorem dX8_laysBlob_60 : decode cX8_laysBlob 60 = .ok (.iload_n 2, 1) := by decide +kernel
theorem dX8_laysBlob_61 : decode cX8_laysBlob 61 = .ok (.iconst 0, 1) := by decide +kernel
theorem dX8_laysBlob_62 : decode cX8_laysBlob 62 = .ok (.iastore, 1) := by decide +kernel
theorem dX8_laysBlob_63 : decode cX8_laysBlob 63 = .ok (.aload_n 0, 1) := by decide +kernel
theorem dX8_laysBlob_64 : decode cX8_laysBlob 64 = .ok (.iconst 0, 1) := by decide +kernel
theorem dX8_laysBlob_65 : decode cX8_laysBlob 65 = .ok (.putfield 316, 3) := by decide +kernel
theorem dX8_laysBlob_68 : decode cX8_laysBlob 68 = .ok (.aload_n 0, 1) := by decide +kernel
theorem dX8_laysBlob_69 : decode cX8_laysBlob 69 = .ok (.iload_n 1, 1) := by decide +kernel
theorem dX8_laysBlob_70 : decode cX8_laysBlob 70 = .ok (.aload_n 0, 1) := by decide +kernel
theorem dX8_laysBlob_71 : decode cX8_laysBlob 71 = .ok (.getfield 132, 3) := by decide +kernel
theorem dX8_laysBlob_74 : decode cX8_laysBlob 74 = .ok (.irem, 1) := by decide +kernel
theorem dX8_laysBlob_75 : decode cX8_laysBlob 75 = .ok (.iload_n 1, 1) := by decide +kernel
theorem dX8_laysBlob_76 : decode cX8_laysBlob 76 = .ok (.aload_n 0, 1) := by decide +kernel
theorem dX8_laysBlob_77 : decode cX8_laysBlob 77 = .ok (.getfield 132, 3) := by decide +kernel
theorem dX8_laysBlob_80 : decode cX8_laysBlob 80 = .ok (.idiv, 1) := by decide +kernel
theorem dX8_laysBlob_81 : decode cX8_laysBlob 81 = .ok (.invokevirtual 319, 3) := by decide +kernel
theorem dX8_laysBlob_84 : decode cX8_laysBlob 84 = .ok (.iconst 0, 1) := by decide +kernel
theorem dX8_laysBlob_85 : decode cX8_laysBlob 85 = .ok (.istore_n 3, 1) := by decide +kernel
theorem dX8_laysBlob_86 : decode cX8_laysBlob 86 = .ok (.iload_n 3, 1) := by decide +kernel
theorem dX8_laysBlob_87 : decode cX8_laysBlob 87 = .ok (.aload_n 0, 1) := by decide +kernel
theorem dX8_laysBlob_88 : decode cX8_laysBlob 88 = .ok (.getfield 316, 3) := by decide +kernel
theorem dX8_laysBlob_91 : decode cX8_laysBlob 91 = .ok (.if_icmp .ge 217, 3) := by decide +kernel
theorem dX8_laysBlob_94 : decode cX8_laysBlob 94 = .ok (.aload_n 0, 1) := by decide +kernel
theorem dX8_laysBlob_95 : decode cX8_laysBlob 95 = .ok (.getfield 68, 3) := by decide +kernel
theorem dX8_laysBlob_98 : decode cX8_laysBlob 98 = .ok (.iload_n 3, 1) := by decide +kernel
theorem dX8_laysBlob_99 : decode cX8_laysBlob 99 = .ok (.iaload, 1) := by decide +kernel
theorem dX8_laysBlob_100 : decode cX8_laysBlob 100 = .ok (.aload_n 0, 1) := by decide +kernel
theorem dX8_laysBlob_101 : decode cX8_laysBlob 101 = .ok (.getfield 132, 3) := by decide +kernel
theorem dX8_laysBlob_104 : decode cX8_laysBlob 104 = .ok (.irem, 1) := by decide +kernel
theorem dX8_laysBlob_105 : decode cX8_laysBlob 105 = .ok (.istore 4, 2) := by decide +kernel
theorem dX8_laysBlob_107 : decode cX8_laysBlob 107 = .ok (.aload_n 0, 1) := by decide +kernel
theorem dX8_laysBlob_108 : decode cX8_laysBlob 108 = .ok (.getfield 68, 3) := by decide +kernel
theorem dX8_laysBlob_111 : decode cX8_laysBlob 111 = .ok (.iload_n 3, 1) := by decide +kernel
theorem dX8_laysBlob_112 : decode cX8_laysBlob 112 = .ok (.iaload, 1) := by decide +kernel
theorem dX8_laysBlob_113 : decode cX8_laysBlob 113 = .ok (.aload_n 0, 1) := by decide +kernel
theorem dX8_laysBlob_114 : decode cX8_laysBlob 114 = .ok (.getfield 132, 3) := by decide +kernel
theorem dX8_laysBlob_117 : decode cX8_laysBlob 117 = .ok (.idiv, 1) := by decide +kernel
theorem dX8_laysBlob_118 : decode cX8_laysBlob 118 = .ok (.istore 5, 2) := by decide +kernel
theorem dX8_laysBlob_120 : decode cX8_laysBlob 120 = .ok (.aload_n 0, 1) := by decide +kernel
theorem dX8_laysBlob_121 : decode cX8_laysBlob 121 = .ok (.getfield 74, 3) := by decide +kernel
theorem dX8_laysBlob_124 : decode cX8_laysBlob 124 = .ok (.iload_n 2, 1) := by decide +kernel
theorem dX8_laysBlob_125 : decode cX8_laysBlob 125 = .ok (.aload_n 0, 1) := by decide +kernel
theorem dX8_laysBlob_126 : decode cX8_laysBlob 126 = .ok (.getfield 74, 3) := by decide +kernel
theorem dX8_laysBlob_129 : decode cX8_laysBlob 129 = .ok (.iload_n 2, 1) := by decide +kernel
theorem dX8_laysBlob_130 : decode cX8_laysBlob 130 = .ok (.iaload, 1) := by decide +kernel
theorem dX8_laysBlob_131 : decode cX8_laysBlob 131 = .ok (.iload 4, 2) := by decide +kernel
theorem dX8_laysBlob_133 : decode cX8_laysBlob 133 = .ok (.iadd, 1) := by decide +kernel
theorem dX8_laysBlob_134 : decode cX8_laysBlob 134 = .ok (.iastore, 1) := by decide +kernel
theorem dX8_laysBlob_135 : decode cX8_laysBlob 135 = .ok (.aload_n 0, 1) := by decide +kernel
theorem dX8_laysBlob_136 : decode cX8_laysBlob 136 = .ok (.getfield 77, 3) := by decide +kernel
theorem dX8_laysBlob_139 : decode cX8_laysBlob 139 = .ok (.iload_n 2, 1) := by decide +kernel
theorem dX8_laysBlob_140 : decode cX8_laysBlob 140 = .ok (.aload_n 0, 1) := by decide +kernel
theorem dX8_laysBlob_141 : decode cX8_laysBlob 141 = .ok (.getfield 77, 3) := by decide +kernel
theorem dX8_laysBlob_144 : decode cX8_laysBlob 144 = .ok (.iload_n 2, 1) := by decide +kernel
theorem dX8_laysBlob_145 : decode cX8_laysBlob 145 = .ok (.iaload, 1) := by decide +kernel
theorem dX8_laysBlob_146 : decode cX8_laysBlob 146 = .ok (.iload 5, 2) := by decide +kernel
theorem dX8_laysBlob_148 : decode cX8_laysBlob 148 = .ok (.iadd, 1) := by decide +kernel
theorem dX8_laysBlob_149 : decode cX8_laysBlob 149 = .ok (.iastore, 1) := by decide +kernel
theorem dX8_laysBlob_150 : decode cX8_laysBlob 150 = .ok (.aload_n 0, 1) := by decide +kernel
theorem dX8_laysBlob_151 : decode cX8_laysBlob 151 = .ok (.getfield 83, 3) := by decide +kernel
theorem dX8_laysBlob_154 : decode cX8_laysBlob 154 = .ok (.iload_n 2, 1) := by decide +kernel
theorem dX8_laysBlob_155 : decode cX8_laysBlob 155 = .ok (.iload 4, 2) := by decide +kernel
theorem dX8_laysBlob_157 : decode cX8_laysBlob 157 = .ok (.aload_n 0, 1) := by decide +kernel
theorem dX8_laysBlob_158 : decode cX8_laysBlob 158 = .ok (.getfield 83, 3) := by decide +kernel
theorem dX8_laysBlob_161 : decode cX8_laysBlob 161 = .ok (.iload_n 2, 1) := by decide +kernel
theorem dX8_laysBlob_162 : decode cX8_laysBlob 162 = .ok (.iaload, 1) := by decide +kernel
theorem dX8_laysBlob_163 : decode cX8_laysBlob 163 = .ok (.if_icmp .ge 8, 3) := by decide +kernel
theorem dX8_laysBlob_166 : decode cX8_laysBlob 166 = .ok (.iload 4, 2) := by decide +kernel
theorem dX8_laysBlob_168 : decode cX8_laysBlob 168 = .ok (.goto 9, 3) := by decide +kernel
theorem dX8_laysBlob_171 : decode cX8_laysBlob 171 = .ok (.aload_n 0, 1) := by decide +kernel
theorem dX8_laysBlob_172 : decode cX8_laysBlob 172 = .ok (.getfield 83, 3) := by decide +kernel
theorem dX8_laysBlob_175 : decode cX8_laysBlob 175 = .ok (.iload_n 2, 1) := by decide +kernel
theorem dX8_laysBlob_176 : decode cX8_laysBlob 176 = .ok (.iaload, 1) := by decide +kernel
theorem dX8_laysBlob_177 : decode cX8_laysBlob 177 = .ok (.iastore, 1) := by decide +kernel
theorem dX8_laysBlob_178 : decode cX8_laysBlob 178 = .ok (.aload_n 0, 1) := by decide +kernel
theorem dX8_laysBlob_179 : decode cX8_laysBlob 179 = .ok (.getfield 86, 3) := by decide +kernel
theorem dX8_laysBlob_182 : decode cX8_laysBlob 182 = .ok (.iload_n 2, 1) := by decide +kernel
theorem dX8_laysBlob_183 : decode cX8_laysBlob 183 = .ok (.iload 4, 2) := by decide +kernel
theorem dX8_laysBlob_185 : decode cX8_laysBlob 185 = .ok (.aload_n 0, 1) := by decide +kernel
theorem dX8_laysBlob_186 : decode cX8_laysBlob 186 = .ok (.getfield 86, 3) := by decide +kernel
theorem dX8_laysBlob_189 : decode cX8_laysBlob 189 = .ok (.iload_n 2, 1) := by decide +kernel
theorem dX8_laysBlob_190 : decode cX8_laysBlob 190 = .ok (.iaload, 1) := by decide +kernel
theorem dX8_laysBlob_191 : decode cX8_laysBlob 191 = .ok (.if_icmp .le 8, 3) := by decide +kernel
theorem dX8_laysBlob_194 : decode cX8_laysBlob 194 = .ok (.iload 4, 2) := by decide +kernel
theorem dX8_laysBlob_196 : decode cX8_laysBlob 196 = .ok (.goto 9, 3) := by decide +kernel
theorem dX8_laysBlob_199 : decode cX8_laysBlob 199 = .ok (.aload_n 0, 1) := by decide +kernel
theorem dX8_laysBlob_200 : decode cX8_laysBlob 200 = .ok (.getfield 86, 3) := by decide +kernel
theorem dX8_laysBlob_203 : decode cX8_laysBlob 203 = .ok (.iload_n 2, 1) := by decide +kernel
theorem dX8_laysBlob_204 : decode cX8_laysBlob 204 = .ok (.iaload, 1) := by decide +kernel
theorem dX8_laysBlob_205 : decode cX8_laysBlob 205 = .ok (.iastore, 1) := by decide +kernel
theorem dX8_laysBlob_206 : decode cX8_laysBlob 206 = .ok (.aload_n 0, 1) := by decide +kernel
theorem dX8_laysBlob_207 : decode cX8_laysBlob 207 = .ok (.getfield 89, 3) := by decide +kernel
theorem dX8_laysBlob_210 : decode cX8_laysBlob 210 = .ok (.iload_n 2, 1) := by decide +kernel
theorem dX8_laysBlob_211 : decode cX8_laysBlob 211 = .ok (.iload 5, 2) := by decide +kernel
theorem dX8_laysBlob_213 : decode cX8_laysBlob 213 = .ok (.aload_n 0, 1) := by decide +kernel
theorem dX8_laysBlob_214 : decode cX8_laysBlob 214 = .ok (.getfield 89, 3) := by decide +kernel
theorem dX8_laysBlob_217 : decode cX8_laysBlob 217 = .ok (.iload_n 2, 1) := by decide +kernel
theorem dX8_laysBlob_218 : decode cX8_laysBlob 218 = .ok (.iaload, 1) := by decide +kernel
theorem dX8_laysBlob_219 : decode cX8_laysBlob 219 = .ok (.if_icmp .ge 8, 3) := by decide +kernel
theorem dX8_laysBlob_222 : decode cX8_laysBlob 222 = .ok (.iload 5, 2) := by decide +kernel
theorem dX8_laysBlob_224 : decode cX8_laysBlob 224 = .ok (.goto 9, 3) := by decide +kernel
theorem dX8_laysBlob_227 : decode cX8_laysBlob 227 = .ok (.aload_n 0, 1) := by decide +kernel
theorem dX8_laysBlob_228 : decode cX8_laysBlob 228 = .ok (.getfield 89, 3) := by decide +kernel
theorem dX8_laysBlob_231 : decode cX8_laysBlob 231 = .ok (.iload_n 2, 1) := by decide +kernel
theorem dX8_laysBlob_232 : decode cX8_laysBlob 232 = .ok (.iaload, 1) := by decide +kernel
theorem dX8_laysBlob_233 : decode cX8_laysBlob 233 = .ok (.iastore, 1) := by decide +kernel
theorem dX8_laysBlob_234 : decode cX8_laysBlob 234 = .ok (.aload_n 0, 1) := by decide +kernel
theorem dX8_laysBlob_235 : decode cX8_laysBlob 235 = .ok (.getfield 92, 3) := by decide +kernel
theorem dX8_laysBlob_238 : decode cX8_laysBlob 238 = .ok (.iload_n 2, 1) := by decide +kernel
theorem dX8_laysBlob_239 : decode cX8_laysBlob 239 = .ok (.iload 5, 2) := by decide +kernel
theorem dX8_laysBlob_241 : decode cX8_laysBlob 241 = .ok (.aload_n 0, 1) := by decide +kernel
theorem dX8_laysBlob_242 : decode cX8_laysBlob 242 = .ok (.getfield 92, 3) := by decide +kernel
theorem dX8_laysBlob_245 : decode cX8_laysBlob 245 = .ok (.iload_n 2, 1) := by decide +kernel
theorem dX8_laysBlob_246 : decode cX8_laysBlob 246 = .ok (.iaload, 1) := by decide +kernel
theorem dX8_laysBlob_247 : decode cX8_laysBlob 247 = .ok (.if_icmp .le 8, 3) := by decide +kernel
theorem dX8_laysBlob_250 : decode cX8_laysBlob 250 = .ok (.iload 5, 2) := by decide +kernel
theorem dX8_laysBlob_252 : decode cX8_laysBlob 252 = .ok (.goto 9, 3) := by decide +kernel
theorem dX8_laysBlob_255 : decode cX8_laysBlob 255 = .ok (.aload_n 0, 1) := by decide +kernel
theorem dX8_laysBlob_256 : decode cX8_laysBlob 256 = .ok (.getfield 92, 3) := by decide +kernel
theorem dX8_laysBlob_259 : decode cX8_laysBlob 259 = .ok (.iload_n 2, 1) := by decide +kernel
theorem dX8_laysBlob_260 : decode cX8_laysBlob 260 = .ok (.iaload, 1) := by decide +kernel
theorem dX8_laysBlob_261 : decode cX8_laysBlob 261 = .ok (.iastore, 1) := by decide +kernel
theorem dX8_laysBlob_262 : decode cX8_laysBlob 262 = .ok (.aload_n 0, 1) := by decide +kernel
theorem dX8_laysBlob_263 : decode cX8_laysBlob 263 = .ok (.iload 4, 2) := by decide +kernel
theorem dX8_laysBlob_265 : decode cX8_laysBlob 265 = .ok (.iconst 1, 1) := by decide +kernel
theorem dX8_laysBlob_266 : decode cX8_laysBlob 266 = .ok (.iadd, 1) := by decide +kernel
theorem dX8_laysBlob_267 : decode cX8_laysBlob 267 = .ok (.iload 5, 2) := by decide +kernel
theorem dX8_laysBlob_269 : decode cX8_laysBlob 269 = .ok (.invokevirtual 319, 3) := by decide +kernel
theorem dX8_laysBlob_272 : decode cX8_laysBlob 272 = .ok (.aload_n 0, 1) := by decide +kernel
theorem dX8_laysBlob_273 : decode cX8_laysBlob 273 = .ok (.iload 4, 2) := by decide +kernel
theorem dX8_laysBlob_275 : decode cX8_laysBlob 275 = .ok (.iconst 1, 1) := by decide +kernel
theorem dX8_laysBlob_276 : decode cX8_laysBlob 276 = .ok (.isub, 1) := by decide +kernel
theorem dX8_laysBlob_277 : decode cX8_laysBlob 277 = .ok (.iload 5, 2) := by decide +kernel
theorem dX8_laysBlob_279 : decode cX8_laysBlob 279 = .ok (.invokevirtual 319, 3) := by decide +kernel
theorem dX8_laysBlob_282 : decode cX8_laysBlob 282 = .ok (.aload_n 0, 1) := by decide +kernel
theorem dX8_laysBlob_283 : decode cX8_laysBlob 283 = .ok (.iload 4, 2) := by decide +kernel
theorem dX8_laysBlob_285 : decode cX8_laysBlob 285 = .ok (.iload 5, 2) := by decide +kernel
theorem dX8_laysBlob_287 : decode cX8_laysBlob 287 = .ok (.iconst 1, 1) := by decide +kernel
theorem dX8_laysBlob_288 : decode cX8_laysBlob 288 = .ok (.iadd, 1) := by decide +kernel
theorem dX8_laysBlob_289 : decode cX8_laysBlob 289 = .ok (.invokevirtual 319, 3) := by decide +kernel
theorem dX8_laysBlob_292 : decode cX8_laysBlob 292 = .ok (.aload_n 0, 1) := by decide +kernel
theorem dX8_laysBlob_293 : decode cX8_laysBlob 293 = .ok (.iload 4, 2) := by decide +kernel
theorem dX8_laysBlob_295 : decode cX8_laysBlob 295 = .ok (.iload 5, 2) := by decide +kernel
theorem dX8_laysBlob_297 : decode cX8_laysBlob 297 = .ok (.iconst 1, 1) := by decide +kernel
theorem dX8_laysBlob_298 : decode cX8_laysBlob 298 = .ok (.isub, 1) := by decide +kernel
theorem dX8_laysBlob_299 : decode cX8_laysBlob 299 = .ok (.invokevirtual 319, 3) := by decide +kernel
theorem dX8_laysBlob_302 : decode cX8_laysBlob 302 = .ok (.iinc 3 1, 3) := by decide +kernel
theorem dX8_laysBlob_305 : decode cX8_laysBlob 305 = .ok (.goto (-219), 3) := by decide +kernel
theorem dX8_laysBlob_308 : decode cX8_laysBlob 308 = .ok (.aload_n 0, 1) := by decide +kernel
theorem dX8_laysBlob_309 : decode cX8_laysBlob 309 = .ok (.getfield 71, 3) := by decide +kernel
theorem dX8_laysBlob_312 : decode cX8_laysBlob 312 = .ok (.iload_n 2, 1) := by decide +kernel
theorem dX8_laysBlob_313 : decode cX8_laysBlob 313 = .ok (.aload_n 0, 1) := by decide +kernel
theorem dX8_laysBlob_314 : decode cX8_laysBlob 314 = .ok (.getfield 316, 3) := by decide +kernel
theorem dX8_laysBlob_317 : decode cX8_laysBlob 317 = .ok (.iastore, 1) := by decide +kernel
theorem dX8_laysBlob_318 : decode cX8_laysBlob 318 = .ok (.return_, 1) := by decide +kernel
def mX8_laysBlob : MM := (yX8_laysBlob, cX8_laysBlob, 6, none, { frames := 3, cells := 0, slots := 0, locals := 66 })
def X8_laysBlob_L86 (u2_ : Int32)  : Nat → Int32 → SS → Option SS :=
  lp (fun _ _ => none) fun rec v3_ σ_ =>
    if (gI σ_ 73 44) ≤ v3_ then (
      grd (inb u2_ 801) <|
      vthen (sI σ_ 94 (Int32.toNatClampNeg u2_) (gI σ_ 73 44)) fun σ15 =>
      some σ15
      ) else (
      grd (inb v3_ 1600) <|
      grd (nz (gI σ_ 73 29)) <|
      vthen (irm (gI σ_ 93 (Int32.toNatClampNeg v3_)) (gI σ_ 73 29)) fun v18 =>
      vthen ((gI σ_ 93 (Int32.toNatClampNeg v3_)) / (gI σ_ 73 29)) fun v19 =>
      grd (inb u2_ 801) <|
      vthen (sI σ_ 95 (Int32.toNatClampNeg u2_) ((gI σ_ 95 (Int32.toNatClampNeg u2_)) + v18)) fun σ21 =>
      vthen (sI σ21 96 (Int32.toNatClampNeg u2_) ((gI σ21 96 (Int32.toNatClampNeg u2_)) + v19)) fun σ22 =>
      vthen (fun (s23 : Int32) =>
        vthen (sI σ22 98 (Int32.toNatClampNeg u2_) s23) fun σ24 =>
        vthen (fun (s25 : Int32) =>
          vthen (sI σ24 99 (Int32.toNatClampNeg u2_) s25) fun σ26 =>
          vthen (fun (s27 : Int32) =>
            vthen (sI σ26 100 (Int32.toNatClampNeg u2_) s27) fun σ28 =>
            vthen (fun (s29 : Int32) =>
              vthen (sI σ28 101 (Int32.toNatClampNeg u2_) s29) fun σ30 =>
              bnd1 (fX8_meets σ30 (v18 + (1 : Int32)) v19) fun σ31 =>
              bnd1 (fX8_meets σ31 (v18 - (1 : Int32)) v19) fun σ32 =>
              bnd1 (fX8_meets σ32 v18 (v19 + (1 : Int32))) fun σ33 =>
              bnd1 (fX8_meets σ33 v18 (v19 - (1 : Int32))) fun σ34 =>
              rec (v3_ + (1 : Int32)) σ34
              ) fun j261 =>
            if v19 ≤ (gI σ28 101 (Int32.toNatClampNeg u2_)) then (
              j261 (gI σ28 101 (Int32.toNatClampNeg u2_))
              ) else (
              j261 v19
              )
            ) fun j233 =>
          if (gI σ26 100 (Int32.toNatClampNeg u2_)) ≤ v19 then (
            j233 (gI σ26 100 (Int32.toNatClampNeg u2_))
            ) else (
            j233 v19
            )
          ) fun j205 =>
        if v18 ≤ (gI σ24 99 (Int32.toNatClampNeg u2_)) then (
          j205 (gI σ24 99 (Int32.toNatClampNeg u2_))
          ) else (
          j205 v18
          )
        ) fun j177 =>
      if (gI σ22 98 (Int32.toNatClampNeg u2_)) ≤ v18 then (
        j177 (gI σ22 98 (Int32.toNatClampNeg u2_))
        ) else (
        j177 v18
        )
      )

def fX8_laysBlob (σ : SS) (a1 : Int32) : Option SS :=
  vthen (gI σ 73 43) fun v1 =>
  grd (inb v1 801) <|
  vthen (sI σ 94 (Int32.toNatClampNeg v1) (0 : Int32)) fun σ3 =>
  vthen (sI σ3 95 (Int32.toNatClampNeg v1) (0 : Int32)) fun σ4 =>
  vthen (sI σ4 96 (Int32.toNatClampNeg v1) (0 : Int32)) fun σ5 =>
  vthen (sI σ5 97 (Int32.toNatClampNeg v1) a1) fun σ6 =>
  vthen (sI σ6 98 (Int32.toNatClampNeg v1) (40 : Int32)) fun σ7 =>
  vthen (sI σ7 99 (Int32.toNatClampNeg v1) (0 : Int32)) fun σ8 =>
  vthen (sI σ8 100 (Int32.toNatClampNeg v1) (40 : Int32)) fun σ9 =>
  vthen (sI σ9 101 (Int32.toNatClampNeg v1) (0 : Int32)) fun σ10 =>
  vthen (sI σ10 73 44 (0 : Int32)) fun σ11 =>
  grd (nz (gI σ11 73 29)) <|
  bnd1 (fX8_meets σ11 (irm a1 (gI σ11 73 29)) (a1 / (gI σ11 73 29))) fun σ13 =>
  X8_laysBlob_L86 v1
  fuel (0 : Int32) σ13

set_option maxRecDepth 20000 in
theorem sX8_laysBlob_L86 {g : GG} {r : SS} {u2_ : Int32}  
    (n : Nat) : ∀ (v3_ : Int32) (σ_ : SS), X8_laysBlob_L86 u2_ n v3_ σ_ = some r → WT σ_ → RR g mX8_laysBlob (FinR g mX8_laysBlob none NF r) zF 86 [(0, .ref (ad g 73)), (2, .int u2_), (3, .int v3_)] [] σ_ := by
  unfold X8_laysBlob_L86
  refine lp_ind (P := fun (rec : Int32 → SS → Option SS) => ∀ (v3_ : Int32) (σ_ : SS), rec v3_ σ_ = some r → WT σ_ → RR g mX8_laysBlob (FinR g mX8_laysBlob none NF r) zF 86 [(0, .ref (ad g 73)), (2, .int u2_), (3, .int v3_)] [] σ_) ?_ ?_ n
  · intro v3_ σ_ hr; cases hr
  intro rec ih v3_ σ_ hr hw_
  refine r_iload_n (pc := 86) (j := 2) dX8_laysBlob_86 rfl rfl ?_
  refine r_aload_n (pc := 87) (j := 0) dX8_laysBlob_87 rfl rfl ?_
  refine gf8_44 (pc := 88) tw_5_138 rfl dX8_laysBlob_88 ?_
  refine r_icmp_ge (pc := 91) (tgt := 308) dX8_laysBlob_91 rfl (fun hc => ?_) (fun hc => ?_)
  · replace hr := ite_t hc hr
    refine r_aload_n (pc := 308) (j := 0) dX8_laysBlob_308 rfl rfl ?_
    refine gf8_35 (pc := 309) tw_5_129 hw_ dX8_laysBlob_309 ?_
    refine r_iload_n (pc := 312) (j := 1) dX8_laysBlob_312 rfl rfl ?_
    refine r_aload_n (pc := 313) (j := 0) dX8_laysBlob_313 rfl rfl ?_
    refine gf8_44 (pc := 314) tw_5_138 rfl dX8_laysBlob_314 ?_
    obtain ⟨h14, hr⟩ := grd_inv hr
    refine x_iast (pc := 317) (j := (Int32.toNatClampNeg u2_)) rfl h14 rfl dX8_laysBlob_317 fun σ15 eσ15 => ?_
    replace hr := vthen_inv hr σ15 eσ15
    have hσ15 := wtI eσ15 hw_
    exact l_ov hr (r_vret (pc := 318) rfl rfl ⟨Nat.le_refl _, Nat.le_refl _⟩ dX8_laysBlob_318)
  replace hr := ite_f hc hr
  refine r_aload_n (pc := 94) (j := 0) dX8_laysBlob_94 rfl rfl ?_
  refine gf8_34 (pc := 95) tw_5_128 hw_ dX8_laysBlob_95 ?_
  refine r_iload_n (pc := 98) (j := 2) dX8_laysBlob_98 rfl rfl ?_
  obtain ⟨h16, hr⟩ := grd_inv hr
  refine x_iald (pc := 99) (k := (Int32.toNatClampNeg v3_)) rfl h16 rfl dX8_laysBlob_99 ?_
  refine r_aload_n (pc := 100) (j := 0) dX8_laysBlob_100 rfl rfl ?_
  refine gf8_29 (pc := 101) tw_5_123 rfl dX8_laysBlob_101 ?_
  obtain ⟨h17, hr⟩ := grd_inv hr
  refine r_irem (pc := 104) dX8_laysBlob_104 (nz_ne h17) ?_
  refine r_topi fun v18 ev18 => ?_
  replace hr := vthen_inv hr v18 ev18
  refine r_istore (pc := 105) (ls1 := [(4, .int v18), (0, .ref (ad g 73)), (2, .int u2_), (3, .int v3_)]) dX8_laysBlob_105 (nle rfl) rfl ?_
  refine r_aload_n (pc := 107) (j := 1) dX8_laysBlob_107 rfl rfl ?_
  refine gf8_34 (pc := 108) tw_5_128 hw_ dX8_laysBlob_108 ?_
  refine r_iload_n (pc := 111) (j := 3) dX8_laysBlob_111 rfl rfl ?_
  refine x_iald (pc := 112) (k := (Int32.toNatClampNeg v3_)) rfl h16 rfl dX8_laysBlob_112 ?_
  refine r_aload_n (pc := 113) (j := 1) dX8_laysBlob_113 rfl rfl ?_
  refine gf8_29 (pc := 114) tw_5_123 rfl dX8_laysBlob_114 ?_
  refine r_idiv (pc := 117) dX8_laysBlob_117 (nz_ne h17) ?_
  refine r_topi fun v19 ev19 => ?_
  replace hr := vthen_inv hr v19 ev19
  refine r_istore (pc := 118) (ls1 := [(5, .int v19), (4, .int v18), (0, .ref (ad g 73)), (2, .int u2_), (3, .int v3_)]) dX8_laysBlob_118 (nle rfl) rfl ?_
  refine r_aload_n (pc := 120) (j := 2) dX8_laysBlob_120 rfl rfl ?_
  refine gf8_36 (pc := 121) tw_5_130 hw_ dX8_laysBlob_121 ?_
  refine r_iload_n (pc := 124) (j := 3) dX8_laysBlob_124 rfl rfl ?_
  refine r_aload_n (pc := 125) (j := 2) dX8_laysBlob_125 rfl rfl ?_
  refine gf8_36 (pc := 126) tw_5_130 hw_ dX8_laysBlob_126 ?_
  refine r_iload_n (pc := 129) (j := 3) dX8_laysBlob_129 rfl rfl ?_
  obtain ⟨h20, hr⟩ := grd_inv hr
  refine x_iald (pc := 130) (k := (Int32.toNatClampNeg u2_)) rfl h20 rfl dX8_laysBlob_130 ?_
  refine r_iload (pc := 131) (j := 1) dX8_laysBlob_131 rfl ?_
  refine r_iadd (pc := 133) dX8_laysBlob_133 ?_
  refine x_iast (pc := 134) (j := (Int32.toNatClampNeg u2_)) rfl h20 rfl dX8_laysBlob_134 fun σ21 eσ21 => ?_
  replace hr := vthen_inv hr σ21 eσ21
  have hσ21 := wtI eσ21 hw_
  refine r_aload_n (pc := 135) (j := 2) dX8_laysBlob_135 rfl rfl ?_
  refine gf8_37 (pc := 136) tw_5_131 hσ21 dX8_laysBlob_136 ?_
  refine r_iload_n (pc := 139) (j := 3) dX8_laysBlob_139 rfl rfl ?_
  refine r_aload_n (pc := 140) (j := 2) dX8_laysBlob_140 rfl rfl ?_
  refine gf8_37 (pc := 141) tw_5_131 hσ21 dX8_laysBlob_141 ?_
  refine r_iload_n (pc := 144) (j := 3) dX8_laysBlob_144 rfl rfl ?_
  refine x_iald (pc := 145) (k := (Int32.toNatClampNeg u2_)) rfl h20 rfl dX8_laysBlob_145 ?_
  refine r_iload (pc := 146) (j := 0) dX8_laysBlob_146 rfl ?_
  refine r_iadd (pc := 148) dX8_laysBlob_148 ?_
  refine x_iast (pc := 149) (j := (Int32.toNatClampNeg u2_)) rfl h20 rfl dX8_laysBlob_149 fun σ22 eσ22 => ?_
  replace hr := vthen_inv hr σ22 eσ22
  have hσ22 := wtI eσ22 hσ21
  refine r_aload_n (pc := 150) (j := 2) dX8_laysBlob_150 rfl rfl ?_
  refine gf8_39 (pc := 151) tw_5_133 hσ22 dX8_laysBlob_151 ?_
  refine r_iload_n (pc := 154) (j := 3) dX8_laysBlob_154 rfl rfl ?_
  refine r_iload (pc := 155) (j := 1) dX8_laysBlob_155 rfl ?_
  refine r_aload_n (pc := 157) (j := 2) dX8_laysBlob_157 rfl rfl ?_
  refine gf8_39 (pc := 158) tw_5_133 hσ22 dX8_laysBlob_158 ?_
  refine r_iload_n (pc := 161) (j := 3) dX8_laysBlob_161 rfl rfl ?_
  refine x_iald (pc := 162) (k := (Int32.toNatClampNeg u2_)) rfl h20 rfl dX8_laysBlob_162 ?_
  obtain ⟨j177, ej177, hr⟩ := vth_ex hr
  have hj177 : ∀ (s23 : Int32), j177 s23 = some r → RR g mX8_laysBlob (FinR g mX8_laysBlob none NF r) zF 177 [(0, .ref (ad g 73)), (2, .int u2_), (3, .int v3_), (4, .int v18), (5, .int v19)] [.int s23, .int u2_, .ref (ad g 98)] σ22 := by
    intro s23 hr
    replace hr := (congrFun ej177 s23).symm.trans hr
    refine x_iast (pc := 177) (j := (Int32.toNatClampNeg u2_)) rfl h20 rfl dX8_laysBlob_177 fun σ24 eσ24 => ?_
    replace hr := vthen_inv hr σ24 eσ24
    have hσ24 := wtI eσ24 hσ22
    refine r_aload_n (pc := 178) (j := 0) dX8_laysBlob_178 rfl rfl ?_
    refine gf8_40 (pc := 179) tw_5_134 hσ24 dX8_laysBlob_179 ?_
    refine r_iload_n (pc := 182) (j := 1) dX8_laysBlob_182 rfl rfl ?_
    refine r_iload (pc := 183) (j := 3) dX8_laysBlob_183 rfl ?_
    refine r_aload_n (pc := 185) (j := 0) dX8_laysBlob_185 rfl rfl ?_
    refine gf8_40 (pc := 186) tw_5_134 hσ24 dX8_laysBlob_186 ?_
    refine r_iload_n (pc := 189) (j := 1) dX8_laysBlob_189 rfl rfl ?_
    refine x_iald (pc := 190) (k := (Int32.toNatClampNeg u2_)) rfl h20 rfl dX8_laysBlob_190 ?_
    obtain ⟨j205, ej205, hr⟩ := vth_ex hr
    have hj205 : ∀ (s25 : Int32), j205 s25 = some r → RR g mX8_laysBlob (FinR g mX8_laysBlob none NF r) zF 205 [(0, .ref (ad g 73)), (2, .int u2_), (3, .int v3_), (4, .int v18), (5, .int v19)] [.int s25, .int u2_, .ref (ad g 99)] σ24 := by
      intro s25 hr
      replace hr := (congrFun ej205 s25).symm.trans hr
      refine x_iast (pc := 205) (j := (Int32.toNatClampNeg u2_)) rfl h20 rfl dX8_laysBlob_205 fun σ26 eσ26 => ?_
      replace hr := vthen_inv hr σ26 eσ26
      have hσ26 := wtI eσ26 hσ24
      refine r_aload_n (pc := 206) (j := 0) dX8_laysBlob_206 rfl rfl ?_
      refine gf8_41 (pc := 207) tw_5_135 hσ26 dX8_laysBlob_207 ?_
      refine r_iload_n (pc := 210) (j := 1) dX8_laysBlob_210 rfl rfl ?_
      refine r_iload (pc := 211) (j := 4) dX8_laysBlob_211 rfl ?_
      refine r_aload_n (pc := 213) (j := 0) dX8_laysBlob_213 rfl rfl ?_
      refine gf8_41 (pc := 214) tw_5_135 hσ26 dX8_laysBlob_214 ?_
      refine r_iload_n (pc := 217) (j := 1) dX8_laysBlob_217 rfl rfl ?_
      refine x_iald (pc := 218) (k := (Int32.toNatClampNeg u2_)) rfl h20 rfl dX8_laysBlob_218 ?_
      obtain ⟨j233, ej233, hr⟩ := vth_ex hr
      have hj233 : ∀ (s27 : Int32), j233 s27 = some r → RR g mX8_laysBlob (FinR g mX8_laysBlob none NF r) zF 233 [(0, .ref (ad g 73)), (2, .int u2_), (3, .int v3_), (4, .int v18), (5, .int v19)] [.int s27, .int u2_, .ref (ad g 100)] σ26 := by
        intro s27 hr
        replace hr := (congrFun ej233 s27).symm.trans hr
        refine x_iast (pc := 233) (j := (Int32.toNatClampNeg u2_)) rfl h20 rfl dX8_laysBlob_233 fun σ28 eσ28 => ?_
        replace hr := vthen_inv hr σ28 eσ28
        have hσ28 := wtI eσ28 hσ26
        refine r_aload_n (pc := 234) (j := 0) dX8_laysBlob_234 rfl rfl ?_
        refine gf8_42 (pc := 235) tw_5_136 hσ28 dX8_laysBlob_235 ?_
        refine r_iload_n (pc := 238) (j := 1) dX8_laysBlob_238 rfl rfl ?_
        refine r_iload (pc := 239) (j := 4) dX8_laysBlob_239 rfl ?_
        refine r_aload_n (pc := 241) (j := 0) dX8_laysBlob_241 rfl rfl ?_
        refine gf8_42 (pc := 242) tw_5_136 hσ28 dX8_laysBlob_242 ?_
        refine r_iload_n (pc := 245) (j := 1) dX8_laysBlob_245 rfl rfl ?_
        refine x_iald (pc := 246) (k := (Int32.toNatClampNeg u2_)) rfl h20 rfl dX8_laysBlob_246 ?_
        obtain ⟨j261, ej261, hr⟩ := vth_ex hr
        have hj261 : ∀ (s29 : Int32), j261 s29 = some r → RR g mX8_laysBlob (FinR g mX8_laysBlob none NF r) zF 261 [(0, .ref (ad g 73)), (2, .int u2_), (3, .int v3_), (4, .int v18), (5, .int v19)] [.int s29, .int u2_, .ref (ad g 101)] σ28 := by
          intro s29 hr
          replace hr := (congrFun ej261 s29).symm.trans hr
          refine x_iast (pc := 261) (j := (Int32.toNatClampNeg u2_)) rfl h20 rfl dX8_laysBlob_261 fun σ30 eσ30 => ?_
          replace hr := vthen_inv hr σ30 eσ30
          have hσ30 := wtI eσ30 hσ28
          refine r_aload_n (pc := 262) (j := 0) dX8_laysBlob_262 rfl rfl ?_
          refine r_iload (pc := 263) (j := 3) dX8_laysBlob_263 rfl ?_
          refine r_iconst (pc := 265) (v := (1 : Int32)) dX8_laysBlob_265 rfl ?_
          refine r_iadd (pc := 266) dX8_laysBlob_266 ?_
          refine r_iload (pc := 267) (j := 4) dX8_laysBlob_267 rfl ?_
          obtain ⟨σ31, eσ31, hr⟩ := bnd1_inv hr
          refine kX8_meets (pc := 269) eσ31 tw_6_239 ⟨nle rfl, nle rfl⟩ (nle rfl) dX8_laysBlob_269 fun hσ31 => ?_
          refine r_aload_n (pc := 272) (j := 0) dX8_laysBlob_272 rfl rfl ?_
          refine r_iload (pc := 273) (j := 3) dX8_laysBlob_273 rfl ?_
          refine r_iconst (pc := 275) (v := (1 : Int32)) dX8_laysBlob_275 rfl ?_
          refine r_isub (pc := 276) dX8_laysBlob_276 ?_
          refine r_iload (pc := 277) (j := 4) dX8_laysBlob_277 rfl ?_
          obtain ⟨σ32, eσ32, hr⟩ := bnd1_inv hr
          refine kX8_meets (pc := 279) eσ32 tw_6_239 ⟨nle rfl, nle rfl⟩ (nle rfl) dX8_laysBlob_279 fun hσ32 => ?_
          refine r_aload_n (pc := 282) (j := 0) dX8_laysBlob_282 rfl rfl ?_
          refine r_iload (pc := 283) (j := 3) dX8_laysBlob_283 rfl ?_
          refine r_iload (pc := 285) (j := 4) dX8_laysBlob_285 rfl ?_
          refine r_iconst (pc := 287) (v := (1 : Int32)) dX8_laysBlob_287 rfl ?_
          refine r_iadd (pc := 288) dX8_laysBlob_288 ?_
          obtain ⟨σ33, eσ33, hr⟩ := bnd1_inv hr
          refine kX8_meets (pc := 289) eσ33 tw_6_239 ⟨nle rfl, nle rfl⟩ (nle rfl) dX8_laysBlob_289 fun hσ33 => ?_
          refine r_aload_n (pc := 292) (j := 0) dX8_laysBlob_292 rfl rfl ?_
          refine r_iload (pc := 293) (j := 3) dX8_laysBlob_293 rfl ?_
          refine r_iload (pc := 295) (j := 4) dX8_laysBlob_295 rfl ?_
          refine r_iconst (pc := 297) (v := (1 : Int32)) dX8_laysBlob_297 rfl ?_
          refine r_isub (pc := 298) dX8_laysBlob_298 ?_
          obtain ⟨σ34, eσ34, hr⟩ := bnd1_inv hr
          refine kX8_meets (pc := 299) eσ34 tw_6_239 ⟨nle rfl, nle rfl⟩ (nle rfl) dX8_laysBlob_299 fun hσ34 => ?_
          refine r_iinc (pc := 302) (j := 2) (v := (v3_ + (1 : Int32))) (ls1 := [(3, .int (v3_ + (1 : Int32))), (0, .ref (ad g 73)), (2, .int u2_), (4, .int v18), (5, .int v19)]) dX8_laysBlob_302 rfl rfl (nle rfl) rfl ?_
          refine r_goto (pc := 305) (tgt := 86) dX8_laysBlob_305 rfl ?_
          exact r_pick (ls1 := [(0, .ref (ad g 73)), (2, .int u2_), (3, .int (v3_ + (1 : Int32)))]) [1, 2, 0] rfl (ih (v3_ + (1 : Int32)) σ34 hr hσ34)
        refine r_icmp_le (pc := 247) (tgt := 255) dX8_laysBlob_247 rfl (fun hc => ?_) (fun hc => ?_)
        · replace hr := ite_t hc hr
          refine r_aload_n (pc := 255) (j := 0) dX8_laysBlob_255 rfl rfl ?_
          refine gf8_42 (pc := 256) tw_5_136 hσ28 dX8_laysBlob_256 ?_
          refine r_iload_n (pc := 259) (j := 1) dX8_laysBlob_259 rfl rfl ?_
          refine x_iald (pc := 260) (k := (Int32.toNatClampNeg u2_)) rfl h20 rfl dX8_laysBlob_260 ?_
          exact r_pick (ls1 := [(0, .ref (ad g 73)), (2, .int u2_), (3, .int v3_), (4, .int v18), (5, .int v19)]) [0, 1, 2, 3, 4] rfl (hj261 (gI σ28 101 (Int32.toNatClampNeg u2_)) hr)
        replace hr := ite_f hc hr
        refine r_iload (pc := 250) (j := 4) dX8_laysBlob_250 rfl ?_
        refine r_goto (pc := 252) (tgt := 261) dX8_laysBlob_252 rfl ?_
        exact r_pick (ls1 := [(0, .ref (ad g 73)), (2, .int u2_), (3, .int v3_), (4, .int v18), (5, .int v19)]) [0, 1, 2, 3, 4] rfl (hj261 v19 hr)
      refine r_icmp_ge (pc := 219) (tgt := 227) dX8_laysBlob_219 rfl (fun hc => ?_) (fun hc => ?_)
      · replace hr := ite_t hc hr
        refine r_aload_n (pc := 227) (j := 0) dX8_laysBlob_227 rfl rfl ?_
        refine gf8_41 (pc := 228) tw_5_135 hσ26 dX8_laysBlob_228 ?_
        refine r_iload_n (pc := 231) (j := 1) dX8_laysBlob_231 rfl rfl ?_
        refine x_iald (pc := 232) (k := (Int32.toNatClampNeg u2_)) rfl h20 rfl dX8_laysBlob_232 ?_
        exact r_pick (ls1 := [(0, .ref (ad g 73)), (2, .int u2_), (3, .int v3_), (4, .int v18), (5, .int v19)]) [0, 1, 2, 3, 4] rfl (hj233 (gI σ26 100 (Int32.toNatClampNeg u2_)) hr)
      replace hr := ite_f hc hr
      refine r_iload (pc := 222) (j := 4) dX8_laysBlob_222 rfl ?_
      refine r_goto (pc := 224) (tgt := 233) dX8_laysBlob_224 rfl ?_
      exact r_pick (ls1 := [(0, .ref (ad g 73)), (2, .int u2_), (3, .int v3_), (4, .int v18), (5, .int v19)]) [0, 1, 2, 3, 4] rfl (hj233 v19 hr)
    refine r_icmp_le (pc := 191) (tgt := 199) dX8_laysBlob_191 rfl (fun hc => ?_) (fun hc => ?_)
    · replace hr := ite_t hc hr
      refine r_aload_n (pc := 199) (j := 0) dX8_laysBlob_199 rfl rfl ?_
      refine gf8_40 (pc := 200) tw_5_134 hσ24 dX8_laysBlob_200 ?_
      refine r_iload_n (pc := 203) (j := 1) dX8_laysBlob_203 rfl rfl ?_
      refine x_iald (pc := 204) (k := (Int32.toNatClampNeg u2_)) rfl h20 rfl dX8_laysBlob_204 ?_
      exact r_pick (ls1 := [(0, .ref (ad g 73)), (2, .int u2_), (3, .int v3_), (4, .int v18), (5, .int v19)]) [0, 1, 2, 3, 4] rfl (hj205 (gI σ24 99 (Int32.toNatClampNeg u2_)) hr)
    replace hr := ite_f hc hr
    refine r_iload (pc := 194) (j := 3) dX8_laysBlob_194 rfl ?_
    refine r_goto (pc := 196) (tgt := 205) dX8_laysBlob_196 rfl ?_
    exact r_pick (ls1 := [(0, .ref (ad g 73)), (2, .int u2_), (3, .int v3_), (4, .int v18), (5, .int v19)]) [0, 1, 2, 3, 4] rfl (hj205 v18 hr)
  refine r_icmp_ge (pc := 163) (tgt := 171) dX8_laysBlob_163 rfl (fun hc => ?_) (fun hc => ?_)
  · replace hr := ite_t hc hr
    refine r_aload_n (pc := 171) (j := 2) dX8_laysBlob_171 rfl rfl ?_
    refine gf8_39 (pc := 172) tw_5_133 hσ22 dX8_laysBlob_172 ?_
    refine r_iload_n (pc := 175) (j := 3) dX8_laysBlob_175 rfl rfl ?_
    refine x_iald (pc := 176) (k := (Int32.toNatClampNeg u2_)) rfl h20 rfl dX8_laysBlob_176 ?_
    exact r_pick (ls1 := [(0, .ref (ad g 73)), (2, .int u2_), (3, .int v3_), (4, .int v18), (5, .int v19)]) [2, 3, 4, 1, 0] rfl (hj177 (gI σ22 98 (Int32.toNatClampNeg u2_)) hr)
  replace hr := ite_f hc hr
  refine r_iload (pc := 166) (j := 1) dX8_laysBlob_166 rfl ?_
  refine r_goto (pc := 168) (tgt := 177) dX8_laysBlob_168 rfl ?_
  exact r_pick (ls1 := [(0, .ref (ad g 73)), (2, .int u2_), (3, .int v3_), (4, .int v18), (5, .int v19)]) [2, 3, 4, 1, 0] rfl (hj177 v18 hr)

set_option maxRecDepth 20000 in
theorem sX8_laysBlob {g : GG} {σ : SS} {a1 : Int32} {r : SS} (hr : fX8_laysBlob σ a1 = some r)  : Ct g mX8_laysBlob [.ref (ad g 73), .int a1] NF σ none NF r := by
  refine Ct.of (by decide +kernel) (nle rfl) fun hw0 => ?_
  have hw := hw0 rfl
  unfold fX8_laysBlob at hr
  change RR g mX8_laysBlob (FinR g mX8_laysBlob none NF r) zF 0 [(0, .ref (ad g 73)), (1, .int a1)] [] σ
  refine r_aload_n (pc := 0) (j := 0) dX8_laysBlob_0 rfl rfl ?_
  refine gf8_43 (pc := 1) tw_5_137 rfl dX8_laysBlob_1 ?_
  refine r_topi fun v1 ev1 => ?_
  replace hr := vthen_inv hr v1 ev1
  refine r_istore_n (pc := 4) (ls1 := [(2, .int v1), (0, .ref (ad g 73)), (1, .int a1)]) dX8_laysBlob_4 rfl (nle rfl) rfl ?_
  refine r_aload_n (pc := 5) (j := 1) dX8_laysBlob_5 rfl rfl ?_
  refine gf8_35 (pc := 6) tw_5_129 hw dX8_laysBlob_6 ?_
  refine r_iload_n (pc := 9) (j := 0) dX8_laysBlob_9 rfl rfl ?_
  refine r_iconst (pc := 10) (v := (0 : Int32)) dX8_laysBlob_10 rfl ?_
  obtain ⟨h2, hr⟩ := grd_inv hr
  refine x_iast (pc := 11) (j := (Int32.toNatClampNeg v1)) rfl h2 rfl dX8_laysBlob_11 fun σ3 eσ3 => ?_
  replace hr := vthen_inv hr σ3 eσ3
  have hσ3 := wtI eσ3 hw
  refine r_aload_n (pc := 12) (j := 1) dX8_laysBlob_12 rfl rfl ?_
  refine gf8_36 (pc := 13) tw_5_130 hσ3 dX8_laysBlob_13 ?_
  refine r_iload_n (pc := 16) (j := 0) dX8_laysBlob_16 rfl rfl ?_
  refine r_iconst (pc := 17) (v := (0 : Int32)) dX8_laysBlob_17 rfl ?_
  refine x_iast (pc := 18) (j := (Int32.toNatClampNeg v1)) rfl h2 rfl dX8_laysBlob_18 fun σ4 eσ4 => ?_
  replace hr := vthen_inv hr σ4 eσ4
  have hσ4 := wtI eσ4 hσ3
  refine r_aload_n (pc := 19) (j := 1) dX8_laysBlob_19 rfl rfl ?_
  refine gf8_37 (pc := 20) tw_5_131 hσ4 dX8_laysBlob_20 ?_
  refine r_iload_n (pc := 23) (j := 0) dX8_laysBlob_23 rfl rfl ?_
  refine r_iconst (pc := 24) (v := (0 : Int32)) dX8_laysBlob_24 rfl ?_
  refine x_iast (pc := 25) (j := (Int32.toNatClampNeg v1)) rfl h2 rfl dX8_laysBlob_25 fun σ5 eσ5 => ?_
  replace hr := vthen_inv hr σ5 eσ5
  have hσ5 := wtI eσ5 hσ4
  refine r_aload_n (pc := 26) (j := 1) dX8_laysBlob_26 rfl rfl ?_
  refine gf8_38 (pc := 27) tw_5_132 hσ5 dX8_laysBlob_27 ?_
  refine r_iload_n (pc := 30) (j := 0) dX8_laysBlob_30 rfl rfl ?_
  refine r_iload_n (pc := 31) (j := 2) dX8_laysBlob_31 rfl rfl ?_
  refine x_iast (pc := 32) (j := (Int32.toNatClampNeg v1)) rfl h2 rfl dX8_laysBlob_32 fun σ6 eσ6 => ?_
  replace hr := vthen_inv hr σ6 eσ6
  have hσ6 := wtI eσ6 hσ5
  refine r_aload_n (pc := 33) (j := 1) dX8_laysBlob_33 rfl rfl ?_
  refine gf8_39 (pc := 34) tw_5_133 hσ6 dX8_laysBlob_34 ?_
  refine r_iload_n (pc := 37) (j := 0) dX8_laysBlob_37 rfl rfl ?_
  refine r_bipush (pc := 38) (v := (40 : Int32)) dX8_laysBlob_38 rfl ?_
  refine x_iast (pc := 40) (j := (Int32.toNatClampNeg v1)) rfl h2 rfl dX8_laysBlob_40 fun σ7 eσ7 => ?_
  replace hr := vthen_inv hr σ7 eσ7
  have hσ7 := wtI eσ7 hσ6
  refine r_aload_n (pc := 41) (j := 1) dX8_laysBlob_41 rfl rfl ?_
  refine gf8_40 (pc := 42) tw_5_134 hσ7 dX8_laysBlob_42 ?_
  refine r_iload_n (pc := 45) (j := 0) dX8_laysBlob_45 rfl rfl ?_
  refine r_iconst (pc := 46) (v := (0 : Int32)) dX8_laysBlob_46 rfl ?_
  refine x_iast (pc := 47) (j := (Int32.toNatClampNeg v1)) rfl h2 rfl dX8_laysBlob_47 fun σ8 eσ8 => ?_
  replace hr := vthen_inv hr σ8 eσ8
  have hσ8 := wtI eσ8 hσ7
  refine r_aload_n (pc := 48) (j := 1) dX8_laysBlob_48 rfl rfl ?_
  refine gf8_41 (pc := 49) tw_5_135 hσ8 dX8_laysBlob_49 ?_
  refine r_iload_n (pc := 52) (j := 0) dX8_laysBlob_52 rfl rfl ?_
  refine r_bipush (pc := 53) (v := (40 : Int32)) dX8_laysBlob_53 rfl ?_
  refine x_iast (pc := 55) (j := (Int32.toNatClampNeg v1)) rfl h2 rfl dX8_laysBlob_55 fun σ9 eσ9 => ?_
  replace hr := vthen_inv hr σ9 eσ9
  have hσ9 := wtI eσ9 hσ8
  refine r_aload_n (pc := 56) (j := 1) dX8_laysBlob_56 rfl rfl ?_
  refine gf8_42 (pc := 57) tw_5_136 hσ9 dX8_laysBlob_57 ?_
  refine r_iload_n (pc := 60) (j := 0) dX8_laysBlob_60 rfl rfl ?_
  refine r_iconst (pc := 61) (v := (0 : Int32)) dX8_laysBlob_61 rfl ?_
  refine x_iast (pc := 62) (j := (Int32.toNatClampNeg v1)) rfl h2 rfl dX8_laysBlob_62 fun σ10 eσ10 => ?_
  replace hr := vthen_inv hr σ10 eσ10
  have hσ10 := wtI eσ10 hσ9
  refine r_aload_n (pc := 63) (j := 1) dX8_laysBlob_63 rfl rfl ?_
  refine r_iconst (pc := 64) (v := (0 : Int32)) dX8_laysBlob_64 rfl ?_
  refine pf8_44 (pc := 65) tw_5_138 rfl dX8_laysBlob_65 fun σ11 eσ11 => ?_
  replace hr := vthen_inv hr σ11 eσ11
  have hσ11 := wtI eσ11 hσ10
  refine r_aload_n (pc := 68) (j := 1) dX8_laysBlob_68 rfl rfl ?_
  refine r_iload_n (pc := 69) (j := 2) dX8_laysBlob_69 rfl rfl ?_
  refine r_aload_n (pc := 70) (j := 1) dX8_laysBlob_70 rfl rfl ?_
  refine gf8_29 (pc := 71) tw_5_123 rfl dX8_laysBlob_71 ?_
  obtain ⟨h12, hr⟩ := grd_inv hr
  refine r_irem (pc := 74) dX8_laysBlob_74 (nz_ne h12) ?_
  refine r_iload_n (pc := 75) (j := 2) dX8_laysBlob_75 rfl rfl ?_
  refine r_aload_n (pc := 76) (j := 1) dX8_laysBlob_76 rfl rfl ?_
  refine gf8_29 (pc := 77) tw_5_123 rfl dX8_laysBlob_77 ?_
  refine r_idiv (pc := 80) dX8_laysBlob_80 (nz_ne h12) ?_
  obtain ⟨σ13, eσ13, hr⟩ := bnd1_inv hr
  refine kX8_meets (pc := 81) eσ13 tw_6_239 ⟨nle rfl, nle rfl⟩ (nle rfl) dX8_laysBlob_81 fun hσ13 => ?_
  refine r_iconst (pc := 84) (v := (0 : Int32)) dX8_laysBlob_84 rfl ?_
  refine r_istore_n (pc := 85) (ls1 := [(3, .int (0 : Int32)), (2, .int v1), (0, .ref (ad g 73)), (1, .int a1)]) dX8_laysBlob_85 rfl (nle rfl) rfl ?_
  refine r_pick (ls1 := [(0, .ref (ad g 73)), (2, .int v1), (3, .int (0 : Int32))]) [2, 1, 0] rfl ?_
  refine sX8_laysBlob_L86     fuel (0 : Int32) σ13 hr hσ13

theorem kX8_laysBlob {g : GG} {σ : SS} {a1 : Int32} {σ2 : SS} {M : MM} {F : State → Array Value → List Frame → State → Prop} {pc index : Nat} {ls : List (Nat × Value)} {rest : List Value} (hf : fX8_laysBlob σ a1 = some σ2)  (hl : Cond.methodLink M.1.cls index yX8_laysBlob ∈ lw_gt) (hR : mX8_laysBlob.2.2.2.2.frames + 1 ≤ M.2.2.2.2.frames ∧ 8 + (mX8_laysBlob.2.2.1 + 11) + mX8_laysBlob.2.2.2.2.locals ≤ M.2.2.2.2.locals) (hrest : (rest.map fun v => v.category).sum ≤ 8) (hd : decode M.2.1 pc = .ok (.invokevirtual index, 3)) (k : WT σ2 → RR g M F zF (pc + 3) ls rest σ2) : RR g M F zF pc ls (.int a1 :: .ref (ad g 73) :: rest) σ :=
  r_callV (z := zF) (N := mX8_laysBlob) (nn := 1) (o1 := none) (sX8_laysBlob hf ) (rfl : shp 73 = (8, 0)) (by decide) (shp_le (rfl : shp 73 = (8, 0)) (nle rfl)) (ci := 8) rfl rfl tw_6_238 tw_1_10 hl tw_6_237 tp_59 ⟨by decide, by decide, rfl⟩ hR rfl hrest hd ⟨Nat.zero_le _, Nat.zero_le _⟩ rfl (fun h => k (h rfl))

theorem dX8_laysBlobs_0 : decode cX8_laysBlobs 0 = .ok (.aload_n 0, 1) := by decide +kernel
theorem dX8_laysBlobs_1 : decode cX8_laysBlobs 1 = .ok (.iconst 0, 1) := by decide +kernel
theorem dX8_laysBlobs_2 : decode cX8_laysBlobs 2 = .ok (.putfield 313, 3) := by decide +kernel
theorem dX8_laysBlobs_5 : decode cX8_laysBlobs 5 = .ok (.iconst 0, 1) := by decide +kernel
theorem dX8_laysBlobs_6 : decode cX8_laysBlobs 6 = .ok (.istore_n 1, 1) := by decide +kernel
theorem dX8_laysBlobs_7 : decode cX8_laysBlobs 7 = .ok (.iload_n 1, 1) := by decide +kernel
theorem dX8_laysBlobs_8 : decode cX8_laysBlobs 8 = .ok (.aload_n 0, 1) := by decide +kernel
theorem dX8_laysBlobs_9 : decode cX8_laysBlobs 9 = .ok (.invokevirtual 275, 3) := by decide +kernel
theorem dX8_laysBlobs_12 : decode cX8_laysBlobs 12 = .ok (.if_icmp .ge 16, 3) := by decide +kernel
theorem dX8_laysBlobs_15 : decode cX8_laysBlobs 15 = .ok (.aload_n 0, 1) := by decide +kernel
theorem dX8_laysBlobs_16 : decode cX8_laysBlobs 16 = .ok (.getfield 65, 3) := by decide +kernel
theorem dX8_laysBlobs_19 : decode cX8_laysBlobs 19 = .ok (.iload_n 1, 1) := by decide +kernel
theorem dX8_laysBlobs_20 : decode cX8_laysBlobs 20 = .ok (.iconst (-1), 1) := by decide +kernel
theorem dX8_laysBlobs_21 : decode cX8_laysBlobs 21 = .ok (.iastore, 1) := by decide +kernel
theorem dX8_laysBlobs_22 : decode cX8_laysBlobs 22 = .ok (.iinc 1 1, 3) := by decide +kernel
theorem dX8_laysBlobs_25 : decode cX8_laysBlobs 25 = .ok (.goto (-18), 3) := by decide +kernel
theorem dX8_laysBlobs_28 : decode cX8_laysBlobs 28 = .ok (.iconst 0, 1) := by decide +kernel
theorem dX8_laysBlobs_29 : decode cX8_laysBlobs 29 = .ok (.istore_n 1, 1) := by decide +kernel
theorem dX8_laysBlobs_30 : decode cX8_laysBlobs 30 = .ok (.iload_n 1, 1) := by decide +kernel
theorem dX8_laysBlobs_31 : decode cX8_laysBlobs 31 = .ok (.aload_n 0, 1) := by decide +kernel
theorem dX8_laysBlobs_32 : decode cX8_laysBlobs 32 = .ok (.invokevirtual 275, 3) := by decide +kernel
theorem dX8_laysBlobs_35 : decode cX8_laysBlobs 35 = .ok (.if_icmp .ge 97, 3) := by decide +kernel
theorem dX8_laysBlobs_38 : decode cX8_laysBlobs 38 = .ok (.aload_n 0, 1) := by decide +kernel
theorem dX8_laysBlobs_39 : decode cX8_laysBlobs 39 = .ok (.getfield 38, 3) := by decide +kernel
theorem dX8_laysBlobs_42 : decode cX8_laysBlobs 42 = .ok (.iload_n 1, 1) := by decide +kernel
theorem dX8_laysBlobs_43 : decode cX8_laysBlobs 43 = .ok (.iaload, 1) := by decide +kernel
theorem dX8_laysBlobs_44 : decode cX8_laysBlobs 44 = .ok (.aload_n 0, 1) := by decide +kernel
theorem dX8_laysBlobs_45 : decode cX8_laysBlobs 45 = .ok (.getfield 53, 3) := by decide +kernel
theorem dX8_laysBlobs_48 : decode cX8_laysBlobs 48 = .ok (.iconst 0, 1) := by decide +kernel
theorem dX8_laysBlobs_49 : decode cX8_laysBlobs 49 = .ok (.iaload, 1) := by decide +kernel
theorem dX8_laysBlobs_50 : decode cX8_laysBlobs 50 = .ok (.if_icmp .lt 76, 3) := by decide +kernel
theorem dX8_laysBlobs_53 : decode cX8_laysBlobs 53 = .ok (.aload_n 0, 1) := by decide +kernel
theorem dX8_laysBlobs_54 : decode cX8_laysBlobs 54 = .ok (.getfield 65, 3) := by decide +kernel
theorem dX8_laysBlobs_57 : decode cX8_laysBlobs 57 = .ok (.iload_n 1, 1) := by decide +kernel
theorem dX8_laysBlobs_58 : decode cX8_laysBlobs 58 = .ok (.iaload, 1) := by decide +kernel
theorem dX8_laysBlobs_59 : decode cX8_laysBlobs 59 = .ok (.iconst (-1), 1) := by decide +kernel
theorem dX8_laysBlobs_60 : decode cX8_laysBlobs 60 = .ok (.if_icmp .eq 6, 3) := by decide +kernel
theorem dX8_laysBlobs_63 : decode cX8_laysBlobs 63 = .ok (.goto 63, 3) := by decide +kernel
theorem dX8_laysBlobs_66 : decode cX8_laysBlobs 66 = .ok (.aload_n 0, 1) := by decide +kernel
theorem dX8_laysBlobs_67 : decode cX8_laysBlobs 67 = .ok (.iload_n 1, 1) := by decide +kernel
theorem dX8_laysBlobs_68 : decode cX8_laysBlobs 68 = .ok (.invokevirtual 323, 3) := by decide +kernel
theorem dX8_laysBlobs_71 : decode cX8_laysBlobs 71 = .ok (.aload_n 0, 1) := by decide +kernel
theorem dX8_laysBlobs_72 : decode cX8_laysBlobs 72 = .ok (.getfield 316, 3) := by decide +kernel
theorem dX8_laysBlobs_75 : decode cX8_laysBlobs 75 = .ok (.aload_n 0, 1) := by decide +kernel
theorem dX8_laysBlobs_76 : decode cX8_laysBlobs 76 = .ok (.getfield 53, 3) := by decide +kernel
theorem dX8_laysBlobs_79 : decode cX8_laysBlobs 79 = .ok (.iconst 1, 1) := by decide +kernel
theorem dX8_laysBlobs_80 : decode cX8_laysBlobs 80 = .ok (.iaload, 1) := by decide +kernel
theorem dX8_laysBlobs_81 : decode cX8_laysBlobs 81 = .ok (.if_icmp .lt 16, 3) := by decide +kernel
theorem dX8_laysBlobs_84 : decode cX8_laysBlobs 84 = .ok (.aload_n 0, 1) := by decide +kernel
theorem dX8_laysBlobs_85 : decode cX8_laysBlobs 85 = .ok (.aload_n 0, 1) := by decide +kernel
theorem dX8_laysBlobs_86 : decode cX8_laysBlobs 86 = .ok (.getfield 313, 3) := by decide +kernel
theorem dX8_laysBlobs_89 : decode cX8_laysBlobs 89 = .ok (.iconst 1, 1) := by decide +kernel
theorem dX8_laysBlobs_90 : decode cX8_laysBlobs 90 = .ok (.iadd, 1) := by decide +kernel
theorem dX8_laysBlobs_91 : decode cX8_laysBlobs 91 = .ok (.putfield 313, 3) := by decide +kernel
theorem dX8_laysBlobs_94 : decode cX8_laysBlobs 94 = .ok (.goto 32, 3) := by decide +kernel
theorem dX8_laysBlobs_97 : decode cX8_laysBlobs 97 = .ok (.iconst 0, 1) := by decide +kernel
theorem dX8_laysBlobs_98 : decode cX8_laysBlobs 98 = .ok (.istore_n 2, 1) := by decide +kernel
theorem dX8_laysBlobs_99 : decode cX8_laysBlobs 99 = .ok (.iload_n 2, 1) := by decide +kernel
theorem dX8_laysBlobs_100 : decode cX8_laysBlobs 100 = .ok (.aload_n 0, 1) := by decide +kernel
theorem dX8_laysBlobs_101 : decode cX8_laysBlobs 101 = .ok (.getfield 316, 3) := by decide +kernel
theorem dX8_laysBlobs_104 : decode cX8_laysBlobs 104 = .ok (.if_icmp .ge 22, 3) := by decide +kernel
theorem dX8_laysBlobs_107 : decode cX8_laysBlobs 107 = .ok (.aload_n 0, 1) := by decide +kernel
theorem dX8_laysBlobs_108 : decode cX8_laysBlobs 108 = .ok (.getfield 65, 3) := by decide +kernel
theorem dX8_laysBlobs_111 : decode cX8_laysBlobs 111 = .ok (.aload_n 0, 1) := by decide +kernel
theorem dX8_laysBlobs_112 : decode cX8_laysBlobs 112 = .ok (.getfield 68, 3) := by decide +kernel
theorem dX8_laysBlobs_115 : decode cX8_laysBlobs 115 = .ok (.iload_n 2, 1) := by decide +kernel
theorem dX8_laysBlobs_116 : decode cX8_laysBlobs 116 = .ok (.iaload, 1) := by decide +kernel
theorem dX8_laysBlobs_117 : decode cX8_laysBlobs 117 = .ok (.bipush (-2), 2) := by decide +kernel
theorem dX8_laysBlobs_119 : decode cX8_laysBlobs 119 = .ok (.iastore, 1) := by decide +kernel
theorem dX8_laysBlobs_120 : decode cX8_laysBlobs 120 = .ok (.iinc 2 1, 3) := by decide +kernel
theorem dX8_laysBlobs_123 : decode cX8_laysBlobs 123 = .ok (.goto (-24), 3) := by decide +kernel
theorem dX8_laysBlobs_126 : decode cX8_laysBlobs 126 = .ok (.iinc 1 1, 3) := by decide +kernel
theorem dX8_laysBlobs_129 : decode cX8_laysBlobs 129 = .ok (.goto (-99), 3) := by decide +kernel
theorem dX8_laysBlobs_132 : decode cX8_laysBlobs 132 = .ok (.iconst 0, 1) := by decide +kernel
theorem dX8_laysBlobs_133 : decode cX8_laysBlobs 133 = .ok (.istore_n 1, 1) := by decide +kernel
theorem dX8_laysBlobs_134 : decode cX8_laysBlobs 134 = .ok (.iload_n 1, 1) := by decide +kernel
theorem dX8_laysBlobs_135 : decode cX8_laysBlobs 135 = .ok (.aload_n 0, 1) := by decide +kernel
theorem dX8_laysBlobs_136 : decode cX8_laysBlobs 136 = .ok (.invokevirtual 275, 3) := by decide +kernel
theorem dX8_laysBlobs_139 : decode cX8_laysBlobs 139 = .ok (.if_icmp .ge 34, 3) := by decide +kernel
theorem dX8_laysBlobs_142 : decode cX8_laysBlobs 142 = .ok (.aload_n 0, 1) := by decide +kernel
theorem dX8_laysBlobs_143 : decode cX8_laysBlobs 143 = .ok (.getfield 65, 3) := by decide +kernel
theorem dX8_laysBlobs_146 : decode cX8_laysBlobs 146 = .ok (.iload_n 1, 1) := by decide +kernel
theorem dX8_laysBlobs_147 : decode cX8_laysBlobs 147 = .ok (.aload_n 0, 1) := by decide +kernel
theorem dX8_laysBlobs_148 : decode cX8_laysBlobs 148 = .ok (.getfield 65, 3) := by decide +kernel
theorem dX8_laysBlobs_151 : decode cX8_laysBlobs 151 = .ok (.iload_n 1, 1) := by decide +kernel
theorem dX8_laysBlobs_152 : decode cX8_laysBlobs 152 = .ok (.iaload, 1) := by decide +kernel
theorem dX8_laysBlobs_153 : decode cX8_laysBlobs 153 = .ok (.ifCond .ge 7, 3) := by decide +kernel
theorem dX8_laysBlobs_156 : decode cX8_laysBlobs 156 = .ok (.iconst (-1), 1) := by decide +kernel
theorem dX8_laysBlobs_157 : decode cX8_laysBlobs 157 = .ok (.goto 9, 3) := by decide +kernel
theorem dX8_laysBlobs_160 : decode cX8_laysBlobs 160 = .ok (.aload_n 0, 1) := by decide +kernel
theorem dX8_laysBlobs_161 : decode cX8_laysBlobs 161 = .ok (.getfield 65, 3) := by decide +kernel
theorem dX8_laysBlobs_164 : decode cX8_laysBlobs 164 = .ok (.iload_n 1, 1) := by decide +kernel
theorem dX8_laysBlobs_165 : decode cX8_laysBlobs 165 = .ok (.iaload, 1) := by decide +kernel
theorem dX8_laysBlobs_166 : decode cX8_laysBlobs 166 = .ok (.iastore, 1) := by decide +kernel
theorem dX8_laysBlobs_167 : decode cX8_laysBlobs 167 = .ok (.iinc 1 1, 3) := by decide +kernel
theorem dX8_laysBlobs_170 : decode cX8_laysBlobs 170 = .ok (.goto (-36), 3) := by decide +kernel
theorem dX8_laysBlobs_173 : decode cX8_laysBlobs 173 = .ok (.return_, 1) := by decide +kernel
def mX8_laysBlobs : MM := (yX8_laysBlobs, cX8_laysBlobs, 3, none, { frames := 4, cells := 0, slots := 0, locals := 91 })
def X8_laysBlobs_L7  (k28 : SS → Option SS) : Nat → Int32 → SS → Option SS :=
  lp (fun _ _ => none) fun rec v1_ σ_ =>
    if (fX8_all σ_) ≤ v1_ then (
      k28 σ_
      ) else (
      grd (inb v1_ 1600) <|
      vthen (sI σ_ 92 (Int32.toNatClampNeg v1_) (-1 : Int32)) fun σ3 =>
      rec (v1_ + (1 : Int32)) σ3
      )

def X8_laysBlobs_L99  (k126 : SS → Option SS) : Nat → Int32 → SS → Option SS :=
  lp (fun _ _ => none) fun rec v2_ σ_ =>
    if (gI σ_ 73 44) ≤ v2_ then (
      k126 σ_
      ) else (
      grd (inb v2_ 1600) <|
      grd (inb (gI σ_ 93 (Int32.toNatClampNeg v2_)) 1600) <|
      vthen (sI σ_ 92 (Int32.toNatClampNeg (gI σ_ 93 (Int32.toNatClampNeg v2_))) (-2 : Int32)) fun σ9 =>
      rec (v2_ + (1 : Int32)) σ9
      )

def X8_laysBlobs_L30  (k132 : SS → Option SS) : Nat → Int32 → SS → Option SS :=
  lp (fun _ _ => none) fun rec v1_ σ_ =>
    if (fX8_all σ_) ≤ v1_ then (
      k132 σ_
      ) else (
      grd (inb v1_ 1600) <|
      if (gI σ_ 83 (Int32.toNatClampNeg v1_)) < (gI σ_ 88 0) then (
        rec (v1_ + (1 : Int32)) σ_
        ) else (
        if (gI σ_ 92 (Int32.toNatClampNeg v1_)) = (-1 : Int32) then (
          bnd1 (fX8_laysBlob σ_ v1_) fun σ6 =>
          if (gI σ6 73 44) < (gI σ6 88 1) then (
            X8_laysBlobs_L99
            (fun σ10 =>
              rec (v1_ + (1 : Int32)) σ10
              )
            fuel (0 : Int32) σ6
            ) else (
            vthen (sI σ6 73 43 ((gI σ6 73 43) + (1 : Int32))) fun σ11 =>
            rec (v1_ + (1 : Int32)) σ11
            )
          ) else (
          rec (v1_ + (1 : Int32)) σ_
          )
        )
      )

def X8_laysBlobs_L134   : Nat → Int32 → SS → Option SS :=
  lp (fun _ _ => none) fun rec v1_ σ_ =>
    if (fX8_all σ_) ≤ v1_ then (
      some σ_
      ) else (
      grd (inb v1_ 1600) <|
      vthen (fun (s14 : Int32) =>
        vthen (sI σ_ 92 (Int32.toNatClampNeg v1_) s14) fun σ15 =>
        rec (v1_ + (1 : Int32)) σ15
        ) fun j166 =>
      if 0 ≤ (gI σ_ 92 (Int32.toNatClampNeg v1_)) then (
        j166 (gI σ_ 92 (Int32.toNatClampNeg v1_))
        ) else (
        j166 (-1 : Int32)
        )
      )

def fX8_laysBlobs (σ : SS)  : Option SS :=
  vthen (sI σ 73 43 (0 : Int32)) fun σ1 =>
  X8_laysBlobs_L7
  (fun σ4 =>
    X8_laysBlobs_L30
    (fun σ12 =>
      X8_laysBlobs_L134
      fuel (0 : Int32) σ12
      )
    fuel (0 : Int32) σ4
    )
  fuel (0 : Int32) σ1

set_option maxRecDepth 20000 in
theorem sX8_laysBlobs_L7 {g : GG} {r : SS}  {k28 : SS → Option SS} 
    (hk28 : ∀ (σ_ : SS), k28 σ_ = some r → WT σ_ → RR g mX8_laysBlobs (FinR g mX8_laysBlobs none NF r) zF 28 [(0, .ref (ad g 73))] [] σ_)
    (n : Nat) : ∀ (v1_ : Int32) (σ_ : SS), X8_laysBlobs_L7 k28 n v1_ σ_ = some r → WT σ_ → RR g mX8_laysBlobs (FinR g mX8_laysBlobs none NF r) zF 7 [(0, .ref (ad g 73)), (1, .int v1_)] [] σ_ := by
  unfold X8_laysBlobs_L7
  refine lp_ind (P := fun (rec : Int32 → SS → Option SS) => ∀ (v1_ : Int32) (σ_ : SS), rec v1_ σ_ = some r → WT σ_ → RR g mX8_laysBlobs (FinR g mX8_laysBlobs none NF r) zF 7 [(0, .ref (ad g 73)), (1, .int v1_)] [] σ_) ?_ ?_ n
  · intro v1_ σ_ hr; cases hr
  intro rec ih v1_ σ_ hr hw_
  refine r_iload_n (pc := 7) (j := 1) dX8_laysBlobs_7 rfl rfl ?_
  refine r_aload_n (pc := 8) (j := 0) dX8_laysBlobs_8 rfl rfl ?_
  refine kX8_all (pc := 9) (hf := rfl) tw_6_215 ⟨nle rfl, nle rfl⟩ (nle rfl) dX8_laysBlobs_9 ?_
  refine r_icmp_ge (pc := 12) (tgt := 28) dX8_laysBlobs_12 rfl (fun hc => ?_) (fun hc => ?_)
  · replace hr := ite_t hc hr
    exact r_pick (ls1 := [(0, .ref (ad g 73))]) [0] rfl (hk28 σ_ hr hw_)
  replace hr := ite_f hc hr
  refine r_aload_n (pc := 15) (j := 0) dX8_laysBlobs_15 rfl rfl ?_
  refine gf8_33 (pc := 16) tw_5_127 hw_ dX8_laysBlobs_16 ?_
  refine r_iload_n (pc := 19) (j := 1) dX8_laysBlobs_19 rfl rfl ?_
  refine r_iconst (pc := 20) (v := (-1 : Int32)) dX8_laysBlobs_20 rfl ?_
  obtain ⟨h2, hr⟩ := grd_inv hr
  refine x_iast (pc := 21) (j := (Int32.toNatClampNeg v1_)) rfl h2 rfl dX8_laysBlobs_21 fun σ3 eσ3 => ?_
  replace hr := vthen_inv hr σ3 eσ3
  have hσ3 := wtI eσ3 hw_
  refine r_iinc (pc := 22) (j := 1) (v := (v1_ + (1 : Int32))) (ls1 := [(1, .int (v1_ + (1 : Int32))), (0, .ref (ad g 73))]) dX8_laysBlobs_22 rfl rfl (nle rfl) rfl ?_
  refine r_goto (pc := 25) (tgt := 7) dX8_laysBlobs_25 rfl ?_
  exact r_pick (ls1 := [(0, .ref (ad g 73)), (1, .int (v1_ + (1 : Int32)))]) [1, 0] rfl (ih (v1_ + (1 : Int32)) σ3 hr hσ3)

set_option maxRecDepth 20000 in
theorem sX8_laysBlobs_L99 {g : GG} {r : SS} {x1_ : Int32} {k126 : SS → Option SS} 
    (hk126 : ∀ (σ_ : SS), k126 σ_ = some r → WT σ_ → RR g mX8_laysBlobs (FinR g mX8_laysBlobs none NF r) zF 126 [(0, .ref (ad g 73)), (1, .int x1_)] [] σ_)
    (n : Nat) : ∀ (v2_ : Int32) (σ_ : SS), X8_laysBlobs_L99 k126 n v2_ σ_ = some r → WT σ_ → RR g mX8_laysBlobs (FinR g mX8_laysBlobs none NF r) zF 99 [(0, .ref (ad g 73)), (1, .int x1_), (2, .int v2_)] [] σ_ := by
  unfold X8_laysBlobs_L99
  refine lp_ind (P := fun (rec : Int32 → SS → Option SS) => ∀ (v2_ : Int32) (σ_ : SS), rec v2_ σ_ = some r → WT σ_ → RR g mX8_laysBlobs (FinR g mX8_laysBlobs none NF r) zF 99 [(0, .ref (ad g 73)), (1, .int x1_), (2, .int v2_)] [] σ_) ?_ ?_ n
  · intro v2_ σ_ hr; cases hr
  intro rec ih v2_ σ_ hr hw_
  refine r_iload_n (pc := 99) (j := 2) dX8_laysBlobs_99 rfl rfl ?_
  refine r_aload_n (pc := 100) (j := 0) dX8_laysBlobs_100 rfl rfl ?_
  refine gf8_44 (pc := 101) tw_5_138 rfl dX8_laysBlobs_101 ?_
  refine r_icmp_ge (pc := 104) (tgt := 126) dX8_laysBlobs_104 rfl (fun hc => ?_) (fun hc => ?_)
  · replace hr := ite_t hc hr
    exact r_pick (ls1 := [(0, .ref (ad g 73)), (1, .int x1_)]) [0, 1] rfl (hk126 σ_ hr hw_)
  replace hr := ite_f hc hr
  refine r_aload_n (pc := 107) (j := 0) dX8_laysBlobs_107 rfl rfl ?_
  refine gf8_33 (pc := 108) tw_5_127 hw_ dX8_laysBlobs_108 ?_
  refine r_aload_n (pc := 111) (j := 0) dX8_laysBlobs_111 rfl rfl ?_
  refine gf8_34 (pc := 112) tw_5_128 hw_ dX8_laysBlobs_112 ?_
  refine r_iload_n (pc := 115) (j := 2) dX8_laysBlobs_115 rfl rfl ?_
  obtain ⟨h7, hr⟩ := grd_inv hr
  refine x_iald (pc := 116) (k := (Int32.toNatClampNeg v2_)) rfl h7 rfl dX8_laysBlobs_116 ?_
  refine r_bipush (pc := 117) (v := (-2 : Int32)) dX8_laysBlobs_117 rfl ?_
  obtain ⟨h8, hr⟩ := grd_inv hr
  refine x_iast (pc := 119) (j := (Int32.toNatClampNeg (gI σ_ 93 (Int32.toNatClampNeg v2_)))) rfl h8 rfl dX8_laysBlobs_119 fun σ9 eσ9 => ?_
  replace hr := vthen_inv hr σ9 eσ9
  have hσ9 := wtI eσ9 hw_
  refine r_iinc (pc := 120) (j := 2) (v := (v2_ + (1 : Int32))) (ls1 := [(2, .int (v2_ + (1 : Int32))), (0, .ref (ad g 73)), (1, .int x1_)]) dX8_laysBlobs_120 rfl rfl (nle rfl) rfl ?_
  refine r_goto (pc := 123) (tgt := 99) dX8_laysBlobs_123 rfl ?_
  exact r_pick (ls1 := [(0, .ref (ad g 73)), (1, .int x1_), (2, .int (v2_ + (1 : Int32)))]) [1, 2, 0] rfl (ih (v2_ + (1 : Int32)) σ9 hr hσ9)

set_option maxRecDepth 20000 in
theorem sX8_laysBlobs_L30 {g : GG} {r : SS}  {k132 : SS → Option SS} 
    (hk132 : ∀ (σ_ : SS), k132 σ_ = some r → WT σ_ → RR g mX8_laysBlobs (FinR g mX8_laysBlobs none NF r) zF 132 [(0, .ref (ad g 73))] [] σ_)
    (n : Nat) : ∀ (v1_ : Int32) (σ_ : SS), X8_laysBlobs_L30 k132 n v1_ σ_ = some r → WT σ_ → RR g mX8_laysBlobs (FinR g mX8_laysBlobs none NF r) zF 30 [(0, .ref (ad g 73)), (1, .int v1_)] [] σ_ := by
  unfold X8_laysBlobs_L30
  refine lp_ind (P := fun (rec : Int32 → SS → Option SS) => ∀ (v1_ : Int32) (σ_ : SS), rec v1_ σ_ = some r → WT σ_ → RR g mX8_laysBlobs (FinR g mX8_laysBlobs none NF r) zF 30 [(0, .ref (ad g 73)), (1, .int v1_)] [] σ_) ?_ ?_ n
  · intro v1_ σ_ hr; cases hr
  intro rec ih v1_ σ_ hr hw_
  refine r_iload_n (pc := 30) (j := 1) dX8_laysBlobs_30 rfl rfl ?_
  refine r_aload_n (pc := 31) (j := 0) dX8_laysBlobs_31 rfl rfl ?_
  refine kX8_all (pc := 32) (hf := rfl) tw_6_215 ⟨nle rfl, nle rfl⟩ (nle rfl) dX8_laysBlobs_32 ?_
  refine r_icmp_ge (pc := 35) (tgt := 132) dX8_laysBlobs_35 rfl (fun hc => ?_) (fun hc => ?_)
  · replace hr := ite_t hc hr
    exact r_pick (ls1 := [(0, .ref (ad g 73))]) [0] rfl (hk132 σ_ hr hw_)
  replace hr := ite_f hc hr
  refine r_aload_n (pc := 38) (j := 0) dX8_laysBlobs_38 rfl rfl ?_
  refine gf8_21 (pc := 39) tw_5_115 hw_ dX8_laysBlobs_39 ?_
  refine r_iload_n (pc := 42) (j := 1) dX8_laysBlobs_42 rfl rfl ?_
  obtain ⟨h5, hr⟩ := grd_inv hr
  refine x_iald (pc := 43) (k := (Int32.toNatClampNeg v1_)) rfl h5 rfl dX8_laysBlobs_43 ?_
  refine r_aload_n (pc := 44) (j := 0) dX8_laysBlobs_44 rfl rfl ?_
  refine gf8_26 (pc := 45) tw_5_120 hw_ dX8_laysBlobs_45 ?_
  refine r_iconst (pc := 48) (v := (0 : Int32)) dX8_laysBlobs_48 rfl ?_
  refine x_iald (pc := 49) (k := 0) rfl (by decide) rfl dX8_laysBlobs_49 ?_
  refine r_icmp_lt (pc := 50) (tgt := 126) dX8_laysBlobs_50 rfl (fun hc => ?_) (fun hc => ?_)
  · replace hr := ite_t hc hr
    refine r_iinc (pc := 126) (j := 1) (v := (v1_ + (1 : Int32))) (ls1 := [(1, .int (v1_ + (1 : Int32))), (0, .ref (ad g 73))]) dX8_laysBlobs_126 rfl rfl (nle rfl) rfl ?_
    refine r_goto (pc := 129) (tgt := 30) dX8_laysBlobs_129 rfl ?_
    exact r_pick (ls1 := [(0, .ref (ad g 73)), (1, .int (v1_ + (1 : Int32)))]) [1, 0] rfl (ih (v1_ + (1 : Int32)) σ_ hr hw_)
  replace hr := ite_f hc hr
  refine r_aload_n (pc := 53) (j := 0) dX8_laysBlobs_53 rfl rfl ?_
  refine gf8_33 (pc := 54) tw_5_127 hw_ dX8_laysBlobs_54 ?_
  refine r_iload_n (pc := 57) (j := 1) dX8_laysBlobs_57 rfl rfl ?_
  refine x_iald (pc := 58) (k := (Int32.toNatClampNeg v1_)) rfl h5 rfl dX8_laysBlobs_58 ?_
  refine r_iconst (pc := 59) (v := (-1 : Int32)) dX8_laysBlobs_59 rfl ?_
  refine r_icmp_eq (pc := 60) (tgt := 66) dX8_laysBlobs_60 rfl (fun hc => ?_) (fun hc => ?_)
  · replace hr := ite_t hc hr
    refine r_aload_n (pc := 66) (j := 0) dX8_laysBlobs_66 rfl rfl ?_
    refine r_iload_n (pc := 67) (j := 1) dX8_laysBlobs_67 rfl rfl ?_
    obtain ⟨σ6, eσ6, hr⟩ := bnd1_inv hr
    refine kX8_laysBlob (pc := 68) eσ6 tw_6_235 ⟨nle rfl, nle rfl⟩ (nle rfl) dX8_laysBlobs_68 fun hσ6 => ?_
    refine r_aload_n (pc := 71) (j := 0) dX8_laysBlobs_71 rfl rfl ?_
    refine gf8_44 (pc := 72) tw_5_138 rfl dX8_laysBlobs_72 ?_
    refine r_aload_n (pc := 75) (j := 0) dX8_laysBlobs_75 rfl rfl ?_
    refine gf8_26 (pc := 76) tw_5_120 hσ6 dX8_laysBlobs_76 ?_
    refine r_iconst (pc := 79) (v := (1 : Int32)) dX8_laysBlobs_79 rfl ?_
    refine x_iald (pc := 80) (k := 1) rfl (by decide) rfl dX8_laysBlobs_80 ?_
    refine r_icmp_lt (pc := 81) (tgt := 97) dX8_laysBlobs_81 rfl (fun hc => ?_) (fun hc => ?_)
    · replace hr := ite_t hc hr
      refine r_iconst (pc := 97) (v := (0 : Int32)) dX8_laysBlobs_97 rfl ?_
      refine r_istore_n (pc := 98) (ls1 := [(2, .int (0 : Int32)), (0, .ref (ad g 73)), (1, .int v1_)]) dX8_laysBlobs_98 rfl (nle rfl) rfl ?_
      refine r_pick (ls1 := [(0, .ref (ad g 73)), (1, .int v1_), (2, .int (0 : Int32))]) [1, 2, 0] rfl ?_
      refine sX8_laysBlobs_L99    (fun σ10 hr hσ10 => ?_) fuel (0 : Int32) σ6 hr hσ6
      refine r_iinc (pc := 126) (j := 1) (v := (v1_ + (1 : Int32))) (ls1 := [(1, .int (v1_ + (1 : Int32))), (0, .ref (ad g 73))]) dX8_laysBlobs_126 rfl rfl (nle rfl) rfl ?_
      refine r_goto (pc := 129) (tgt := 30) dX8_laysBlobs_129 rfl ?_
      exact r_pick (ls1 := [(0, .ref (ad g 73)), (1, .int (v1_ + (1 : Int32)))]) [1, 0] rfl (ih (v1_ + (1 : Int32)) σ10 hr hσ10)
    replace hr := ite_f hc hr
    refine r_aload_n (pc := 84) (j := 0) dX8_laysBlobs_84 rfl rfl ?_
    refine r_aload_n (pc := 85) (j := 0) dX8_laysBlobs_85 rfl rfl ?_
    refine gf8_43 (pc := 86) tw_5_137 rfl dX8_laysBlobs_86 ?_
    refine r_iconst (pc := 89) (v := (1 : Int32)) dX8_laysBlobs_89 rfl ?_
    refine r_iadd (pc := 90) dX8_laysBlobs_90 ?_
    refine pf8_43 (pc := 91) tw_5_137 rfl dX8_laysBlobs_91 fun σ11 eσ11 => ?_
    replace hr := vthen_inv hr σ11 eσ11
    have hσ11 := wtI eσ11 hσ6
    refine r_goto (pc := 94) (tgt := 126) dX8_laysBlobs_94 rfl ?_
    refine r_iinc (pc := 126) (j := 1) (v := (v1_ + (1 : Int32))) (ls1 := [(1, .int (v1_ + (1 : Int32))), (0, .ref (ad g 73))]) dX8_laysBlobs_126 rfl rfl (nle rfl) rfl ?_
    refine r_goto (pc := 129) (tgt := 30) dX8_laysBlobs_129 rfl ?_
    exact r_pick (ls1 := [(0, .ref (ad g 73)), (1, .int (v1_ + (1 : Int32)))]) [1, 0] rfl (ih (v1_ + (1 : Int32)) σ11 hr hσ11)
  replace hr := ite_f hc hr
  refine r_goto (pc := 63) (tgt := 126) dX8_laysBlobs_63 rfl ?_
  refine r_iinc (pc := 126) (j := 1) (v := (v1_ + (1 : Int32))) (ls1 := [(1, .int (v1_ + (1 : Int32))), (0, .ref (ad g 73))]) dX8_laysBlobs_126 rfl rfl (nle rfl) rfl ?_
  refine r_goto (pc := 129) (tgt := 30) dX8_laysBlobs_129 rfl ?_
  exact r_pick (ls1 := [(0, .ref (ad g 73)), (1, .int (v1_ + (1 : Int32)))]) [1, 0] rfl (ih (v1_ + (1 : Int32)) σ_ hr hw_)

set_option maxRecDepth 20000 in
theorem sX8_laysBlobs_L134 {g : GG} {r : SS}   
    (n : Nat) : ∀ (v1_ : Int32) (σ_ : SS), X8_laysBlobs_L134 n v1_ σ_ = some r → WT σ_ → RR g mX8_laysBlobs (FinR g mX8_laysBlobs none NF r) zF 134 [(0, .ref (ad g 73)), (1, .int v1_)] [] σ_ := by
  unfold X8_laysBlobs_L134
  refine lp_ind (P := fun (rec : Int32 → SS → Option SS) => ∀ (v1_ : Int32) (σ_ : SS), rec v1_ σ_ = some r → WT σ_ → RR g mX8_laysBlobs (FinR g mX8_laysBlobs none NF r) zF 134 [(0, .ref (ad g 73)), (1, .int v1_)] [] σ_) ?_ ?_ n
  · intro v1_ σ_ hr; cases hr
  intro rec ih v1_ σ_ hr hw_
  refine r_iload_n (pc := 134) (j := 1) dX8_laysBlobs_134 rfl rfl ?_
  refine r_aload_n (pc := 135) (j := 0) dX8_laysBlobs_135 rfl rfl ?_
  refine kX8_all (pc := 136) (hf := rfl) tw_6_215 ⟨nle rfl, nle rfl⟩ (nle rfl) dX8_laysBlobs_136 ?_
  refine r_icmp_ge (pc := 139) (tgt := 173) dX8_laysBlobs_139 rfl (fun hc => ?_) (fun hc => ?_)
  · replace hr := ite_t hc hr
    exact l_ov hr (r_vret (pc := 173) rfl rfl ⟨Nat.le_refl _, Nat.le_refl _⟩ dX8_laysBlobs_173)
  replace hr := ite_f hc hr
  refine r_aload_n (pc := 142) (j := 0) dX8_laysBlobs_142 rfl rfl ?_
  refine gf8_33 (pc := 143) tw_5_127 hw_ dX8_laysBlobs_143 ?_
  refine r_iload_n (pc := 146) (j := 1) dX8_laysBlobs_146 rfl rfl ?_
  refine r_aload_n (pc := 147) (j := 0) dX8_laysBlobs_147 rfl rfl ?_
  refine gf8_33 (pc := 148) tw_5_127 hw_ dX8_laysBlobs_148 ?_
  refine r_iload_n (pc := 151) (j := 1) dX8_laysBlobs_151 rfl rfl ?_
  obtain ⟨h13, hr⟩ := grd_inv hr
  refine x_iald (pc := 152) (k := (Int32.toNatClampNeg v1_)) rfl h13 rfl dX8_laysBlobs_152 ?_
  obtain ⟨j166, ej166, hr⟩ := vth_ex hr
  have hj166 : ∀ (s14 : Int32), j166 s14 = some r → RR g mX8_laysBlobs (FinR g mX8_laysBlobs none NF r) zF 166 [(0, .ref (ad g 73)), (1, .int v1_)] [.int s14, .int v1_, .ref (ad g 92)] σ_ := by
    intro s14 hr
    replace hr := (congrFun ej166 s14).symm.trans hr
    refine x_iast (pc := 166) (j := (Int32.toNatClampNeg v1_)) rfl h13 rfl dX8_laysBlobs_166 fun σ15 eσ15 => ?_
    replace hr := vthen_inv hr σ15 eσ15
    have hσ15 := wtI eσ15 hw_
    refine r_iinc (pc := 167) (j := 1) (v := (v1_ + (1 : Int32))) (ls1 := [(1, .int (v1_ + (1 : Int32))), (0, .ref (ad g 73))]) dX8_laysBlobs_167 rfl rfl (nle rfl) rfl ?_
    refine r_goto (pc := 170) (tgt := 134) dX8_laysBlobs_170 rfl ?_
    exact r_pick (ls1 := [(0, .ref (ad g 73)), (1, .int (v1_ + (1 : Int32)))]) [1, 0] rfl (ih (v1_ + (1 : Int32)) σ15 hr hσ15)
  refine r_if_ge (pc := 153) (tgt := 160) dX8_laysBlobs_153 rfl (fun hc => ?_) (fun hc => ?_)
  · replace hr := ite_t hc hr
    refine r_aload_n (pc := 160) (j := 0) dX8_laysBlobs_160 rfl rfl ?_
    refine gf8_33 (pc := 161) tw_5_127 hw_ dX8_laysBlobs_161 ?_
    refine r_iload_n (pc := 164) (j := 1) dX8_laysBlobs_164 rfl rfl ?_
    refine x_iald (pc := 165) (k := (Int32.toNatClampNeg v1_)) rfl h13 rfl dX8_laysBlobs_165 ?_
    exact r_pick (ls1 := [(0, .ref (ad g 73)), (1, .int v1_)]) [0, 1] rfl (hj166 (gI σ_ 92 (Int32.toNatClampNeg v1_)) hr)
  replace hr := ite_f hc hr
  refine r_iconst (pc := 156) (v := (-1 : Int32)) dX8_laysBlobs_156 rfl ?_
  refine r_goto (pc := 157) (tgt := 166) dX8_laysBlobs_157 rfl ?_
  exact r_pick (ls1 := [(0, .ref (ad g 73)), (1, .int v1_)]) [0, 1] rfl (hj166 (-1 : Int32) hr)

set_option maxRecDepth 20000 in
theorem sX8_laysBlobs {g : GG} {σ : SS}  {r : SS} (hr : fX8_laysBlobs σ = some r)  : Ct g mX8_laysBlobs [.ref (ad g 73)] NF σ none NF r := by
  refine Ct.of (by decide +kernel) (nle rfl) fun hw0 => ?_
  have hw := hw0 rfl
  unfold fX8_laysBlobs at hr
  change RR g mX8_laysBlobs (FinR g mX8_laysBlobs none NF r) zF 0 [(0, .ref (ad g 73))] [] σ
  refine r_aload_n (pc := 0) (j := 0) dX8_laysBlobs_0 rfl rfl ?_
  refine r_iconst (pc := 1) (v := (0 : Int32)) dX8_laysBlobs_1 rfl ?_
  refine pf8_43 (pc := 2) tw_5_137 rfl dX8_laysBlobs_2 fun σ1 eσ1 => ?_
  replace hr := vthen_inv hr σ1 eσ1
  have hσ1 := wtI eσ1 hw
  refine r_iconst (pc := 5) (v := (0 : Int32)) dX8_laysBlobs_5 rfl ?_
  refine r_istore_n (pc := 6) (ls1 := [(1, .int (0 : Int32)), (0, .ref (ad g 73))]) dX8_laysBlobs_6 rfl (nle rfl) rfl ?_
  refine r_pick (ls1 := [(0, .ref (ad g 73)), (1, .int (0 : Int32))]) [1, 0] rfl ?_
  refine sX8_laysBlobs_L7    (fun σ4 hr hσ4 => ?_) fuel (0 : Int32) σ1 hr hσ1
  refine r_iconst (pc := 28) (v := (0 : Int32)) dX8_laysBlobs_28 rfl ?_
  refine r_istore_n (pc := 29) (ls1 := [(1, .int (0 : Int32)), (0, .ref (ad g 73))]) dX8_laysBlobs_29 rfl (nle rfl) rfl ?_
  refine r_pick (ls1 := [(0, .ref (ad g 73)), (1, .int (0 : Int32))]) [1, 0] rfl ?_
  refine sX8_laysBlobs_L30    (fun σ12 hr hσ12 => ?_) fuel (0 : Int32) σ4 hr hσ4
  refine r_iconst (pc := 132) (v := (0 : Int32)) dX8_laysBlobs_132 rfl ?_
  refine r_istore_n (pc := 133) (ls1 := [(1, .int (0 : Int32)), (0, .ref (ad g 73))]) dX8_laysBlobs_133 rfl (nle rfl) rfl ?_
  refine r_pick (ls1 := [(0, .ref (ad g 73)), (1, .int (0 : Int32))]) [1, 0] rfl ?_
  refine sX8_laysBlobs_L134     fuel (0 : Int32) σ12 hr hσ12

theorem kX8_laysBlobs {g : GG} {σ : SS}  {σ2 : SS} {M : MM} {F : State → Array Value → List Frame → State → Prop} {pc index : Nat} {ls : List (Nat × Value)} {rest : List Value} (hf : fX8_laysBlobs σ = some σ2)  (hl : Cond.methodLink M.1.cls index yX8_laysBlobs ∈ lw_gt) (hR : mX8_laysBlobs.2.2.2.2.frames + 1 ≤ M.2.2.2.2.frames ∧ 8 + (mX8_laysBlobs.2.2.1 + 11) + mX8_laysBlobs.2.2.2.2.locals ≤ M.2.2.2.2.locals) (hrest : (rest.map fun v => v.category).sum ≤ 8) (hd : decode M.2.1 pc = .ok (.invokevirtual index, 3)) (k : WT σ2 → RR g M F zF (pc + 3) ls rest σ2) : RR g M F zF pc ls (.ref (ad g 73) :: rest) σ :=
  r_callV (z := zF) (N := mX8_laysBlobs) (nn := 0) (o1 := none) (sX8_laysBlobs hf ) (rfl : shp 73 = (8, 0)) (by decide) (shp_le (rfl : shp 73 = (8, 0)) (nle rfl)) (ci := 8) rfl rfl tw_6_234 tw_1_10 hl tw_6_233 tp_58 ⟨by decide, by decide, rfl⟩ hR rfl hrest hd ⟨Nat.zero_le _, Nat.zero_le _⟩ rfl (fun h => k (h rfl))

theorem dX8_clean_0 : decode cX8_clean 0 = .ok (.aload_n 0, 1) := by decide +kernel
theorem dX8_clean_1 : decode cX8_clean 1 = .ok (.invokevirtual 298, 3) := by decide +kernel
theorem dX8_clean_4 : decode cX8_clean 4 = .ok (.iconst 0, 1) := by decide +kernel
theorem dX8_clean_5 : decode cX8_clean 5 = .ok (.istore_n 1, 1) := by decide +kernel
theorem dX8_clean_6 : decode cX8_clean 6 = .ok (.iconst 0, 1) := by decide +kernel
theorem dX8_clean_7 : decode cX8_clean 7 = .ok (.istore_n 2, 1) := by decide +kernel
theorem dX8_clean_8 : decode cX8_clean 8 = .ok (.iload_n 2, 1) := by decide +kernel
theorem dX8_clean_9 : decode cX8_clean 9 = .ok (.aload_n 0, 1) := by decide +kernel
theorem dX8_clean_10 : decode cX8_clean 10 = .ok (.invokevirtual 275, 3) := by decide +kernel
theorem dX8_clean_13 : decode cX8_clean 13 = .ok (.if_icmp .ge 48, 3) := by decide +kernel
theorem dX8_clean_16 : decode cX8_clean 16 = .ok (.aload_n 0, 1) := by decide +kernel
theorem dX8_clean_17 : decode cX8_clean 17 = .ok (.getfield 38, 3) := by decide +kernel
theorem dX8_clean_20 : decode cX8_clean 20 = .ok (.iload_n 2, 1) := by decide +kernel
theorem dX8_clean_21 : decode cX8_clean 21 = .ok (.iaload, 1) := by decide +kernel
theorem dX8_clean_22 : decode cX8_clean 22 = .ok (.aload_n 0, 1) := by decide +kernel
theorem dX8_clean_23 : decode cX8_clean 23 = .ok (.getfield 53, 3) := by decide +kernel
theorem dX8_clean_26 : decode cX8_clean 26 = .ok (.iconst 0, 1) := by decide +kernel
theorem dX8_clean_27 : decode cX8_clean 27 = .ok (.iaload, 1) := by decide +kernel
theorem dX8_clean_28 : decode cX8_clean 28 = .ok (.if_icmp .lt 27, 3) := by decide +kernel
theorem dX8_clean_31 : decode cX8_clean 31 = .ok (.aload_n 0, 1) := by decide +kernel
theorem dX8_clean_32 : decode cX8_clean 32 = .ok (.getfield 65, 3) := by decide +kernel
theorem dX8_clean_35 : decode cX8_clean 35 = .ok (.iload_n 2, 1) := by decide +kernel
theorem dX8_clean_36 : decode cX8_clean 36 = .ok (.iaload, 1) := by decide +kernel
theorem dX8_clean_37 : decode cX8_clean 37 = .ok (.iconst (-1), 1) := by decide +kernel
theorem dX8_clean_38 : decode cX8_clean 38 = .ok (.if_icmp .eq 6, 3) := by decide +kernel
theorem dX8_clean_41 : decode cX8_clean 41 = .ok (.goto 14, 3) := by decide +kernel
theorem dX8_clean_44 : decode cX8_clean 44 = .ok (.aload_n 0, 1) := by decide +kernel
theorem dX8_clean_45 : decode cX8_clean 45 = .ok (.getfield 38, 3) := by decide +kernel
theorem dX8_clean_48 : decode cX8_clean 48 = .ok (.iload_n 2, 1) := by decide +kernel
theorem dX8_clean_49 : decode cX8_clean 49 = .ok (.iconst 0, 1) := by decide +kernel
theorem dX8_clean_50 : decode cX8_clean 50 = .ok (.iastore, 1) := by decide +kernel
theorem dX8_clean_51 : decode cX8_clean 51 = .ok (.iload_n 1, 1) := by decide +kernel
theorem dX8_clean_52 : decode cX8_clean 52 = .ok (.iconst 1, 1) := by decide +kernel
theorem dX8_clean_53 : decode cX8_clean 53 = .ok (.iadd, 1) := by decide +kernel
theorem dX8_clean_54 : decode cX8_clean 54 = .ok (.istore_n 1, 1) := by decide +kernel
theorem dX8_clean_55 : decode cX8_clean 55 = .ok (.iinc 2 1, 3) := by decide +kernel
theorem dX8_clean_58 : decode cX8_clean 58 = .ok (.goto (-50), 3) := by decide +kernel
theorem dX8_clean_61 : decode cX8_clean 61 = .ok (.iload_n 1, 1) := by decide +kernel
theorem dX8_clean_62 : decode cX8_clean 62 = .ok (.ireturn, 1) := by decide +kernel
def mX8_clean : MM := (yX8_clean, cX8_clean, 3, Option.some Jvm.ClassFile.FieldType.int, { frames := 5, cells := 0, slots := 0, locals := 113 })
def X8_clean_L8   : Nat → Int32 → Int32 → SS → Option (Int32 × SS) :=
  lp (fun _ _ _ => none) fun rec v1_ v2_ σ_ =>
    if (fX8_all σ_) ≤ v2_ then (
      some (v1_, σ_)
      ) else (
      grd (inb v2_ 1600) <|
      if (gI σ_ 83 (Int32.toNatClampNeg v2_)) < (gI σ_ 88 0) then (
        rec v1_ (v2_ + (1 : Int32)) σ_
        ) else (
        if (gI σ_ 92 (Int32.toNatClampNeg v2_)) = (-1 : Int32) then (
          vthen (sI σ_ 83 (Int32.toNatClampNeg v2_) (0 : Int32)) fun σ3 =>
          vthen (v1_ + (1 : Int32)) fun v4 =>
          rec v4 (v2_ + (1 : Int32)) σ3
          ) else (
          rec v1_ (v2_ + (1 : Int32)) σ_
          )
        )
      )

def fX8_clean (σ : SS)  : Option (Int32 × SS) :=
  bnd1 (fX8_laysBlobs σ) fun σ1 =>
  X8_clean_L8
  fuel (0 : Int32) (0 : Int32) σ1

set_option maxRecDepth 20000 in
theorem sX8_clean_L8 {g : GG} {r : Int32 × SS}   
    (n : Nat) : ∀ (v1_ : Int32) (v2_ : Int32) (σ_ : SS), X8_clean_L8 n v1_ v2_ σ_ = some r → WT σ_ → RR g mX8_clean (FinR g mX8_clean (some (.int r.1)) NF r.2) zF 8 [(0, .ref (ad g 73)), (1, .int v1_), (2, .int v2_)] [] σ_ := by
  unfold X8_clean_L8
  refine lp_ind (P := fun (rec : Int32 → Int32 → SS → Option (Int32 × SS)) => ∀ (v1_ : Int32) (v2_ : Int32) (σ_ : SS), rec v1_ v2_ σ_ = some r → WT σ_ → RR g mX8_clean (FinR g mX8_clean (some (.int r.1)) NF r.2) zF 8 [(0, .ref (ad g 73)), (1, .int v1_), (2, .int v2_)] [] σ_) ?_ ?_ n
  · intro v1_ v2_ σ_ hr; cases hr
  intro rec ih v1_ v2_ σ_ hr hw_
  refine r_iload_n (pc := 8) (j := 2) dX8_clean_8 rfl rfl ?_
  refine r_aload_n (pc := 9) (j := 0) dX8_clean_9 rfl rfl ?_
  refine kX8_all (pc := 10) (hf := rfl) tw_6_215 ⟨nle rfl, nle rfl⟩ (nle rfl) dX8_clean_10 ?_
  refine r_icmp_ge (pc := 13) (tgt := 61) dX8_clean_13 rfl (fun hc => ?_) (fun hc => ?_)
  · replace hr := ite_t hc hr
    refine r_iload_n (pc := 61) (j := 1) dX8_clean_61 rfl rfl ?_
    exact l_osi hr (r_iret (pc := 62) (v := v1_) rfl rfl ⟨Nat.le_refl _, Nat.le_refl _⟩ dX8_clean_62)
  replace hr := ite_f hc hr
  refine r_aload_n (pc := 16) (j := 0) dX8_clean_16 rfl rfl ?_
  refine gf8_21 (pc := 17) tw_5_115 hw_ dX8_clean_17 ?_
  refine r_iload_n (pc := 20) (j := 2) dX8_clean_20 rfl rfl ?_
  obtain ⟨h2, hr⟩ := grd_inv hr
  refine x_iald (pc := 21) (k := (Int32.toNatClampNeg v2_)) rfl h2 rfl dX8_clean_21 ?_
  refine r_aload_n (pc := 22) (j := 0) dX8_clean_22 rfl rfl ?_
  refine gf8_26 (pc := 23) tw_5_120 hw_ dX8_clean_23 ?_
  refine r_iconst (pc := 26) (v := (0 : Int32)) dX8_clean_26 rfl ?_
  refine x_iald (pc := 27) (k := 0) rfl (by decide) rfl dX8_clean_27 ?_
  refine r_icmp_lt (pc := 28) (tgt := 55) dX8_clean_28 rfl (fun hc => ?_) (fun hc => ?_)
  · replace hr := ite_t hc hr
    refine r_iinc (pc := 55) (j := 2) (v := (v2_ + (1 : Int32))) (ls1 := [(2, .int (v2_ + (1 : Int32))), (0, .ref (ad g 73)), (1, .int v1_)]) dX8_clean_55 rfl rfl (nle rfl) rfl ?_
    refine r_goto (pc := 58) (tgt := 8) dX8_clean_58 rfl ?_
    exact r_pick (ls1 := [(0, .ref (ad g 73)), (1, .int v1_), (2, .int (v2_ + (1 : Int32)))]) [1, 2, 0] rfl (ih v1_ (v2_ + (1 : Int32)) σ_ hr hw_)
  replace hr := ite_f hc hr
  refine r_aload_n (pc := 31) (j := 0) dX8_clean_31 rfl rfl ?_
  refine gf8_33 (pc := 32) tw_5_127 hw_ dX8_clean_32 ?_
  refine r_iload_n (pc := 35) (j := 2) dX8_clean_35 rfl rfl ?_
  refine x_iald (pc := 36) (k := (Int32.toNatClampNeg v2_)) rfl h2 rfl dX8_clean_36 ?_
  refine r_iconst (pc := 37) (v := (-1 : Int32)) dX8_clean_37 rfl ?_
  refine r_icmp_eq (pc := 38) (tgt := 44) dX8_clean_38 rfl (fun hc => ?_) (fun hc => ?_)
  · replace hr := ite_t hc hr
    refine r_aload_n (pc := 44) (j := 0) dX8_clean_44 rfl rfl ?_
    refine gf8_21 (pc := 45) tw_5_115 hw_ dX8_clean_45 ?_
    refine r_iload_n (pc := 48) (j := 2) dX8_clean_48 rfl rfl ?_
    refine r_iconst (pc := 49) (v := (0 : Int32)) dX8_clean_49 rfl ?_
    refine x_iast (pc := 50) (j := (Int32.toNatClampNeg v2_)) rfl h2 rfl dX8_clean_50 fun σ3 eσ3 => ?_
    replace hr := vthen_inv hr σ3 eσ3
    have hσ3 := wtI eσ3 hw_
    refine r_iload_n (pc := 51) (j := 1) dX8_clean_51 rfl rfl ?_
    refine r_iconst (pc := 52) (v := (1 : Int32)) dX8_clean_52 rfl ?_
    refine r_iadd (pc := 53) dX8_clean_53 ?_
    refine r_topi fun v4 ev4 => ?_
    replace hr := vthen_inv hr v4 ev4
    refine r_istore_n (pc := 54) (ls1 := [(1, .int v4), (0, .ref (ad g 73)), (2, .int v2_)]) dX8_clean_54 rfl (nle rfl) rfl ?_
    refine r_iinc (pc := 55) (j := 2) (v := (v2_ + (1 : Int32))) (ls1 := [(2, .int (v2_ + (1 : Int32))), (1, .int v4), (0, .ref (ad g 73))]) dX8_clean_55 rfl rfl (nle rfl) rfl ?_
    refine r_goto (pc := 58) (tgt := 8) dX8_clean_58 rfl ?_
    exact r_pick (ls1 := [(0, .ref (ad g 73)), (1, .int v4), (2, .int (v2_ + (1 : Int32)))]) [2, 1, 0] rfl (ih v4 (v2_ + (1 : Int32)) σ3 hr hσ3)
  replace hr := ite_f hc hr
  refine r_goto (pc := 41) (tgt := 55) dX8_clean_41 rfl ?_
  refine r_iinc (pc := 55) (j := 2) (v := (v2_ + (1 : Int32))) (ls1 := [(2, .int (v2_ + (1 : Int32))), (0, .ref (ad g 73)), (1, .int v1_)]) dX8_clean_55 rfl rfl (nle rfl) rfl ?_
  refine r_goto (pc := 58) (tgt := 8) dX8_clean_58 rfl ?_
  exact r_pick (ls1 := [(0, .ref (ad g 73)), (1, .int v1_), (2, .int (v2_ + (1 : Int32)))]) [1, 2, 0] rfl (ih v1_ (v2_ + (1 : Int32)) σ_ hr hw_)

set_option maxRecDepth 20000 in
theorem sX8_clean {g : GG} {σ : SS}  {r : Int32 × SS} (hr : fX8_clean σ = some r)  : Ct g mX8_clean [.ref (ad g 73)] NF σ (some (.int r.1)) NF r.2 := by
  refine Ct.of (by decide +kernel) (nle rfl) fun hw0 => ?_
  have hw := hw0 rfl
  unfold fX8_clean at hr
  change RR g mX8_clean (FinR g mX8_clean (some (.int r.1)) NF r.2) zF 0 [(0, .ref (ad g 73))] [] σ
  refine r_aload_n (pc := 0) (j := 0) dX8_clean_0 rfl rfl ?_
  obtain ⟨σ1, eσ1, hr⟩ := bnd1_inv hr
  refine kX8_laysBlobs (pc := 1) eσ1 tw_6_231 ⟨nle rfl, nle rfl⟩ (nle rfl) dX8_clean_1 fun hσ1 => ?_
  refine r_iconst (pc := 4) (v := (0 : Int32)) dX8_clean_4 rfl ?_
  refine r_istore_n (pc := 5) (ls1 := [(1, .int (0 : Int32)), (0, .ref (ad g 73))]) dX8_clean_5 rfl (nle rfl) rfl ?_
  refine r_iconst (pc := 6) (v := (0 : Int32)) dX8_clean_6 rfl ?_
  refine r_istore_n (pc := 7) (ls1 := [(2, .int (0 : Int32)), (1, .int (0 : Int32)), (0, .ref (ad g 73))]) dX8_clean_7 rfl (nle rfl) rfl ?_
  refine r_pick (ls1 := [(0, .ref (ad g 73)), (1, .int (0 : Int32)), (2, .int (0 : Int32))]) [2, 1, 0] rfl ?_
  refine sX8_clean_L8     fuel (0 : Int32) (0 : Int32) σ1 hr hσ1

theorem kX8_clean {g : GG} {σ : SS}  {v : Int32} {σ2 : SS} {M : MM} {F : State → Array Value → List Frame → State → Prop} {pc index : Nat} {ls : List (Nat × Value)} {rest : List Value} (hf : fX8_clean σ = some (v, σ2))  (hl : Cond.methodLink M.1.cls index yX8_clean ∈ lw_gt) (hR : mX8_clean.2.2.2.2.frames + 1 ≤ M.2.2.2.2.frames ∧ 8 + (mX8_clean.2.2.1 + 11) + mX8_clean.2.2.2.2.locals ≤ M.2.2.2.2.locals) (hrest : (rest.map fun v => v.category).sum ≤ 8) (hd : decode M.2.1 pc = .ok (.invokevirtual index, 3)) (k : WT σ2 → RR g M F zF (pc + 3) ls (.int v :: rest) σ2) : RR g M F zF pc ls (.ref (ad g 73) :: rest) σ :=
  r_callV (z := zF) (N := mX8_clean) (nn := 0) (o1 := some (.int v)) (sX8_clean hf ) (rfl : shp 73 = (8, 0)) (by decide) (shp_le (rfl : shp 73 = (8, 0)) (nle rfl)) (ci := 8) rfl rfl tw_6_230 tw_1_10 hl tw_6_228 tw_6_229 ⟨by decide, by decide, rfl⟩ hR rfl hrest hd ⟨Nat.zero_le _, Nat.zero_le _⟩ rfl (fun h => k (h rfl))

theorem dX6_middleRound_0 : decode cX6_middleRound 0 = .ok (.aload_n 0, 1) := by decide +kernel
theorem dX6_middleRound_1 : decode cX6_middleRound 1 = .ok (.getfield 15, 3) := by decide +kernel
theorem dX6_middleRound_4 : decode cX6_middleRound 4 = .ok (.iconst 0, 1) := by decide +kernel
theorem dX6_middleRound_5 : decode cX6_middleRound 5 = .ok (.invokestatic 25, 3) := by decide +kernel
theorem dX6_middleRound_8 : decode cX6_middleRound 8 = .ok (.iconst 0, 1) := by decide +kernel
theorem dX6_middleRound_9 : decode cX6_middleRound 9 = .ok (.istore_n 3, 1) := by decide +kernel
theorem dX6_middleRound_10 : decode cX6_middleRound 10 = .ok (.iload_n 2, 1) := by decide +kernel
theorem dX6_middleRound_11 : decode cX6_middleRound 11 = .ok (.iconst 1, 1) := by decide +kernel
theorem dX6_middleRound_12 : decode cX6_middleRound 12 = .ok (.isub, 1) := by decide +kernel
theorem dX6_middleRound_13 : decode cX6_middleRound 13 = .ok (.iconst 0, 1) := by decide +kernel
theorem dX6_middleRound_14 : decode cX6_middleRound 14 = .ok (.invokestatic 58, 3) := by decide +kernel
theorem dX6_middleRound_17 : decode cX6_middleRound 17 = .ok (.istore 4, 2) := by decide +kernel
theorem dX6_middleRound_19 : decode cX6_middleRound 19 = .ok (.iload 4, 2) := by decide +kernel
theorem dX6_middleRound_21 : decode cX6_middleRound 21 = .ok (.iload_n 2, 1) := by decide +kernel
theorem dX6_middleRound_22 : decode cX6_middleRound 22 = .ok (.iconst 1, 1) := by decide +kernel
theorem dX6_middleRound_23 : decode cX6_middleRound 23 = .ok (.iadd, 1) := by decide +kernel
theorem dX6_middleRound_24 : decode cX6_middleRound 24 = .ok (.if_icmp .gt 86, 3) := by decide +kernel
theorem dX6_middleRound_27 : decode cX6_middleRound 27 = .ok (.iload 4, 2) := by decide +kernel
theorem dX6_middleRound_29 : decode cX6_middleRound 29 = .ok (.aload_n 0, 1) := by decide +kernel
theorem dX6_middleRound_30 : decode cX6_middleRound 30 = .ok (.getfield 22, 3) := by decide +kernel
theorem dX6_middleRound_33 : decode cX6_middleRound 33 = .ok (.if_icmp .ge 77, 3) := by decide +kernel
theorem dX6_middleRound_36 : decode cX6_middleRound 36 = .ok (.iload_n 1, 1) := by decide +kernel
theorem dX6_middleRound_37 : decode cX6_middleRound 37 = .ok (.iconst 1, 1) := by decide +kernel
theorem dX6_middleRound_38 : decode cX6_middleRound 38 = .ok (.isub, 1) := by decide +kernel
theorem dX6_middleRound_39 : decode cX6_middleRound 39 = .ok (.iconst 0, 1) := by decide +kernel
theorem dX6_middleRound_40 : decode cX6_middleRound 40 = .ok (.invokestatic 58, 3) := by decide +kernel
theorem dX6_middleRound_43 : decode cX6_middleRound 43 = .ok (.istore 5, 2) := by decide +kernel
theorem dX6_middleRound_45 : decode cX6_middleRound 45 = .ok (.iload 5, 2) := by decide +kernel
theorem dX6_middleRound_47 : decode cX6_middleRound 47 = .ok (.iload_n 1, 1) := by decide +kernel
theorem dX6_middleRound_48 : decode cX6_middleRound 48 = .ok (.iconst 1, 1) := by decide +kernel
theorem dX6_middleRound_49 : decode cX6_middleRound 49 = .ok (.iadd, 1) := by decide +kernel
theorem dX6_middleRound_50 : decode cX6_middleRound 50 = .ok (.if_icmp .gt 54, 3) := by decide +kernel
theorem dX6_middleRound_53 : decode cX6_middleRound 53 = .ok (.iload 5, 2) := by decide +kernel
theorem dX6_middleRound_55 : decode cX6_middleRound 55 = .ok (.aload_n 0, 1) := by decide +kernel
theorem dX6_middleRound_56 : decode cX6_middleRound 56 = .ok (.getfield 18, 3) := by decide +kernel
theorem dX6_middleRound_59 : decode cX6_middleRound 59 = .ok (.if_icmp .ge 45, 3) := by decide +kernel
theorem dX6_middleRound_62 : decode cX6_middleRound 62 = .ok (.aload_n 0, 1) := by decide +kernel
theorem dX6_middleRound_63 : decode cX6_middleRound 63 = .ok (.iload 5, 2) := by decide +kernel
theorem dX6_middleRound_65 : decode cX6_middleRound 65 = .ok (.iload 4, 2) := by decide +kernel
theorem dX6_middleRound_67 : decode cX6_middleRound 67 = .ok (.invokevirtual 45, 3) := by decide +kernel
theorem dX6_middleRound_70 : decode cX6_middleRound 70 = .ok (.istore 6, 2) := by decide +kernel
theorem dX6_middleRound_72 : decode cX6_middleRound 72 = .ok (.iload 6, 2) := by decide +kernel
theorem dX6_middleRound_74 : decode cX6_middleRound 74 = .ok (.ifCond .lt 24, 3) := by decide +kernel
theorem dX6_middleRound_77 : decode cX6_middleRound 77 = .ok (.iload 6, 2) := by decide +kernel
theorem dX6_middleRound_79 : decode cX6_middleRound 79 = .ok (.bipush 9, 2) := by decide +kernel
theorem dX6_middleRound_81 : decode cX6_middleRound 81 = .ok (.if_icmp .gt 17, 3) := by decide +kernel
theorem dX6_middleRound_84 : decode cX6_middleRound 84 = .ok (.aload_n 0, 1) := by decide +kernel
theorem dX6_middleRound_85 : decode cX6_middleRound 85 = .ok (.getfield 15, 3) := by decide +kernel
theorem dX6_middleRound_88 : decode cX6_middleRound 88 = .ok (.iload 6, 2) := by decide +kernel
theorem dX6_middleRound_90 : decode cX6_middleRound 90 = .ok (.dup2, 1) := by decide +kernel
theorem dX6_middleRound_91 : decode cX6_middleRound 91 = .ok (.iaload, 1) := by decide +kernel
theorem dX6_middleRound_92 : decode cX6_middleRound 92 = .ok (.iconst 1, 1) := by decide +kernel
theorem dX6_middleRound_93 : decode cX6_middleRound 93 = .ok (.iadd, 1) := by decide +kernel
theorem dX6_middleRound_94 : decode cX6_middleRound 94 = .ok (.iastore, 1) := by decide +kernel
theorem dX6_middleRound_95 : decode cX6_middleRound 95 = .ok (.iinc 3 1, 3) := by decide +kernel
theorem dX6_middleRound_98 : decode cX6_middleRound 98 = .ok (.iinc 5 1, 3) := by decide +kernel
theorem dX6_middleRound_101 : decode cX6_middleRound 101 = .ok (.goto (-56), 3) := by decide +kernel
theorem dX6_middleRound_104 : decode cX6_middleRound 104 = .ok (.iinc 4 1, 3) := by decide +kernel
theorem dX6_middleRound_107 : decode cX6_middleRound 107 = .ok (.goto (-88), 3) := by decide +kernel
theorem dX6_middleRound_110 : decode cX6_middleRound 110 = .ok (.iconst 0, 1) := by decide +kernel
theorem dX6_middleRound_111 : decode cX6_middleRound 111 = .ok (.istore 4, 2) := by decide +kernel
theorem dX6_middleRound_113 : decode cX6_middleRound 113 = .ok (.iconst 0, 1) := by decide +kernel
theorem dX6_middleRound_114 : decode cX6_middleRound 114 = .ok (.istore 5, 2) := by decide +kernel
theorem dX6_middleRound_116 : decode cX6_middleRound 116 = .ok (.iload 5, 2) := by decide +kernel
theorem dX6_middleRound_118 : decode cX6_middleRound 118 = .ok (.bipush 9, 2) := by decide +kernel
theorem dX6_middleRound_120 : decode cX6_middleRound 120 = .ok (.if_icmp .ge 34, 3) := by decide +kernel
theorem dX6_middleRound_123 : decode cX6_middleRound 123 = .ok (.iload 4, 2) := by decide +kernel
theorem dX6_middleRound_125 : decode cX6_middleRound 125 = .ok (.aload_n 0, 1) := by decide +kernel
theorem dX6_middleRound_126 : decode cX6_middleRound 126 = .ok (.getfield 15, 3) := by decide +kernel
theorem dX6_middleRound_129 : decode cX6_middleRound 129 = .ok (.iload 5, 2) := by decide +kernel
theorem dX6_middleRound_131 : decode cX6_middleRound 131 = .ok (.iaload, 1) := by decide +kernel
theorem dX6_middleRound_132 : decode cX6_middleRound 132 = .ok (.iadd, 1) := by decide +kernel
theorem dX6_middleRound_133 : decode cX6_middleRound 133 = .ok (.istore 4, 2) := by decide +kernel
theorem dX6_middleRound_135 : decode cX6_middleRound 135 = .ok (.iload 4, 2) := by decide +kernel
theorem dX6_middleRound_137 : decode cX6_middleRound 137 = .ok (.iload_n 3, 1) := by decide +kernel
theorem dX6_middleRound_138 : decode cX6_middleRound 138 = .ok (.iconst 1, 1) := by decide +kernel
theorem dX6_middleRound_139 : decode cX6_middleRound 139 = .ok (.isub, 1) := by decide +kernel
theorem dX6_middleRound_140 : decode cX6_middleRound 140 = .ok (.iconst 2, 1) := by decide +kernel
theorem dX6_middleRound_141 : decode cX6_middleRound 141 = .ok (.idiv, 1) := by decide +kernel
theorem dX6_middleRound_142 : decode cX6_middleRound 142 = .ok (.if_icmp .le 6, 3) := by decide +kernel
theorem dX6_middleRound_145 : decode cX6_middleRound 145 = .ok (.iload 5, 2) := by decide +kernel
theorem dX6_middleRound_147 : decode cX6_middleRound 147 = .ok (.ireturn, 1) := by decide +kernel
theorem dX6_middleRound_148 : decode cX6_middleRound 148 = .ok (.iinc 5 1, 3) := by decide +kernel
theorem dX6_middleRound_151 : decode cX6_middleRound 151 = .ok (.goto (-35), 3) := by decide +kernel
theorem dX6_middleRound_154 : decode cX6_middleRound 154 = .ok (.bipush 9, 2) := by decide +kernel
theorem dX6_middleRound_156 : decode cX6_middleRound 156 = .ok (.ireturn, 1) := by decide +kernel
def mX6_middleRound : MM := (yX6_middleRound, cX6_middleRound, 7, Option.some Jvm.ClassFile.FieldType.int, { frames := 2, cells := 0, slots := 0, locals := 44 })
def X6_middleRound_L45 (o0_ : Nat) (u1_ : Int32) (u4_ : Int32) (k104 : Int32 → SS → Option (Int32 × SS)) : Nat → Int32 → Int32 → SS → Option (Int32 × SS) :=
  lp (fun _ _ _ => none) fun rec v3_ v5_ σ_ =>
    if (u1_ + (1 : Int32)) < v5_ then (
      k104 v3_ σ_
      ) else (
      if (gI σ_ o0_ 0) ≤ v5_ then (
        k104 v3_ σ_
        ) else (
        bnd1 (fX6_at σ_ o0_ v5_ u4_) fun v4 =>
        if v4 < 0 then (
          rec v3_ (v5_ + (1 : Int32)) σ_
          ) else (
          if (9 : Int32) < v4 then (
            rec v3_ (v5_ + (1 : Int32)) σ_
            ) else (
            grd (inb v4 10) <|
            vthen (sI σ_ (o0_ + 2) (Int32.toNatClampNeg v4) ((gI σ_ (o0_ + 2) (Int32.toNatClampNeg v4)) + (1 : Int32))) fun σ8 =>
            rec (v3_ + (1 : Int32)) (v5_ + (1 : Int32)) σ8
            )
          )
        )
      )

def X6_middleRound_L19 (o0_ : Nat) (u1_ : Int32) (u2_ : Int32) (k110 : Int32 → SS → Option (Int32 × SS)) : Nat → Int32 → Int32 → SS → Option (Int32 × SS) :=
  lp (fun _ _ _ => none) fun rec v3_ v4_ σ_ =>
    if (u2_ + (1 : Int32)) < v4_ then (
      k110 v3_ σ_
      ) else (
      if (gI σ_ o0_ 1) ≤ v4_ then (
        k110 v3_ σ_
        ) else (
        vthen (fJ9_max_7cf53 σ_ (u1_ - (1 : Int32)) (0 : Int32)) fun v3 =>
        X6_middleRound_L45 o0_ u1_ v4_
        (fun v9 σ10 =>
          rec v9 (v4_ + (1 : Int32)) σ10
          )
        fuel v3_ v3 σ_
        )
      )

def X6_middleRound_L116 (σ_ : SS) (o0_ : Nat) (u3_ : Int32)  : Nat → Int32 → Int32 → Option (Int32 × SS) :=
  lp (fun _ _ => none) fun rec v4_ v5_ =>
    if (9 : Int32) ≤ v5_ then (
      some ((9 : Int32), σ_)
      ) else (
      grd (inb v5_ 10) <|
      vthen (v4_ + (gI σ_ (o0_ + 2) (Int32.toNatClampNeg v5_))) fun v14 =>
      if v14 ≤ ((u3_ - (1 : Int32)) / (2 : Int32)) then (
        rec v14 (v5_ + (1 : Int32))
        ) else (
        some (v5_, σ_)
        )
      )

def fX6_middleRound (σ : SS) (a0 : Nat) (a1 : Int32) (a2 : Int32) : Option (Int32 × SS) :=
  vthen (flI σ (a0 + 2) 10 (0 : Int32)) fun σ1 =>
  vthen (fJ9_max_7cf53 σ1 (a2 - (1 : Int32)) (0 : Int32)) fun v2 =>
  X6_middleRound_L19 a0 a1 a2
  (fun v11 σ12 =>
    X6_middleRound_L116 σ12 a0 v11
    fuel (0 : Int32) (0 : Int32)
    )
  fuel (0 : Int32) v2 σ1

set_option maxRecDepth 20000 in
theorem sX6_middleRound_L45 {g : GG} {r : Int32 × SS} {o0_ : Nat} {u1_ : Int32} {x2_ : Int32} {u4_ : Int32} {k104 : Int32 → SS → Option (Int32 × SS)} (hs0_ : shp o0_ = (6, 0))
    (hk104 : ∀ (y3 : Int32) (σ_ : SS), k104 y3 σ_ = some r → WT σ_ → RR g mX6_middleRound (FinR g mX6_middleRound (some (.int r.1)) NF r.2) zF 104 [(0, .ref (ad g o0_)), (1, .int u1_), (2, .int x2_), (3, .int y3), (4, .int u4_)] [] σ_)
    (n : Nat) : ∀ (v3_ : Int32) (v5_ : Int32) (σ_ : SS), X6_middleRound_L45 o0_ u1_ u4_ k104 n v3_ v5_ σ_ = some r → WT σ_ → RR g mX6_middleRound (FinR g mX6_middleRound (some (.int r.1)) NF r.2) zF 45 [(0, .ref (ad g o0_)), (1, .int u1_), (2, .int x2_), (3, .int v3_), (4, .int u4_), (5, .int v5_)] [] σ_ := by
  unfold X6_middleRound_L45
  refine lp_ind (P := fun (rec : Int32 → Int32 → SS → Option (Int32 × SS)) => ∀ (v3_ : Int32) (v5_ : Int32) (σ_ : SS), rec v3_ v5_ σ_ = some r → WT σ_ → RR g mX6_middleRound (FinR g mX6_middleRound (some (.int r.1)) NF r.2) zF 45 [(0, .ref (ad g o0_)), (1, .int u1_), (2, .int x2_), (3, .int v3_), (4, .int u4_), (5, .int v5_)] [] σ_) ?_ ?_ n
  · intro v3_ v5_ σ_ hr; cases hr
  intro rec ih v3_ v5_ σ_ hr hw_
  refine r_iload (pc := 45) (j := 5) dX6_middleRound_45 rfl ?_
  refine r_iload_n (pc := 47) (j := 1) dX6_middleRound_47 rfl rfl ?_
  refine r_iconst (pc := 48) (v := (1 : Int32)) dX6_middleRound_48 rfl ?_
  refine r_iadd (pc := 49) dX6_middleRound_49 ?_
  refine r_icmp_gt (pc := 50) (tgt := 104) dX6_middleRound_50 rfl (fun hc => ?_) (fun hc => ?_)
  · replace hr := ite_t hc hr
    exact r_pick (ls1 := [(0, .ref (ad g o0_)), (1, .int u1_), (2, .int x2_), (3, .int v3_), (4, .int u4_)]) [0, 1, 2, 3, 4] rfl (hk104 v3_ σ_ hr hw_)
  replace hr := ite_f hc hr
  refine r_iload (pc := 53) (j := 5) dX6_middleRound_53 rfl ?_
  refine r_aload_n (pc := 55) (j := 0) dX6_middleRound_55 rfl rfl ?_
  refine gf6_0 (pc := 56) tw_1_32 hs0_ dX6_middleRound_56 ?_
  refine r_icmp_ge (pc := 59) (tgt := 104) dX6_middleRound_59 rfl (fun hc => ?_) (fun hc => ?_)
  · replace hr := ite_t hc hr
    exact r_pick (ls1 := [(0, .ref (ad g o0_)), (1, .int u1_), (2, .int x2_), (3, .int v3_), (4, .int u4_)]) [0, 1, 2, 3, 4] rfl (hk104 v3_ σ_ hr hw_)
  replace hr := ite_f hc hr
  refine r_aload_n (pc := 62) (j := 0) dX6_middleRound_62 rfl rfl ?_
  refine r_iload (pc := 63) (j := 5) dX6_middleRound_63 rfl ?_
  refine r_iload (pc := 65) (j := 4) dX6_middleRound_65 rfl ?_
  obtain ⟨v4, hv4, hr⟩ := bnd1_inv hr
  refine kX6_at (pc := 67) hv4 hs0_ tw_3_161 ⟨nle rfl, nle rfl⟩ (nle rfl) dX6_middleRound_67 ?_
  refine r_istore (pc := 70) (ls1 := [(6, .int v4), (0, .ref (ad g o0_)), (1, .int u1_), (2, .int x2_), (3, .int v3_), (4, .int u4_), (5, .int v5_)]) dX6_middleRound_70 (nle rfl) rfl ?_
  refine r_iload (pc := 72) (j := 0) dX6_middleRound_72 rfl ?_
  refine r_if_lt (pc := 74) (tgt := 98) dX6_middleRound_74 rfl (fun hc => ?_) (fun hc => ?_)
  · replace hr := ite_t hc hr
    refine r_iinc (pc := 98) (j := 6) (v := (v5_ + (1 : Int32))) (ls1 := [(5, .int (v5_ + (1 : Int32))), (6, .int v4), (0, .ref (ad g o0_)), (1, .int u1_), (2, .int x2_), (3, .int v3_), (4, .int u4_)]) dX6_middleRound_98 rfl rfl (nle rfl) rfl ?_
    refine r_goto (pc := 101) (tgt := 45) dX6_middleRound_101 rfl ?_
    exact r_pick (ls1 := [(0, .ref (ad g o0_)), (1, .int u1_), (2, .int x2_), (3, .int v3_), (4, .int u4_), (5, .int (v5_ + (1 : Int32)))]) [2, 3, 4, 5, 6, 0] rfl (ih v3_ (v5_ + (1 : Int32)) σ_ hr hw_)
  replace hr := ite_f hc hr
  refine r_iload (pc := 77) (j := 0) dX6_middleRound_77 rfl ?_
  refine r_bipush (pc := 79) (v := (9 : Int32)) dX6_middleRound_79 rfl ?_
  refine r_icmp_gt (pc := 81) (tgt := 98) dX6_middleRound_81 rfl (fun hc => ?_) (fun hc => ?_)
  · replace hr := ite_t hc hr
    refine r_iinc (pc := 98) (j := 6) (v := (v5_ + (1 : Int32))) (ls1 := [(5, .int (v5_ + (1 : Int32))), (6, .int v4), (0, .ref (ad g o0_)), (1, .int u1_), (2, .int x2_), (3, .int v3_), (4, .int u4_)]) dX6_middleRound_98 rfl rfl (nle rfl) rfl ?_
    refine r_goto (pc := 101) (tgt := 45) dX6_middleRound_101 rfl ?_
    exact r_pick (ls1 := [(0, .ref (ad g o0_)), (1, .int u1_), (2, .int x2_), (3, .int v3_), (4, .int u4_), (5, .int (v5_ + (1 : Int32)))]) [2, 3, 4, 5, 6, 0] rfl (ih v3_ (v5_ + (1 : Int32)) σ_ hr hw_)
  replace hr := ite_f hc hr
  refine r_aload_n (pc := 84) (j := 1) dX6_middleRound_84 rfl rfl ?_
  refine gf6_3 (pc := 85) tw_1_41 hw_ hs0_ dX6_middleRound_85 ?_
  refine r_iload (pc := 88) (j := 0) dX6_middleRound_88 rfl ?_
  refine r_dup2 (pc := 90) dX6_middleRound_90 rfl rfl ?_
  obtain ⟨h7, hr⟩ := grd_inv hr
  refine x_iald (pc := 91) (k := (Int32.toNatClampNeg v4)) (sh6_3 hs0_) h7 rfl dX6_middleRound_91 ?_
  refine r_iconst (pc := 92) (v := (1 : Int32)) dX6_middleRound_92 rfl ?_
  refine r_iadd (pc := 93) dX6_middleRound_93 ?_
  refine x_iast (pc := 94) (j := (Int32.toNatClampNeg v4)) (sh6_3 hs0_) h7 rfl dX6_middleRound_94 fun σ8 eσ8 => ?_
  replace hr := vthen_inv hr σ8 eσ8
  have hσ8 := wtI eσ8 hw_
  refine r_iinc (pc := 95) (j := 4) (v := (v3_ + (1 : Int32))) (ls1 := [(3, .int (v3_ + (1 : Int32))), (6, .int v4), (0, .ref (ad g o0_)), (1, .int u1_), (2, .int x2_), (4, .int u4_), (5, .int v5_)]) dX6_middleRound_95 rfl rfl (nle rfl) rfl ?_
  refine r_iinc (pc := 98) (j := 6) (v := (v5_ + (1 : Int32))) (ls1 := [(5, .int (v5_ + (1 : Int32))), (3, .int (v3_ + (1 : Int32))), (6, .int v4), (0, .ref (ad g o0_)), (1, .int u1_), (2, .int x2_), (4, .int u4_)]) dX6_middleRound_98 rfl rfl (nle rfl) rfl ?_
  refine r_goto (pc := 101) (tgt := 45) dX6_middleRound_101 rfl ?_
  exact r_pick (ls1 := [(0, .ref (ad g o0_)), (1, .int u1_), (2, .int x2_), (3, .int (v3_ + (1 : Int32))), (4, .int u4_), (5, .int (v5_ + (1 : Int32)))]) [3, 4, 5, 1, 6, 0] rfl (ih (v3_ + (1 : Int32)) (v5_ + (1 : Int32)) σ8 hr hσ8)

set_option maxRecDepth 20000 in
theorem sX6_middleRound_L19 {g : GG} {r : Int32 × SS} {o0_ : Nat} {u1_ : Int32} {u2_ : Int32} {k110 : Int32 → SS → Option (Int32 × SS)} (hs0_ : shp o0_ = (6, 0))
    (hk110 : ∀ (y3 : Int32) (σ_ : SS), k110 y3 σ_ = some r → WT σ_ → RR g mX6_middleRound (FinR g mX6_middleRound (some (.int r.1)) NF r.2) zF 110 [(0, .ref (ad g o0_)), (3, .int y3)] [] σ_)
    (n : Nat) : ∀ (v3_ : Int32) (v4_ : Int32) (σ_ : SS), X6_middleRound_L19 o0_ u1_ u2_ k110 n v3_ v4_ σ_ = some r → WT σ_ → RR g mX6_middleRound (FinR g mX6_middleRound (some (.int r.1)) NF r.2) zF 19 [(0, .ref (ad g o0_)), (1, .int u1_), (2, .int u2_), (3, .int v3_), (4, .int v4_)] [] σ_ := by
  unfold X6_middleRound_L19
  refine lp_ind (P := fun (rec : Int32 → Int32 → SS → Option (Int32 × SS)) => ∀ (v3_ : Int32) (v4_ : Int32) (σ_ : SS), rec v3_ v4_ σ_ = some r → WT σ_ → RR g mX6_middleRound (FinR g mX6_middleRound (some (.int r.1)) NF r.2) zF 19 [(0, .ref (ad g o0_)), (1, .int u1_), (2, .int u2_), (3, .int v3_), (4, .int v4_)] [] σ_) ?_ ?_ n
  · intro v3_ v4_ σ_ hr; cases hr
  intro rec ih v3_ v4_ σ_ hr hw_
  refine r_iload (pc := 19) (j := 4) dX6_middleRound_19 rfl ?_
  refine r_iload_n (pc := 21) (j := 2) dX6_middleRound_21 rfl rfl ?_
  refine r_iconst (pc := 22) (v := (1 : Int32)) dX6_middleRound_22 rfl ?_
  refine r_iadd (pc := 23) dX6_middleRound_23 ?_
  refine r_icmp_gt (pc := 24) (tgt := 110) dX6_middleRound_24 rfl (fun hc => ?_) (fun hc => ?_)
  · replace hr := ite_t hc hr
    exact r_pick (ls1 := [(0, .ref (ad g o0_)), (3, .int v3_)]) [0, 3] rfl (hk110 v3_ σ_ hr hw_)
  replace hr := ite_f hc hr
  refine r_iload (pc := 27) (j := 4) dX6_middleRound_27 rfl ?_
  refine r_aload_n (pc := 29) (j := 0) dX6_middleRound_29 rfl rfl ?_
  refine gf6_1 (pc := 30) tw_1_37 hs0_ dX6_middleRound_30 ?_
  refine r_icmp_ge (pc := 33) (tgt := 110) dX6_middleRound_33 rfl (fun hc => ?_) (fun hc => ?_)
  · replace hr := ite_t hc hr
    exact r_pick (ls1 := [(0, .ref (ad g o0_)), (3, .int v3_)]) [0, 3] rfl (hk110 v3_ σ_ hr hw_)
  replace hr := ite_f hc hr
  refine r_iload_n (pc := 36) (j := 1) dX6_middleRound_36 rfl rfl ?_
  refine r_iconst (pc := 37) (v := (1 : Int32)) dX6_middleRound_37 rfl ?_
  refine r_isub (pc := 38) dX6_middleRound_38 ?_
  refine r_iconst (pc := 39) (v := (0 : Int32)) dX6_middleRound_39 rfl ?_
  refine kJ9_max_7cf53 (pc := 40) (hf := rfl) tw_3_202 ⟨nle rfl, nle rfl⟩ (nle rfl) dX6_middleRound_40 ?_
  refine r_topi fun v3 ev3 => ?_
  replace hr := vthen_inv hr v3 ev3
  refine r_istore (pc := 43) (ls1 := [(5, .int v3), (0, .ref (ad g o0_)), (1, .int u1_), (2, .int u2_), (3, .int v3_), (4, .int v4_)]) dX6_middleRound_43 (nle rfl) rfl ?_
  refine r_pick (ls1 := [(0, .ref (ad g o0_)), (1, .int u1_), (2, .int u2_), (3, .int v3_), (4, .int v4_), (5, .int v3)]) [1, 2, 3, 4, 5, 0] rfl ?_
  refine sX6_middleRound_L45 hs0_   (fun v9 σ10 hr hσ10 => ?_) fuel v3_ v3 σ_ hr hw_
  refine r_iinc (pc := 104) (j := 4) (v := (v4_ + (1 : Int32))) (ls1 := [(4, .int (v4_ + (1 : Int32))), (0, .ref (ad g o0_)), (1, .int u1_), (2, .int u2_), (3, .int v9)]) dX6_middleRound_104 rfl rfl (nle rfl) rfl ?_
  refine r_goto (pc := 107) (tgt := 19) dX6_middleRound_107 rfl ?_
  exact r_pick (ls1 := [(0, .ref (ad g o0_)), (1, .int u1_), (2, .int u2_), (3, .int v9), (4, .int (v4_ + (1 : Int32)))]) [1, 2, 3, 4, 0] rfl (ih v9 (v4_ + (1 : Int32)) σ10 hr hσ10)

set_option maxRecDepth 20000 in
theorem sX6_middleRound_L116 {g : GG} {r : Int32 × SS} {σ_ : SS} {o0_ : Nat} {u3_ : Int32}  (hs0_ : shp o0_ = (6, 0))
    (hw_ : WT σ_)
    (n : Nat) : ∀ (v4_ : Int32) (v5_ : Int32), X6_middleRound_L116 σ_ o0_ u3_ n v4_ v5_ = some r → RR g mX6_middleRound (FinR g mX6_middleRound (some (.int r.1)) NF r.2) zF 116 [(0, .ref (ad g o0_)), (3, .int u3_), (4, .int v4_), (5, .int v5_)] [] σ_ := by
  unfold X6_middleRound_L116
  refine lp_ind (P := fun (rec : Int32 → Int32 → Option (Int32 × SS)) => ∀ (v4_ : Int32) (v5_ : Int32), rec v4_ v5_ = some r → RR g mX6_middleRound (FinR g mX6_middleRound (some (.int r.1)) NF r.2) zF 116 [(0, .ref (ad g o0_)), (3, .int u3_), (4, .int v4_), (5, .int v5_)] [] σ_) ?_ ?_ n
  · intro v4_ v5_ hr; cases hr
  intro rec ih v4_ v5_ hr
  refine r_iload (pc := 116) (j := 3) dX6_middleRound_116 rfl ?_
  refine r_bipush (pc := 118) (v := (9 : Int32)) dX6_middleRound_118 rfl ?_
  refine r_icmp_ge (pc := 120) (tgt := 154) dX6_middleRound_120 rfl (fun hc => ?_) (fun hc => ?_)
  · replace hr := ite_t hc hr
    refine r_bipush (pc := 154) (v := (9 : Int32)) dX6_middleRound_154 rfl ?_
    exact l_osi hr (r_iret (pc := 156) (v := (9 : Int32)) rfl rfl ⟨Nat.le_refl _, Nat.le_refl _⟩ dX6_middleRound_156)
  replace hr := ite_f hc hr
  refine r_iload (pc := 123) (j := 2) dX6_middleRound_123 rfl ?_
  refine r_aload_n (pc := 125) (j := 0) dX6_middleRound_125 rfl rfl ?_
  refine gf6_3 (pc := 126) tw_1_41 hw_ hs0_ dX6_middleRound_126 ?_
  refine r_iload (pc := 129) (j := 3) dX6_middleRound_129 rfl ?_
  obtain ⟨h13, hr⟩ := grd_inv hr
  refine x_iald (pc := 131) (k := (Int32.toNatClampNeg v5_)) (sh6_3 hs0_) h13 rfl dX6_middleRound_131 ?_
  refine r_iadd (pc := 132) dX6_middleRound_132 ?_
  refine r_topi fun v14 ev14 => ?_
  replace hr := vthen_inv hr v14 ev14
  refine r_istore (pc := 133) (ls1 := [(4, .int v14), (0, .ref (ad g o0_)), (3, .int u3_), (5, .int v5_)]) dX6_middleRound_133 (nle rfl) rfl ?_
  refine r_iload (pc := 135) (j := 0) dX6_middleRound_135 rfl ?_
  refine r_iload_n (pc := 137) (j := 2) dX6_middleRound_137 rfl rfl ?_
  refine r_iconst (pc := 138) (v := (1 : Int32)) dX6_middleRound_138 rfl ?_
  refine r_isub (pc := 139) dX6_middleRound_139 ?_
  refine r_iconst (pc := 140) (v := (2 : Int32)) dX6_middleRound_140 rfl ?_
  refine r_idiv (pc := 141) dX6_middleRound_141 (by decide) ?_
  refine r_icmp_le (pc := 142) (tgt := 148) dX6_middleRound_142 rfl (fun hc => ?_) (fun hc => ?_)
  · replace hr := ite_t hc hr
    refine r_iinc (pc := 148) (j := 3) (v := (v5_ + (1 : Int32))) (ls1 := [(5, .int (v5_ + (1 : Int32))), (4, .int v14), (0, .ref (ad g o0_)), (3, .int u3_)]) dX6_middleRound_148 rfl rfl (nle rfl) rfl ?_
    refine r_goto (pc := 151) (tgt := 116) dX6_middleRound_151 rfl ?_
    exact r_pick (ls1 := [(0, .ref (ad g o0_)), (3, .int u3_), (4, .int v14), (5, .int (v5_ + (1 : Int32)))]) [2, 3, 1, 0] rfl (ih v14 (v5_ + (1 : Int32)) hr)
  replace hr := ite_f hc hr
  refine r_iload (pc := 145) (j := 3) dX6_middleRound_145 rfl ?_
  exact l_osi hr (r_iret (pc := 147) (v := v5_) rfl rfl ⟨Nat.le_refl _, Nat.le_refl _⟩ dX6_middleRound_147)

set_option maxRecDepth 20000 in
theorem sX6_middleRound {g : GG} {σ : SS} {a0 : Nat} {a1 : Int32} {a2 : Int32} {r : Int32 × SS} (hr : fX6_middleRound σ a0 a1 a2 = some r) (hs0 : shp a0 = (6, 0)) : Ct g mX6_middleRound [.ref (ad g a0), .int a1, .int a2] NF σ (some (.int r.1)) NF r.2 := by
  refine Ct.of (by decide +kernel) (nle rfl) fun hw0 => ?_
  have hw := hw0 rfl
  unfold fX6_middleRound at hr
  change RR g mX6_middleRound (FinR g mX6_middleRound (some (.int r.1)) NF r.2) zF 0 [(0, .ref (ad g a0)), (1, .int a1), (2, .int a2)] [] σ
  refine r_aload_n (pc := 0) (j := 0) dX6_middleRound_0 rfl rfl ?_
  refine gf6_3 (pc := 1) tw_1_41 hw hs0 dX6_middleRound_1 ?_
  refine r_iconst (pc := 4) (v := (0 : Int32)) dX6_middleRound_4 rfl ?_
  refine x_flI (pc := 5) (σ := σ) (c0 := (a0 + 2)) (n := 10) (v := (0 : Int32)) (sh6_3 hs0) tw_2_106 ⟨nle rfl, nle rfl⟩ (nle rfl) dX6_middleRound_5 fun σ1 eσ1 => ?_
  replace hr := vthen_inv hr σ1 eσ1
  have hσ1 := wtFI eσ1 hw
  refine r_iconst (pc := 8) (v := (0 : Int32)) dX6_middleRound_8 rfl ?_
  refine r_istore_n (pc := 9) (ls1 := [(3, .int (0 : Int32)), (0, .ref (ad g a0)), (1, .int a1), (2, .int a2)]) dX6_middleRound_9 rfl (nle rfl) rfl ?_
  refine r_iload_n (pc := 10) (j := 3) dX6_middleRound_10 rfl rfl ?_
  refine r_iconst (pc := 11) (v := (1 : Int32)) dX6_middleRound_11 rfl ?_
  refine r_isub (pc := 12) dX6_middleRound_12 ?_
  refine r_iconst (pc := 13) (v := (0 : Int32)) dX6_middleRound_13 rfl ?_
  refine kJ9_max_7cf53 (pc := 14) (hf := rfl) tw_3_202 ⟨nle rfl, nle rfl⟩ (nle rfl) dX6_middleRound_14 ?_
  refine r_topi fun v2 ev2 => ?_
  replace hr := vthen_inv hr v2 ev2
  refine r_istore (pc := 17) (ls1 := [(4, .int v2), (3, .int (0 : Int32)), (0, .ref (ad g a0)), (1, .int a1), (2, .int a2)]) dX6_middleRound_17 (nle rfl) rfl ?_
  refine r_pick (ls1 := [(0, .ref (ad g a0)), (1, .int a1), (2, .int a2), (3, .int (0 : Int32)), (4, .int v2)]) [2, 3, 4, 1, 0] rfl ?_
  refine sX6_middleRound_L19 hs0   (fun v11 σ12 hr hσ12 => ?_) fuel (0 : Int32) v2 σ1 hr hσ1
  refine r_iconst (pc := 110) (v := (0 : Int32)) dX6_middleRound_110 rfl ?_
  refine r_istore (pc := 111) (ls1 := [(4, .int (0 : Int32)), (0, .ref (ad g a0)), (3, .int v11)]) dX6_middleRound_111 (nle rfl) rfl ?_
  refine r_iconst (pc := 113) (v := (0 : Int32)) dX6_middleRound_113 rfl ?_
  refine r_istore (pc := 114) (ls1 := [(5, .int (0 : Int32)), (4, .int (0 : Int32)), (0, .ref (ad g a0)), (3, .int v11)]) dX6_middleRound_114 (nle rfl) rfl ?_
  refine r_pick (ls1 := [(0, .ref (ad g a0)), (3, .int v11), (4, .int (0 : Int32)), (5, .int (0 : Int32))]) [2, 3, 1, 0] rfl ?_
  refine sX6_middleRound_L116 hs0 hσ12   fuel (0 : Int32) (0 : Int32) hr

theorem kX6_middleRound {g : GG} {σ : SS} {a0 : Nat} {a1 : Int32} {a2 : Int32} {v : Int32} {σ2 : SS} {M : MM} {F : State → Array Value → List Frame → State → Prop} {pc index : Nat} {ls : List (Nat × Value)} {rest : List Value} (hf : fX6_middleRound σ a0 a1 a2 = some (v, σ2)) (hs0 : shp a0 = (6, 0)) (hl : Cond.methodLink M.1.cls index yX6_middleRound ∈ lw_gt) (hR : mX6_middleRound.2.2.2.2.frames + 1 ≤ M.2.2.2.2.frames ∧ 8 + (mX6_middleRound.2.2.1 + 11) + mX6_middleRound.2.2.2.2.locals ≤ M.2.2.2.2.locals) (hrest : (rest.map fun v => v.category).sum ≤ 8) (hd : decode M.2.1 pc = .ok (.invokevirtual index, 3)) (k : WT σ2 → RR g M F zF (pc + 3) ls (.int v :: rest) σ2) : RR g M F zF pc ls (.int a2 :: .int a1 :: .ref (ad g a0) :: rest) σ :=
  r_callV (z := zF) (N := mX6_middleRound) (nn := 2) (o1 := some (.int v)) (sX6_middleRound hf hs0) hs0 (by decide) (shp_le hs0 (nle rfl)) (ci := 6) rfl rfl tw_3_237 tw_1_2 hl tw_3_235 tw_3_236 ⟨by decide, by decide, rfl⟩ hR rfl hrest hd ⟨Nat.zero_le _, Nat.zero_le _⟩ rfl (fun h => k (h rfl))

theorem dX6_takeSmoothed_0 : decode cX6_takeSmoothed 0 = .ok (.aload_n 0, 1) := by decide +kernel
theorem dX6_takeSmoothed_1 : decode cX6_takeSmoothed 1 = .ok (.aload_n 1, 1) := by decide +kernel
theorem dX6_takeSmoothed_2 : decode cX6_takeSmoothed 2 = .ok (.getfield 18, 3) := by decide +kernel
theorem dX6_takeSmoothed_5 : decode cX6_takeSmoothed 5 = .ok (.putfield 18, 3) := by decide +kernel
theorem dX6_takeSmoothed_8 : decode cX6_takeSmoothed 8 = .ok (.aload_n 0, 1) := by decide +kernel
theorem dX6_takeSmoothed_9 : decode cX6_takeSmoothed 9 = .ok (.aload_n 1, 1) := by decide +kernel
theorem dX6_takeSmoothed_10 : decode cX6_takeSmoothed 10 = .ok (.getfield 22, 3) := by decide +kernel
theorem dX6_takeSmoothed_13 : decode cX6_takeSmoothed 13 = .ok (.putfield 22, 3) := by decide +kernel
theorem dX6_takeSmoothed_16 : decode cX6_takeSmoothed 16 = .ok (.iconst 0, 1) := by decide +kernel
theorem dX6_takeSmoothed_17 : decode cX6_takeSmoothed 17 = .ok (.istore_n 2, 1) := by decide +kernel
theorem dX6_takeSmoothed_18 : decode cX6_takeSmoothed 18 = .ok (.iload_n 2, 1) := by decide +kernel
theorem dX6_takeSmoothed_19 : decode cX6_takeSmoothed 19 = .ok (.aload_n 0, 1) := by decide +kernel
theorem dX6_takeSmoothed_20 : decode cX6_takeSmoothed 20 = .ok (.getfield 22, 3) := by decide +kernel
theorem dX6_takeSmoothed_23 : decode cX6_takeSmoothed 23 = .ok (.if_icmp .ge 38, 3) := by decide +kernel
theorem dX6_takeSmoothed_26 : decode cX6_takeSmoothed 26 = .ok (.iconst 0, 1) := by decide +kernel
theorem dX6_takeSmoothed_27 : decode cX6_takeSmoothed 27 = .ok (.istore_n 3, 1) := by decide +kernel
theorem dX6_takeSmoothed_28 : decode cX6_takeSmoothed 28 = .ok (.iload_n 3, 1) := by decide +kernel
theorem dX6_takeSmoothed_29 : decode cX6_takeSmoothed 29 = .ok (.aload_n 0, 1) := by decide +kernel
theorem dX6_takeSmoothed_30 : decode cX6_takeSmoothed 30 = .ok (.getfield 18, 3) := by decide +kernel
theorem dX6_takeSmoothed_33 : decode cX6_takeSmoothed 33 = .ok (.if_icmp .ge 22, 3) := by decide +kernel
theorem dX6_takeSmoothed_36 : decode cX6_takeSmoothed 36 = .ok (.aload_n 0, 1) := by decide +kernel
theorem dX6_takeSmoothed_37 : decode cX6_takeSmoothed 37 = .ok (.iload_n 3, 1) := by decide +kernel
theorem dX6_takeSmoothed_38 : decode cX6_takeSmoothed 38 = .ok (.iload_n 2, 1) := by decide +kernel
theorem dX6_takeSmoothed_39 : decode cX6_takeSmoothed 39 = .ok (.aload_n 1, 1) := by decide +kernel
theorem dX6_takeSmoothed_40 : decode cX6_takeSmoothed 40 = .ok (.iload_n 3, 1) := by decide +kernel
theorem dX6_takeSmoothed_41 : decode cX6_takeSmoothed 41 = .ok (.iload_n 2, 1) := by decide +kernel
theorem dX6_takeSmoothed_42 : decode cX6_takeSmoothed 42 = .ok (.invokevirtual 61, 3) := by decide +kernel
theorem dX6_takeSmoothed_45 : decode cX6_takeSmoothed 45 = .ok (.invokevirtual 35, 3) := by decide +kernel
theorem dX6_takeSmoothed_48 : decode cX6_takeSmoothed 48 = .ok (.pop, 1) := by decide +kernel
theorem dX6_takeSmoothed_49 : decode cX6_takeSmoothed 49 = .ok (.iinc 3 1, 3) := by decide +kernel
theorem dX6_takeSmoothed_52 : decode cX6_takeSmoothed 52 = .ok (.goto (-24), 3) := by decide +kernel
theorem dX6_takeSmoothed_55 : decode cX6_takeSmoothed 55 = .ok (.iinc 2 1, 3) := by decide +kernel
theorem dX6_takeSmoothed_58 : decode cX6_takeSmoothed 58 = .ok (.goto (-40), 3) := by decide +kernel
theorem dX6_takeSmoothed_61 : decode cX6_takeSmoothed 61 = .ok (.return_, 1) := by decide +kernel
def mX6_takeSmoothed : MM := (yX6_takeSmoothed, cX6_takeSmoothed, 4, none, { frames := 3, cells := 0, slots := 0, locals := 70 })
def X6_takeSmoothed_L28 (o0_ : Nat) (o1_ : Nat) (u2_ : Int32) (k55 : SS → Option SS) : Nat → Int32 → SS → Option SS :=
  lp (fun _ _ => none) fun rec v3_ σ_ =>
    if (gI σ_ o0_ 0) ≤ v3_ then (
      k55 σ_
      ) else (
      bnd (fX6_middleRound σ_ o1_ v3_ u2_) fun v3 σ6 =>
      bnd (fX6_put σ6 o0_ v3_ u2_ v3) fun b8 σ10 =>
      rec (v3_ + (1 : Int32)) σ10
      )

def X6_takeSmoothed_L18 (o0_ : Nat) (o1_ : Nat)  : Nat → Int32 → SS → Option SS :=
  lp (fun _ _ => none) fun rec v2_ σ_ =>
    if (gI σ_ o0_ 1) ≤ v2_ then (
      some σ_
      ) else (
      X6_takeSmoothed_L28 o0_ o1_ v2_
      (fun σ11 =>
        rec (v2_ + (1 : Int32)) σ11
        )
      fuel (0 : Int32) σ_
      )

def fX6_takeSmoothed (σ : SS) (a0 : Nat) (a1 : Nat) : Option SS :=
  vthen (sI σ a0 0 (gI σ a1 0)) fun σ1 =>
  vthen (sI σ1 a0 1 (gI σ1 a1 1)) fun σ2 =>
  X6_takeSmoothed_L18 a0 a1
  fuel (0 : Int32) σ2

set_option maxRecDepth 20000 in
theorem sX6_takeSmoothed_L28 {g : GG} {r : SS} {o0_ : Nat} {o1_ : Nat} {u2_ : Int32} {k55 : SS → Option SS} (hs0_ : shp o0_ = (6, 0)) (hs1_ : shp o1_ = (6, 0))
    (hk55 : ∀ (σ_ : SS), k55 σ_ = some r → WT σ_ → RR g mX6_takeSmoothed (FinR g mX6_takeSmoothed none NF r) zF 55 [(0, .ref (ad g o0_)), (1, .ref (ad g o1_)), (2, .int u2_)] [] σ_)
    (n : Nat) : ∀ (v3_ : Int32) (σ_ : SS), X6_takeSmoothed_L28 o0_ o1_ u2_ k55 n v3_ σ_ = some r → WT σ_ → RR g mX6_takeSmoothed (FinR g mX6_takeSmoothed none NF r) zF 28 [(0, .ref (ad g o0_)), (1, .ref (ad g o1_)), (2, .int u2_), (3, .int v3_)] [] σ_ := by
  unfold X6_takeSmoothed_L28
  refine lp_ind (P := fun (rec : Int32 → SS → Option SS) => ∀ (v3_ : Int32) (σ_ : SS), rec v3_ σ_ = some r → WT σ_ → RR g mX6_takeSmoothed (FinR g mX6_takeSmoothed none NF r) zF 28 [(0, .ref (ad g o0_)), (1, .ref (ad g o1_)), (2, .int u2_), (3, .int v3_)] [] σ_) ?_ ?_ n
  · intro v3_ σ_ hr; cases hr
  intro rec ih v3_ σ_ hr hw_
  refine r_iload_n (pc := 28) (j := 3) dX6_takeSmoothed_28 rfl rfl ?_
  refine r_aload_n (pc := 29) (j := 0) dX6_takeSmoothed_29 rfl rfl ?_
  refine gf6_0 (pc := 30) tw_1_32 hs0_ dX6_takeSmoothed_30 ?_
  refine r_icmp_ge (pc := 33) (tgt := 55) dX6_takeSmoothed_33 rfl (fun hc => ?_) (fun hc => ?_)
  · replace hr := ite_t hc hr
    exact r_pick (ls1 := [(0, .ref (ad g o0_)), (1, .ref (ad g o1_)), (2, .int u2_)]) [0, 1, 2] rfl (hk55 σ_ hr hw_)
  replace hr := ite_f hc hr
  refine r_aload_n (pc := 36) (j := 0) dX6_takeSmoothed_36 rfl rfl ?_
  refine r_iload_n (pc := 37) (j := 3) dX6_takeSmoothed_37 rfl rfl ?_
  refine r_iload_n (pc := 38) (j := 2) dX6_takeSmoothed_38 rfl rfl ?_
  refine r_aload_n (pc := 39) (j := 1) dX6_takeSmoothed_39 rfl rfl ?_
  refine r_iload_n (pc := 40) (j := 3) dX6_takeSmoothed_40 rfl rfl ?_
  refine r_iload_n (pc := 41) (j := 2) dX6_takeSmoothed_41 rfl rfl ?_
  obtain ⟨v3, σ6, eσ6, hr⟩ := bnd_inv hr
  refine kX6_middleRound (pc := 42) eσ6 hs1_ tw_3_234 ⟨nle rfl, nle rfl⟩ (nle rfl) dX6_takeSmoothed_42 fun hσ6 => ?_
  obtain ⟨b8, σ10, eσ10, hr⟩ := bnd_inv hr
  refine kX6_put (pc := 45) eσ10 hs0_ tw_3_162 ⟨nle rfl, nle rfl⟩ (nle rfl) dX6_takeSmoothed_45 fun hσ10 => ?_
  refine r_pop (pc := 48) dX6_takeSmoothed_48 rfl ?_
  refine r_iinc (pc := 49) (j := 3) (v := (v3_ + (1 : Int32))) (ls1 := [(3, .int (v3_ + (1 : Int32))), (0, .ref (ad g o0_)), (1, .ref (ad g o1_)), (2, .int u2_)]) dX6_takeSmoothed_49 rfl rfl (nle rfl) rfl ?_
  refine r_goto (pc := 52) (tgt := 28) dX6_takeSmoothed_52 rfl ?_
  exact r_pick (ls1 := [(0, .ref (ad g o0_)), (1, .ref (ad g o1_)), (2, .int u2_), (3, .int (v3_ + (1 : Int32)))]) [1, 2, 3, 0] rfl (ih (v3_ + (1 : Int32)) σ10 hr hσ10)

set_option maxRecDepth 20000 in
theorem sX6_takeSmoothed_L18 {g : GG} {r : SS} {o0_ : Nat} {o1_ : Nat}  (hs0_ : shp o0_ = (6, 0)) (hs1_ : shp o1_ = (6, 0))
    (n : Nat) : ∀ (v2_ : Int32) (σ_ : SS), X6_takeSmoothed_L18 o0_ o1_ n v2_ σ_ = some r → WT σ_ → RR g mX6_takeSmoothed (FinR g mX6_takeSmoothed none NF r) zF 18 [(0, .ref (ad g o0_)), (1, .ref (ad g o1_)), (2, .int v2_)] [] σ_ := by
  unfold X6_takeSmoothed_L18
  refine lp_ind (P := fun (rec : Int32 → SS → Option SS) => ∀ (v2_ : Int32) (σ_ : SS), rec v2_ σ_ = some r → WT σ_ → RR g mX6_takeSmoothed (FinR g mX6_takeSmoothed none NF r) zF 18 [(0, .ref (ad g o0_)), (1, .ref (ad g o1_)), (2, .int v2_)] [] σ_) ?_ ?_ n
  · intro v2_ σ_ hr; cases hr
  intro rec ih v2_ σ_ hr hw_
  refine r_iload_n (pc := 18) (j := 2) dX6_takeSmoothed_18 rfl rfl ?_
  refine r_aload_n (pc := 19) (j := 0) dX6_takeSmoothed_19 rfl rfl ?_
  refine gf6_1 (pc := 20) tw_1_37 hs0_ dX6_takeSmoothed_20 ?_
  refine r_icmp_ge (pc := 23) (tgt := 61) dX6_takeSmoothed_23 rfl (fun hc => ?_) (fun hc => ?_)
  · replace hr := ite_t hc hr
    exact l_ov hr (r_vret (pc := 61) rfl rfl ⟨Nat.le_refl _, Nat.le_refl _⟩ dX6_takeSmoothed_61)
  replace hr := ite_f hc hr
  refine r_iconst (pc := 26) (v := (0 : Int32)) dX6_takeSmoothed_26 rfl ?_
  refine r_istore_n (pc := 27) (ls1 := [(3, .int (0 : Int32)), (0, .ref (ad g o0_)), (1, .ref (ad g o1_)), (2, .int v2_)]) dX6_takeSmoothed_27 rfl (nle rfl) rfl ?_
  refine r_pick (ls1 := [(0, .ref (ad g o0_)), (1, .ref (ad g o1_)), (2, .int v2_), (3, .int (0 : Int32))]) [1, 2, 3, 0] rfl ?_
  refine sX6_takeSmoothed_L28 hs0_ hs1_   (fun σ11 hr hσ11 => ?_) fuel (0 : Int32) σ_ hr hw_
  refine r_iinc (pc := 55) (j := 2) (v := (v2_ + (1 : Int32))) (ls1 := [(2, .int (v2_ + (1 : Int32))), (0, .ref (ad g o0_)), (1, .ref (ad g o1_))]) dX6_takeSmoothed_55 rfl rfl (nle rfl) rfl ?_
  refine r_goto (pc := 58) (tgt := 18) dX6_takeSmoothed_58 rfl ?_
  exact r_pick (ls1 := [(0, .ref (ad g o0_)), (1, .ref (ad g o1_)), (2, .int (v2_ + (1 : Int32)))]) [1, 2, 0] rfl (ih (v2_ + (1 : Int32)) σ11 hr hσ11)

set_option maxRecDepth 20000 in
theorem sX6_takeSmoothed {g : GG} {σ : SS} {a0 : Nat} {a1 : Nat} {r : SS} (hr : fX6_takeSmoothed σ a0 a1 = some r) (hs0 : shp a0 = (6, 0)) (hs1 : shp a1 = (6, 0)) : Ct g mX6_takeSmoothed [.ref (ad g a0), .ref (ad g a1)] NF σ none NF r := by
  refine Ct.of (by decide +kernel) (nle rfl) fun hw0 => ?_
  have hw := hw0 rfl
  unfold fX6_takeSmoothed at hr
  change RR g mX6_takeSmoothed (FinR g mX6_takeSmoothed none NF r) zF 0 [(0, .ref (ad g a0)), (1, .ref (ad g a1))] [] σ
  refine r_aload_n (pc := 0) (j := 0) dX6_takeSmoothed_0 rfl rfl ?_
  refine r_aload_n (pc := 1) (j := 1) dX6_takeSmoothed_1 rfl rfl ?_
  refine gf6_0 (pc := 2) tw_1_32 hs1 dX6_takeSmoothed_2 ?_
  refine pf6_0 (pc := 5) tw_1_32 hs0 dX6_takeSmoothed_5 fun σ1 eσ1 => ?_
  replace hr := vthen_inv hr σ1 eσ1
  have hσ1 := wtI eσ1 hw
  refine r_aload_n (pc := 8) (j := 0) dX6_takeSmoothed_8 rfl rfl ?_
  refine r_aload_n (pc := 9) (j := 1) dX6_takeSmoothed_9 rfl rfl ?_
  refine gf6_1 (pc := 10) tw_1_37 hs1 dX6_takeSmoothed_10 ?_
  refine pf6_1 (pc := 13) tw_1_37 hs0 dX6_takeSmoothed_13 fun σ2 eσ2 => ?_
  replace hr := vthen_inv hr σ2 eσ2
  have hσ2 := wtI eσ2 hσ1
  refine r_iconst (pc := 16) (v := (0 : Int32)) dX6_takeSmoothed_16 rfl ?_
  refine r_istore_n (pc := 17) (ls1 := [(2, .int (0 : Int32)), (0, .ref (ad g a0)), (1, .ref (ad g a1))]) dX6_takeSmoothed_17 rfl (nle rfl) rfl ?_
  refine r_pick (ls1 := [(0, .ref (ad g a0)), (1, .ref (ad g a1)), (2, .int (0 : Int32))]) [1, 2, 0] rfl ?_
  refine sX6_takeSmoothed_L18 hs0 hs1    fuel (0 : Int32) σ2 hr hσ2

theorem kX6_takeSmoothed {g : GG} {σ : SS} {a0 : Nat} {a1 : Nat} {σ2 : SS} {M : MM} {F : State → Array Value → List Frame → State → Prop} {pc index : Nat} {ls : List (Nat × Value)} {rest : List Value} (hf : fX6_takeSmoothed σ a0 a1 = some σ2) (hs0 : shp a0 = (6, 0)) (hs1 : shp a1 = (6, 0)) (hl : Cond.methodLink M.1.cls index yX6_takeSmoothed ∈ lw_gt) (hR : mX6_takeSmoothed.2.2.2.2.frames + 1 ≤ M.2.2.2.2.frames ∧ 8 + (mX6_takeSmoothed.2.2.1 + 11) + mX6_takeSmoothed.2.2.2.2.locals ≤ M.2.2.2.2.locals) (hrest : (rest.map fun v => v.category).sum ≤ 8) (hd : decode M.2.1 pc = .ok (.invokevirtual index, 3)) (k : WT σ2 → RR g M F zF (pc + 3) ls rest σ2) : RR g M F zF pc ls (.ref (ad g a1) :: .ref (ad g a0) :: rest) σ :=
  r_callV (z := zF) (N := mX6_takeSmoothed) (nn := 1) (o1 := none) (sX6_takeSmoothed hf hs0 hs1) hs0 (by decide) (shp_le hs0 (nle rfl)) (ci := 6) rfl rfl tw_3_233 tw_1_2 hl tw_3_231 tw_3_232 ⟨by decide, by decide, rfl⟩ hR rfl hrest hd ⟨Nat.zero_le _, Nat.zero_le _⟩ rfl (fun h => k (h rfl))

theorem dX7_smooth_0 : decode cX7_smooth 0 = .ok (.aload_n 0, 1) := by decide +kernel
theorem dX7_smooth_1 : decode cX7_smooth 1 = .ok (.getfield 22, 3) := by decide +kernel
theorem dX7_smooth_4 : decode cX7_smooth 4 = .ok (.aload_n 0, 1) := by decide +kernel
theorem dX7_smooth_5 : decode cX7_smooth 5 = .ok (.getfield 18, 3) := by decide +kernel
theorem dX7_smooth_8 : decode cX7_smooth 8 = .ok (.invokevirtual 215, 3) := by decide +kernel
theorem dX7_smooth_11 : decode cX7_smooth 11 = .ok (.aload_n 0, 1) := by decide +kernel
theorem dX7_smooth_12 : decode cX7_smooth 12 = .ok (.invokevirtual 194, 3) := by decide +kernel
theorem dX7_smooth_15 : decode cX7_smooth 15 = .ok (.ireturn, 1) := by decide +kernel
def mX7_smooth : MM := (yX7_smooth, cX7_smooth, 1, Option.some Jvm.ClassFile.FieldType.int, { frames := 4, cells := 0, slots := 0, locals := 93 })
def fX7_smooth (σ : SS)  : Option (Int32 × SS) :=
  bnd1 (fX6_takeSmoothed σ (gR σ 1 3) (gR σ 1 2)) fun σ1 =>
  bnd (fX7_takeSpare σ1) fun v2 σ5 =>
  some (v2, σ5)

set_option maxRecDepth 20000 in
theorem sX7_smooth {g : GG} {σ : SS}  {r : Int32 × SS} (hr : fX7_smooth σ = some r)  : Ct g mX7_smooth [.ref (ad g 1)] NF σ (some (.int r.1)) NF r.2 := by
  refine Ct.of (by decide +kernel) (nle rfl) fun hw0 => ?_
  have hw := hw0 rfl
  unfold fX7_smooth at hr
  change RR g mX7_smooth (FinR g mX7_smooth (some (.int r.1)) NF r.2) zF 0 [(0, .ref (ad g 1))] [] σ
  refine r_aload_n (pc := 0) (j := 0) dX7_smooth_0 rfl rfl ?_
  refine gf7_3 (pc := 1) tw_2_112 hw dX7_smooth_1 ?_
  refine r_aload_n (pc := 4) (j := 0) dX7_smooth_4 rfl rfl ?_
  refine gf7_2 (pc := 5) tw_2_111 hw dX7_smooth_5 ?_
  obtain ⟨σ1, eσ1, hr⟩ := bnd1_inv hr
  refine kX6_takeSmoothed (pc := 8) eσ1 (wt_sp hw).1 (wt_sc hw).1 tw_3_230 ⟨nle rfl, nle rfl⟩ (nle rfl) dX7_smooth_8 fun hσ1 => ?_
  refine r_aload_n (pc := 11) (j := 0) dX7_smooth_11 rfl rfl ?_
  obtain ⟨v2, σ5, eσ5, hr⟩ := bnd_inv hr
  refine kX7_takeSpare (pc := 12) eσ5 tw_3_176 ⟨nle rfl, nle rfl⟩ (nle rfl) dX7_smooth_12 fun hσ5 => ?_
  exact l_osi hr (r_iret (pc := 15) (v := v2) rfl rfl ⟨Nat.le_refl _, Nat.le_refl _⟩ dX7_smooth_15)

theorem kX7_smooth {g : GG} {σ : SS}  {v : Int32} {σ2 : SS} {M : MM} {F : State → Array Value → List Frame → State → Prop} {pc index : Nat} {ls : List (Nat × Value)} {rest : List Value} (hf : fX7_smooth σ = some (v, σ2))  (hl : Cond.methodLink M.1.cls index yX7_smooth ∈ lw_gt) (hR : mX7_smooth.2.2.2.2.frames + 1 ≤ M.2.2.2.2.frames ∧ 8 + (mX7_smooth.2.2.1 + 11) + mX7_smooth.2.2.2.2.locals ≤ M.2.2.2.2.locals) (hrest : (rest.map fun v => v.category).sum ≤ 8) (hd : decode M.2.1 pc = .ok (.invokevirtual index, 3)) (k : WT σ2 → RR g M F zF (pc + 3) ls (.int v :: rest) σ2) : RR g M F zF pc ls (.ref (ad g 1) :: rest) σ :=
  r_callV (z := zF) (N := mX7_smooth) (nn := 0) (o1 := some (.int v)) (sX7_smooth hf ) (rfl : shp 1 = (7, 0)) (by decide) (shp_le (rfl : shp 1 = (7, 0)) (nle rfl)) (ci := 7) rfl rfl tw_3_229 tw_1_1 hl tw_3_227 tw_3_228 ⟨by decide, by decide, rfl⟩ hR rfl hrest hd ⟨Nat.zero_le _, Nat.zero_le _⟩ rfl (fun h => k (h rfl))

theorem dX8_smooth_0 : decode cX8_smooth 0 = .ok (.aload_n 0, 1) := by decide +kernel
theorem dX8_smooth_1 : decode cX8_smooth 1 = .ok (.invokevirtual 289, 3) := by decide +kernel
theorem dX8_smooth_4 : decode cX8_smooth 4 = .ok (.iconst 0, 1) := by decide +kernel
theorem dX8_smooth_5 : decode cX8_smooth 5 = .ok (.istore_n 1, 1) := by decide +kernel
theorem dX8_smooth_6 : decode cX8_smooth 6 = .ok (.iload_n 1, 1) := by decide +kernel
theorem dX8_smooth_7 : decode cX8_smooth 7 = .ok (.aload_n 0, 1) := by decide +kernel
theorem dX8_smooth_8 : decode cX8_smooth 8 = .ok (.getfield 136, 3) := by decide +kernel
theorem dX8_smooth_11 : decode cX8_smooth 11 = .ok (.if_icmp .ge 204, 3) := by decide +kernel
theorem dX8_smooth_14 : decode cX8_smooth 14 = .ok (.iconst 0, 1) := by decide +kernel
theorem dX8_smooth_15 : decode cX8_smooth 15 = .ok (.istore_n 2, 1) := by decide +kernel
theorem dX8_smooth_16 : decode cX8_smooth 16 = .ok (.iload_n 2, 1) := by decide +kernel
theorem dX8_smooth_17 : decode cX8_smooth 17 = .ok (.aload_n 0, 1) := by decide +kernel
theorem dX8_smooth_18 : decode cX8_smooth 18 = .ok (.getfield 132, 3) := by decide +kernel
theorem dX8_smooth_21 : decode cX8_smooth 21 = .ok (.if_icmp .ge 188, 3) := by decide +kernel
theorem dX8_smooth_24 : decode cX8_smooth 24 = .ok (.iconst 0, 1) := by decide +kernel
theorem dX8_smooth_25 : decode cX8_smooth 25 = .ok (.istore_n 3, 1) := by decide +kernel
theorem dX8_smooth_26 : decode cX8_smooth 26 = .ok (.iload_n 3, 1) := by decide +kernel
theorem dX8_smooth_27 : decode cX8_smooth 27 = .ok (.bipush 10, 2) := by decide +kernel
theorem dX8_smooth_29 : decode cX8_smooth 29 = .ok (.if_icmp .ge 16, 3) := by decide +kernel
theorem dX8_smooth_32 : decode cX8_smooth 32 = .ok (.aload_n 0, 1) := by decide +kernel
theorem dX8_smooth_33 : decode cX8_smooth 33 = .ok (.getfield 62, 3) := by decide +kernel
theorem dX8_smooth_36 : decode cX8_smooth 36 = .ok (.iload_n 3, 1) := by decide +kernel
theorem dX8_smooth_37 : decode cX8_smooth 37 = .ok (.iconst 0, 1) := by decide +kernel
theorem dX8_smooth_38 : decode cX8_smooth 38 = .ok (.iastore, 1) := by decide +kernel
theorem dX8_smooth_39 : decode cX8_smooth 39 = .ok (.iinc 3 1, 3) := by decide +kernel
theorem dX8_smooth_42 : decode cX8_smooth 42 = .ok (.goto (-16), 3) := by decide +kernel
theorem dX8_smooth_45 : decode cX8_smooth 45 = .ok (.iconst 0, 1) := by decide +kernel
theorem dX8_smooth_46 : decode cX8_smooth 46 = .ok (.istore_n 3, 1) := by decide +kernel
theorem dX8_smooth_47 : decode cX8_smooth 47 = .ok (.iload_n 1, 1) := by decide +kernel
theorem dX8_smooth_48 : decode cX8_smooth 48 = .ok (.iconst 1, 1) := by decide +kernel
theorem dX8_smooth_49 : decode cX8_smooth 49 = .ok (.isub, 1) := by decide +kernel
theorem dX8_smooth_50 : decode cX8_smooth 50 = .ok (.istore 4, 2) := by decide +kernel
theorem dX8_smooth_52 : decode cX8_smooth 52 = .ok (.iload 4, 2) := by decide +kernel
theorem dX8_smooth_54 : decode cX8_smooth 54 = .ok (.iload_n 1, 1) := by decide +kernel
theorem dX8_smooth_55 : decode cX8_smooth 55 = .ok (.iconst 2, 1) := by decide +kernel
theorem dX8_smooth_56 : decode cX8_smooth 56 = .ok (.iadd, 1) := by decide +kernel
theorem dX8_smooth_57 : decode cX8_smooth 57 = .ok (.if_icmp .ge 88, 3) := by decide +kernel
theorem dX8_smooth_60 : decode cX8_smooth 60 = .ok (.iload_n 2, 1) := by decide +kernel
theorem dX8_smooth_61 : decode cX8_smooth 61 = .ok (.iconst 1, 1) := by decide +kernel
theorem dX8_smooth_62 : decode cX8_smooth 62 = .ok (.isub, 1) := by decide +kernel
theorem dX8_smooth_63 : decode cX8_smooth 63 = .ok (.istore 5, 2) := by decide +kernel
theorem dX8_smooth_65 : decode cX8_smooth 65 = .ok (.iload 5, 2) := by decide +kernel
theorem dX8_smooth_67 : decode cX8_smooth 67 = .ok (.iload_n 2, 1) := by decide +kernel
theorem dX8_smooth_68 : decode cX8_smooth 68 = .ok (.iconst 2, 1) := by decide +kernel
theorem dX8_smooth_69 : decode cX8_smooth 69 = .ok (.iadd, 1) := by decide +kernel
theorem dX8_smooth_70 : decode cX8_smooth 70 = .ok (.if_icmp .ge 69, 3) := by decide +kernel
theorem dX8_smooth_73 : decode cX8_smooth 73 = .ok (.aload_n 0, 1) := by decide +kernel
theorem dX8_smooth_74 : decode cX8_smooth 74 = .ok (.iload 5, 2) := by decide +kernel
theorem dX8_smooth_76 : decode cX8_smooth 76 = .ok (.iload 4, 2) := by decide +kernel
theorem dX8_smooth_78 : decode cX8_smooth 78 = .ok (.invokevirtual 281, 3) := by decide +kernel
theorem dX8_smooth_81 : decode cX8_smooth 81 = .ok (.ifCond .ne 6, 3) := by decide +kernel
theorem dX8_smooth_84 : decode cX8_smooth 84 = .ok (.goto 49, 3) := by decide +kernel
theorem dX8_smooth_87 : decode cX8_smooth 87 = .ok (.aload_n 0, 1) := by decide +kernel
theorem dX8_smooth_88 : decode cX8_smooth 88 = .ok (.getfield 62, 3) := by decide +kernel
theorem dX8_smooth_91 : decode cX8_smooth 91 = .ok (.aload_n 0, 1) := by decide +kernel
theorem dX8_smooth_92 : decode cX8_smooth 92 = .ok (.getfield 41, 3) := by decide +kernel
theorem dX8_smooth_95 : decode cX8_smooth 95 = .ok (.aload_n 0, 1) := by decide +kernel
theorem dX8_smooth_96 : decode cX8_smooth 96 = .ok (.getfield 132, 3) := by decide +kernel
theorem dX8_smooth_99 : decode cX8_smooth 99 = .ok (.iload 4, 2) := by decide +kernel
theorem dX8_smooth_101 : decode cX8_smooth 101 = .ok (.imul, 1) := by decide +kernel
theorem dX8_smooth_102 : decode cX8_smooth 102 = .ok (.iload 5, 2) := by decide +kernel
theorem dX8_smooth_104 : decode cX8_smooth 104 = .ok (.iadd, 1) := by decide +kernel
theorem dX8_smooth_105 : decode cX8_smooth 105 = .ok (.iaload, 1) := by decide +kernel
theorem dX8_smooth_106 : decode cX8_smooth 106 = .ok (.aload_n 0, 1) := by decide +kernel
theorem dX8_smooth_107 : decode cX8_smooth 107 = .ok (.getfield 62, 3) := by decide +kernel
theorem dX8_smooth_110 : decode cX8_smooth 110 = .ok (.aload_n 0, 1) := by decide +kernel
theorem dX8_smooth_111 : decode cX8_smooth 111 = .ok (.getfield 41, 3) := by decide +kernel
theorem dX8_smooth_114 : decode cX8_smooth 114 = .ok (.aload_n 0, 1) := by decide +kernel
theorem dX8_smooth_115 : decode cX8_smooth 115 = .ok (.getfield 132, 3) := by decide +kernel
theorem dX8_smooth_118 : decode cX8_smooth 118 = .ok (.iload 4, 2) := by decide +kernel
theorem dX8_smooth_120 : decode cX8_smooth 120 = .ok (.imul, 1) := by decide +kernel
theorem dX8_smooth_121 : decode cX8_smooth 121 = .ok (.iload 5, 2) := by decide +kernel
theorem dX8_smooth_123 : decode cX8_smooth 123 = .ok (.iadd, 1) := by decide +kernel
theorem dX8_smooth_124 : decode cX8_smooth 124 = .ok (.iaload, 1) := by decide +kernel
theorem dX8_smooth_125 : decode cX8_smooth 125 = .ok (.iaload, 1) := by decide +kernel
theorem dX8_smooth_126 : decode cX8_smooth 126 = .ok (.iconst 1, 1) := by decide +kernel
theorem dX8_smooth_127 : decode cX8_smooth 127 = .ok (.iadd, 1) := by decide +kernel
theorem dX8_smooth_128 : decode cX8_smooth 128 = .ok (.iastore, 1) := by decide +kernel
theorem dX8_smooth_129 : decode cX8_smooth 129 = .ok (.iload_n 3, 1) := by decide +kernel
theorem dX8_smooth_130 : decode cX8_smooth 130 = .ok (.iconst 1, 1) := by decide +kernel
theorem dX8_smooth_131 : decode cX8_smooth 131 = .ok (.iadd, 1) := by decide +kernel
theorem dX8_smooth_132 : decode cX8_smooth 132 = .ok (.istore_n 3, 1) := by decide +kernel
theorem dX8_smooth_133 : decode cX8_smooth 133 = .ok (.iinc 5 1, 3) := by decide +kernel
theorem dX8_smooth_136 : decode cX8_smooth 136 = .ok (.goto (-71), 3) := by decide +kernel
theorem dX8_smooth_139 : decode cX8_smooth 139 = .ok (.iinc 4 1, 3) := by decide +kernel
theorem dX8_smooth_142 : decode cX8_smooth 142 = .ok (.goto (-90), 3) := by decide +kernel
theorem dX8_smooth_145 : decode cX8_smooth 145 = .ok (.iload_n 3, 1) := by decide +kernel
theorem dX8_smooth_146 : decode cX8_smooth 146 = .ok (.iconst 1, 1) := by decide +kernel
theorem dX8_smooth_147 : decode cX8_smooth 147 = .ok (.isub, 1) := by decide +kernel
theorem dX8_smooth_148 : decode cX8_smooth 148 = .ok (.iconst 2, 1) := by decide +kernel
theorem dX8_smooth_149 : decode cX8_smooth 149 = .ok (.idiv, 1) := by decide +kernel
theorem dX8_smooth_150 : decode cX8_smooth 150 = .ok (.istore 4, 2) := by decide +kernel
theorem dX8_smooth_152 : decode cX8_smooth 152 = .ok (.iconst 0, 1) := by decide +kernel
theorem dX8_smooth_153 : decode cX8_smooth 153 = .ok (.istore 5, 2) := by decide +kernel
theorem dX8_smooth_155 : decode cX8_smooth 155 = .ok (.iload 4, 2) := by decide +kernel
theorem dX8_smooth_157 : decode cX8_smooth 157 = .ok (.aload_n 0, 1) := by decide +kernel
theorem dX8_smooth_158 : decode cX8_smooth 158 = .ok (.getfield 62, 3) := by decide +kernel
theorem dX8_smooth_161 : decode cX8_smooth 161 = .ok (.iload 5, 2) := by decide +kernel
theorem dX8_smooth_163 : decode cX8_smooth 163 = .ok (.iaload, 1) := by decide +kernel
theorem dX8_smooth_164 : decode cX8_smooth 164 = .ok (.if_icmp .lt 24, 3) := by decide +kernel
theorem dX8_smooth_167 : decode cX8_smooth 167 = .ok (.iload 4, 2) := by decide +kernel
theorem dX8_smooth_169 : decode cX8_smooth 169 = .ok (.aload_n 0, 1) := by decide +kernel
theorem dX8_smooth_170 : decode cX8_smooth 170 = .ok (.getfield 62, 3) := by decide +kernel
theorem dX8_smooth_173 : decode cX8_smooth 173 = .ok (.iload 5, 2) := by decide +kernel
theorem dX8_smooth_175 : decode cX8_smooth 175 = .ok (.iaload, 1) := by decide +kernel
theorem dX8_smooth_176 : decode cX8_smooth 176 = .ok (.isub, 1) := by decide +kernel
theorem dX8_smooth_177 : decode cX8_smooth 177 = .ok (.istore 4, 2) := by decide +kernel
theorem dX8_smooth_179 : decode cX8_smooth 179 = .ok (.iload 5, 2) := by decide +kernel
theorem dX8_smooth_181 : decode cX8_smooth 181 = .ok (.iconst 1, 1) := by decide +kernel
theorem dX8_smooth_182 : decode cX8_smooth 182 = .ok (.iadd, 1) := by decide +kernel
theorem dX8_smooth_183 : decode cX8_smooth 183 = .ok (.istore 5, 2) := by decide +kernel
theorem dX8_smooth_185 : decode cX8_smooth 185 = .ok (.goto (-30), 3) := by decide +kernel
theorem dX8_smooth_188 : decode cX8_smooth 188 = .ok (.aload_n 0, 1) := by decide +kernel
theorem dX8_smooth_189 : decode cX8_smooth 189 = .ok (.getfield 38, 3) := by decide +kernel
theorem dX8_smooth_192 : decode cX8_smooth 192 = .ok (.aload_n 0, 1) := by decide +kernel
theorem dX8_smooth_193 : decode cX8_smooth 193 = .ok (.getfield 132, 3) := by decide +kernel
theorem dX8_smooth_196 : decode cX8_smooth 196 = .ok (.iload_n 1, 1) := by decide +kernel
theorem dX8_smooth_197 : decode cX8_smooth 197 = .ok (.imul, 1) := by decide +kernel
theorem dX8_smooth_198 : decode cX8_smooth 198 = .ok (.iload_n 2, 1) := by decide +kernel
theorem dX8_smooth_199 : decode cX8_smooth 199 = .ok (.iadd, 1) := by decide +kernel
theorem dX8_smooth_200 : decode cX8_smooth 200 = .ok (.iload 5, 2) := by decide +kernel
theorem dX8_smooth_202 : decode cX8_smooth 202 = .ok (.iastore, 1) := by decide +kernel
theorem dX8_smooth_203 : decode cX8_smooth 203 = .ok (.iinc 2 1, 3) := by decide +kernel
theorem dX8_smooth_206 : decode cX8_smooth 206 = .ok (.goto (-190), 3) := by decide +kernel
theorem dX8_smooth_209 : decode cX8_smooth 209 = .ok (.iinc 1 1, 3) := by decide +kernel
theorem dX8_smooth_212 : decode cX8_smooth 212 = .ok (.goto (-206), 3) := by decide +kernel
theorem dX8_smooth_215 : decode cX8_smooth 215 = .ok (.aload_n 0, 1) := by decide +kernel
theorem dX8_smooth_216 : decode cX8_smooth 216 = .ok (.invokevirtual 295, 3) := by decide +kernel
theorem dX8_smooth_219 : decode cX8_smooth 219 = .ok (.ireturn, 1) := by decide +kernel
def mX8_smooth : MM := (yX8_smooth, cX8_smooth, 6, Option.some Jvm.ClassFile.FieldType.int, { frames := 2, cells := 0, slots := 0, locals := 44 })
def X8_smooth_L26  (k45 : SS → Option (Int32 × SS)) : Nat → Int32 → SS → Option (Int32 × SS) :=
  lp (fun _ _ => none) fun rec v3_ σ_ =>
    if (10 : Int32) ≤ v3_ then (
      k45 σ_
      ) else (
      grd (inb v3_ 10) <|
      vthen (sI σ_ 91 (Int32.toNatClampNeg v3_) (0 : Int32)) fun σ6 =>
      rec (v3_ + (1 : Int32)) σ6
      )

def X8_smooth_L65 (u2_ : Int32) (u4_ : Int32) (k139 : Int32 → SS → Option (Int32 × SS)) : Nat → Int32 → Int32 → SS → Option (Int32 × SS) :=
  lp (fun _ _ _ => none) fun rec v3_ v5_ σ_ =>
    if (u2_ + (2 : Int32)) ≤ v5_ then (
      k139 v3_ σ_
      ) else (
      if (fX8_isDot σ_ v5_ u4_) = true then (
        grd (inb (((gI σ_ 73 29) * u4_) + v5_) 1600) <|
        grd (inb (gI σ_ 84 (Int32.toNatClampNeg (((gI σ_ 73 29) * u4_) + v5_))) 10) <|
        vthen (sI σ_ 91 (Int32.toNatClampNeg (gI σ_ 84 (Int32.toNatClampNeg (((gI σ_ 73 29) * u4_) + v5_)))) ((gI σ_ 91 (Int32.toNatClampNeg (gI σ_ 84 (Int32.toNatClampNeg (((gI σ_ 73 29) * u4_) + v5_))))) + (1 : Int32))) fun σ12 =>
        vthen (v3_ + (1 : Int32)) fun v13 =>
        rec v13 (v5_ + (1 : Int32)) σ12
        ) else (
        rec v3_ (v5_ + (1 : Int32)) σ_
        )
      )

def X8_smooth_L52 (u1_ : Int32) (u2_ : Int32) (k145 : Int32 → SS → Option (Int32 × SS)) : Nat → Int32 → Int32 → SS → Option (Int32 × SS) :=
  lp (fun _ _ _ => none) fun rec v3_ v4_ σ_ =>
    if (u1_ + (2 : Int32)) ≤ v4_ then (
      k145 v3_ σ_
      ) else (
      vthen (u2_ - (1 : Int32)) fun v9 =>
      X8_smooth_L65 u2_ v4_
      (fun v14 σ15 =>
        rec v14 (v4_ + (1 : Int32)) σ15
        )
      fuel v3_ v9 σ_
      )

def X8_smooth_L155 (σ_ : SS)  (k188 : Int32 → Option (Int32 × SS)) : Nat → Int32 → Int32 → Option (Int32 × SS) :=
  lp (fun _ _ => none) fun rec v4_ v5_ =>
    grd (inb v5_ 10) <|
    if v4_ < (gI σ_ 91 (Int32.toNatClampNeg v5_)) then (
      k188 v5_
      ) else (
      vthen (v4_ - (gI σ_ 91 (Int32.toNatClampNeg v5_))) fun v20 =>
      vthen (v5_ + (1 : Int32)) fun v21 =>
      rec v20 v21
      )

def X8_smooth_L16 (u1_ : Int32) (k209 : SS → Option (Int32 × SS)) : Nat → Int32 → SS → Option (Int32 × SS) :=
  lp (fun _ _ => none) fun rec v2_ σ_ =>
    if (gI σ_ 73 29) ≤ v2_ then (
      k209 σ_
      ) else (
      X8_smooth_L26
      (fun σ7 =>
        vthen (u1_ - (1 : Int32)) fun v8 =>
        X8_smooth_L52 u1_ v2_
        (fun v16 σ17 =>
          vthen ((v16 - (1 : Int32)) / (2 : Int32)) fun v18 =>
          X8_smooth_L155 σ17
          (fun v22 =>
            grd (inb (((gI σ17 73 29) * u1_) + v2_) 1600) <|
            vthen (sI σ17 83 (Int32.toNatClampNeg (((gI σ17 73 29) * u1_) + v2_)) v22) fun σ24 =>
            rec (v2_ + (1 : Int32)) σ24
            )
          fuel v18 (0 : Int32)
          )
        fuel (0 : Int32) v8 σ7
        )
      fuel (0 : Int32) σ_
      )

def X8_smooth_L6   : Nat → Int32 → SS → Option (Int32 × SS) :=
  lp (fun _ _ => none) fun rec v1_ σ_ =>
    if (gI σ_ 73 30) ≤ v1_ then (
      bnd1 (fX8_others σ_) fun v2 =>
      some (v2, σ_)
      ) else (
      X8_smooth_L16 v1_
      (fun σ25 =>
        rec (v1_ + (1 : Int32)) σ25
        )
      fuel (0 : Int32) σ_
      )

def fX8_smooth (σ : SS)  : Option (Int32 × SS) :=
  bnd1 (fX8_puts σ) fun σ1 =>
  X8_smooth_L6
  fuel (0 : Int32) σ1

set_option maxRecDepth 20000 in
theorem sX8_smooth_L26 {g : GG} {r : Int32 × SS} {x1_ : Int32} {x2_ : Int32} {k45 : SS → Option (Int32 × SS)} 
    (hk45 : ∀ (σ_ : SS), k45 σ_ = some r → WT σ_ → RR g mX8_smooth (FinR g mX8_smooth (some (.int r.1)) NF r.2) zF 45 [(0, .ref (ad g 73)), (1, .int x1_), (2, .int x2_)] [] σ_)
    (n : Nat) : ∀ (v3_ : Int32) (σ_ : SS), X8_smooth_L26 k45 n v3_ σ_ = some r → WT σ_ → RR g mX8_smooth (FinR g mX8_smooth (some (.int r.1)) NF r.2) zF 26 [(0, .ref (ad g 73)), (1, .int x1_), (2, .int x2_), (3, .int v3_)] [] σ_ := by
  unfold X8_smooth_L26
  refine lp_ind (P := fun (rec : Int32 → SS → Option (Int32 × SS)) => ∀ (v3_ : Int32) (σ_ : SS), rec v3_ σ_ = some r → WT σ_ → RR g mX8_smooth (FinR g mX8_smooth (some (.int r.1)) NF r.2) zF 26 [(0, .ref (ad g 73)), (1, .int x1_), (2, .int x2_), (3, .int v3_)] [] σ_) ?_ ?_ n
  · intro v3_ σ_ hr; cases hr
  intro rec ih v3_ σ_ hr hw_
  refine r_iload_n (pc := 26) (j := 3) dX8_smooth_26 rfl rfl ?_
  refine r_bipush (pc := 27) (v := (10 : Int32)) dX8_smooth_27 rfl ?_
  refine r_icmp_ge (pc := 29) (tgt := 45) dX8_smooth_29 rfl (fun hc => ?_) (fun hc => ?_)
  · replace hr := ite_t hc hr
    exact r_pick (ls1 := [(0, .ref (ad g 73)), (1, .int x1_), (2, .int x2_)]) [0, 1, 2] rfl (hk45 σ_ hr hw_)
  replace hr := ite_f hc hr
  refine r_aload_n (pc := 32) (j := 0) dX8_smooth_32 rfl rfl ?_
  refine gf8_32 (pc := 33) tw_5_126 hw_ dX8_smooth_33 ?_
  refine r_iload_n (pc := 36) (j := 3) dX8_smooth_36 rfl rfl ?_
  refine r_iconst (pc := 37) (v := (0 : Int32)) dX8_smooth_37 rfl ?_
  obtain ⟨h5, hr⟩ := grd_inv hr
  refine x_iast (pc := 38) (j := (Int32.toNatClampNeg v3_)) rfl h5 rfl dX8_smooth_38 fun σ6 eσ6 => ?_
  replace hr := vthen_inv hr σ6 eσ6
  have hσ6 := wtI eσ6 hw_
  refine r_iinc (pc := 39) (j := 3) (v := (v3_ + (1 : Int32))) (ls1 := [(3, .int (v3_ + (1 : Int32))), (0, .ref (ad g 73)), (1, .int x1_), (2, .int x2_)]) dX8_smooth_39 rfl rfl (nle rfl) rfl ?_
  refine r_goto (pc := 42) (tgt := 26) dX8_smooth_42 rfl ?_
  exact r_pick (ls1 := [(0, .ref (ad g 73)), (1, .int x1_), (2, .int x2_), (3, .int (v3_ + (1 : Int32)))]) [1, 2, 3, 0] rfl (ih (v3_ + (1 : Int32)) σ6 hr hσ6)

set_option maxRecDepth 20000 in
theorem sX8_smooth_L65 {g : GG} {r : Int32 × SS} {x1_ : Int32} {u2_ : Int32} {u4_ : Int32} {k139 : Int32 → SS → Option (Int32 × SS)} 
    (hk139 : ∀ (y3 : Int32) (σ_ : SS), k139 y3 σ_ = some r → WT σ_ → RR g mX8_smooth (FinR g mX8_smooth (some (.int r.1)) NF r.2) zF 139 [(0, .ref (ad g 73)), (1, .int x1_), (2, .int u2_), (3, .int y3), (4, .int u4_)] [] σ_)
    (n : Nat) : ∀ (v3_ : Int32) (v5_ : Int32) (σ_ : SS), X8_smooth_L65 u2_ u4_ k139 n v3_ v5_ σ_ = some r → WT σ_ → RR g mX8_smooth (FinR g mX8_smooth (some (.int r.1)) NF r.2) zF 65 [(0, .ref (ad g 73)), (1, .int x1_), (2, .int u2_), (3, .int v3_), (4, .int u4_), (5, .int v5_)] [] σ_ := by
  unfold X8_smooth_L65
  refine lp_ind (P := fun (rec : Int32 → Int32 → SS → Option (Int32 × SS)) => ∀ (v3_ : Int32) (v5_ : Int32) (σ_ : SS), rec v3_ v5_ σ_ = some r → WT σ_ → RR g mX8_smooth (FinR g mX8_smooth (some (.int r.1)) NF r.2) zF 65 [(0, .ref (ad g 73)), (1, .int x1_), (2, .int u2_), (3, .int v3_), (4, .int u4_), (5, .int v5_)] [] σ_) ?_ ?_ n
  · intro v3_ v5_ σ_ hr; cases hr
  intro rec ih v3_ v5_ σ_ hr hw_
  refine r_iload (pc := 65) (j := 5) dX8_smooth_65 rfl ?_
  refine r_iload_n (pc := 67) (j := 2) dX8_smooth_67 rfl rfl ?_
  refine r_iconst (pc := 68) (v := (2 : Int32)) dX8_smooth_68 rfl ?_
  refine r_iadd (pc := 69) dX8_smooth_69 ?_
  refine r_icmp_ge (pc := 70) (tgt := 139) dX8_smooth_70 rfl (fun hc => ?_) (fun hc => ?_)
  · replace hr := ite_t hc hr
    exact r_pick (ls1 := [(0, .ref (ad g 73)), (1, .int x1_), (2, .int u2_), (3, .int v3_), (4, .int u4_)]) [0, 1, 2, 3, 4] rfl (hk139 v3_ σ_ hr hw_)
  replace hr := ite_f hc hr
  refine r_aload_n (pc := 73) (j := 0) dX8_smooth_73 rfl rfl ?_
  refine r_iload (pc := 74) (j := 5) dX8_smooth_74 rfl ?_
  refine r_iload (pc := 76) (j := 4) dX8_smooth_76 rfl ?_
  refine kX8_isDot (pc := 78) (hf := rfl) tw_6_173 ⟨nle rfl, nle rfl⟩ (nle rfl) dX8_smooth_78 ?_
  refine r_ifB_ne (pc := 81) (tgt := 87) dX8_smooth_81 rfl (fun hc => ?_) (fun hc => ?_)
  · replace hr := ite_t hc hr
    refine r_aload_n (pc := 87) (j := 0) dX8_smooth_87 rfl rfl ?_
    refine gf8_32 (pc := 88) tw_5_126 hw_ dX8_smooth_88 ?_
    refine r_aload_n (pc := 91) (j := 0) dX8_smooth_91 rfl rfl ?_
    refine gf8_22 (pc := 92) tw_5_116 hw_ dX8_smooth_92 ?_
    refine r_aload_n (pc := 95) (j := 0) dX8_smooth_95 rfl rfl ?_
    refine gf8_29 (pc := 96) tw_5_123 rfl dX8_smooth_96 ?_
    refine r_iload (pc := 99) (j := 4) dX8_smooth_99 rfl ?_
    refine r_imul (pc := 101) dX8_smooth_101 ?_
    refine r_iload (pc := 102) (j := 5) dX8_smooth_102 rfl ?_
    refine r_iadd (pc := 104) dX8_smooth_104 ?_
    obtain ⟨h10, hr⟩ := grd_inv hr
    refine x_iald (pc := 105) (k := (Int32.toNatClampNeg (((gI σ_ 73 29) * u4_) + v5_))) rfl h10 rfl dX8_smooth_105 ?_
    refine r_aload_n (pc := 106) (j := 0) dX8_smooth_106 rfl rfl ?_
    refine gf8_32 (pc := 107) tw_5_126 hw_ dX8_smooth_107 ?_
    refine r_aload_n (pc := 110) (j := 0) dX8_smooth_110 rfl rfl ?_
    refine gf8_22 (pc := 111) tw_5_116 hw_ dX8_smooth_111 ?_
    refine r_aload_n (pc := 114) (j := 0) dX8_smooth_114 rfl rfl ?_
    refine gf8_29 (pc := 115) tw_5_123 rfl dX8_smooth_115 ?_
    refine r_iload (pc := 118) (j := 4) dX8_smooth_118 rfl ?_
    refine r_imul (pc := 120) dX8_smooth_120 ?_
    refine r_iload (pc := 121) (j := 5) dX8_smooth_121 rfl ?_
    refine r_iadd (pc := 123) dX8_smooth_123 ?_
    refine x_iald (pc := 124) (k := (Int32.toNatClampNeg (((gI σ_ 73 29) * u4_) + v5_))) rfl h10 rfl dX8_smooth_124 ?_
    obtain ⟨h11, hr⟩ := grd_inv hr
    refine x_iald (pc := 125) (k := (Int32.toNatClampNeg (gI σ_ 84 (Int32.toNatClampNeg (((gI σ_ 73 29) * u4_) + v5_))))) rfl h11 rfl dX8_smooth_125 ?_
    refine r_iconst (pc := 126) (v := (1 : Int32)) dX8_smooth_126 rfl ?_
    refine r_iadd (pc := 127) dX8_smooth_127 ?_
    refine x_iast (pc := 128) (j := (Int32.toNatClampNeg (gI σ_ 84 (Int32.toNatClampNeg (((gI σ_ 73 29) * u4_) + v5_))))) rfl h11 rfl dX8_smooth_128 fun σ12 eσ12 => ?_
    replace hr := vthen_inv hr σ12 eσ12
    have hσ12 := wtI eσ12 hw_
    refine r_iload_n (pc := 129) (j := 3) dX8_smooth_129 rfl rfl ?_
    refine r_iconst (pc := 130) (v := (1 : Int32)) dX8_smooth_130 rfl ?_
    refine r_iadd (pc := 131) dX8_smooth_131 ?_
    refine r_topi fun v13 ev13 => ?_
    replace hr := vthen_inv hr v13 ev13
    refine r_istore_n (pc := 132) (ls1 := [(3, .int v13), (0, .ref (ad g 73)), (1, .int x1_), (2, .int u2_), (4, .int u4_), (5, .int v5_)]) dX8_smooth_132 rfl (nle rfl) rfl ?_
    refine r_iinc (pc := 133) (j := 5) (v := (v5_ + (1 : Int32))) (ls1 := [(5, .int (v5_ + (1 : Int32))), (3, .int v13), (0, .ref (ad g 73)), (1, .int x1_), (2, .int u2_), (4, .int u4_)]) dX8_smooth_133 rfl rfl (nle rfl) rfl ?_
    refine r_goto (pc := 136) (tgt := 65) dX8_smooth_136 rfl ?_
    exact r_pick (ls1 := [(0, .ref (ad g 73)), (1, .int x1_), (2, .int u2_), (3, .int v13), (4, .int u4_), (5, .int (v5_ + (1 : Int32)))]) [2, 3, 4, 1, 5, 0] rfl (ih v13 (v5_ + (1 : Int32)) σ12 hr hσ12)
  replace hr := ite_f hc hr
  refine r_goto (pc := 84) (tgt := 133) dX8_smooth_84 rfl ?_
  refine r_iinc (pc := 133) (j := 5) (v := (v5_ + (1 : Int32))) (ls1 := [(5, .int (v5_ + (1 : Int32))), (0, .ref (ad g 73)), (1, .int x1_), (2, .int u2_), (3, .int v3_), (4, .int u4_)]) dX8_smooth_133 rfl rfl (nle rfl) rfl ?_
  refine r_goto (pc := 136) (tgt := 65) dX8_smooth_136 rfl ?_
  exact r_pick (ls1 := [(0, .ref (ad g 73)), (1, .int x1_), (2, .int u2_), (3, .int v3_), (4, .int u4_), (5, .int (v5_ + (1 : Int32)))]) [1, 2, 3, 4, 5, 0] rfl (ih v3_ (v5_ + (1 : Int32)) σ_ hr hw_)

set_option maxRecDepth 20000 in
theorem sX8_smooth_L52 {g : GG} {r : Int32 × SS} {u1_ : Int32} {u2_ : Int32} {k145 : Int32 → SS → Option (Int32 × SS)} 
    (hk145 : ∀ (y3 : Int32) (σ_ : SS), k145 y3 σ_ = some r → WT σ_ → RR g mX8_smooth (FinR g mX8_smooth (some (.int r.1)) NF r.2) zF 145 [(0, .ref (ad g 73)), (1, .int u1_), (2, .int u2_), (3, .int y3)] [] σ_)
    (n : Nat) : ∀ (v3_ : Int32) (v4_ : Int32) (σ_ : SS), X8_smooth_L52 u1_ u2_ k145 n v3_ v4_ σ_ = some r → WT σ_ → RR g mX8_smooth (FinR g mX8_smooth (some (.int r.1)) NF r.2) zF 52 [(0, .ref (ad g 73)), (1, .int u1_), (2, .int u2_), (3, .int v3_), (4, .int v4_)] [] σ_ := by
  unfold X8_smooth_L52
  refine lp_ind (P := fun (rec : Int32 → Int32 → SS → Option (Int32 × SS)) => ∀ (v3_ : Int32) (v4_ : Int32) (σ_ : SS), rec v3_ v4_ σ_ = some r → WT σ_ → RR g mX8_smooth (FinR g mX8_smooth (some (.int r.1)) NF r.2) zF 52 [(0, .ref (ad g 73)), (1, .int u1_), (2, .int u2_), (3, .int v3_), (4, .int v4_)] [] σ_) ?_ ?_ n
  · intro v3_ v4_ σ_ hr; cases hr
  intro rec ih v3_ v4_ σ_ hr hw_
  refine r_iload (pc := 52) (j := 4) dX8_smooth_52 rfl ?_
  refine r_iload_n (pc := 54) (j := 1) dX8_smooth_54 rfl rfl ?_
  refine r_iconst (pc := 55) (v := (2 : Int32)) dX8_smooth_55 rfl ?_
  refine r_iadd (pc := 56) dX8_smooth_56 ?_
  refine r_icmp_ge (pc := 57) (tgt := 145) dX8_smooth_57 rfl (fun hc => ?_) (fun hc => ?_)
  · replace hr := ite_t hc hr
    exact r_pick (ls1 := [(0, .ref (ad g 73)), (1, .int u1_), (2, .int u2_), (3, .int v3_)]) [0, 1, 2, 3] rfl (hk145 v3_ σ_ hr hw_)
  replace hr := ite_f hc hr
  refine r_iload_n (pc := 60) (j := 2) dX8_smooth_60 rfl rfl ?_
  refine r_iconst (pc := 61) (v := (1 : Int32)) dX8_smooth_61 rfl ?_
  refine r_isub (pc := 62) dX8_smooth_62 ?_
  refine r_topi fun v9 ev9 => ?_
  replace hr := vthen_inv hr v9 ev9
  refine r_istore (pc := 63) (ls1 := [(5, .int v9), (0, .ref (ad g 73)), (1, .int u1_), (2, .int u2_), (3, .int v3_), (4, .int v4_)]) dX8_smooth_63 (nle rfl) rfl ?_
  refine r_pick (ls1 := [(0, .ref (ad g 73)), (1, .int u1_), (2, .int u2_), (3, .int v3_), (4, .int v4_), (5, .int v9)]) [1, 2, 3, 4, 5, 0] rfl ?_
  refine sX8_smooth_L65    (fun v14 σ15 hr hσ15 => ?_) fuel v3_ v9 σ_ hr hw_
  refine r_iinc (pc := 139) (j := 4) (v := (v4_ + (1 : Int32))) (ls1 := [(4, .int (v4_ + (1 : Int32))), (0, .ref (ad g 73)), (1, .int u1_), (2, .int u2_), (3, .int v14)]) dX8_smooth_139 rfl rfl (nle rfl) rfl ?_
  refine r_goto (pc := 142) (tgt := 52) dX8_smooth_142 rfl ?_
  exact r_pick (ls1 := [(0, .ref (ad g 73)), (1, .int u1_), (2, .int u2_), (3, .int v14), (4, .int (v4_ + (1 : Int32)))]) [1, 2, 3, 4, 0] rfl (ih v14 (v4_ + (1 : Int32)) σ15 hr hσ15)

set_option maxRecDepth 20000 in
theorem sX8_smooth_L155 {g : GG} {r : Int32 × SS} {σ_ : SS} {x1_ : Int32} {x2_ : Int32} {k188 : Int32 → Option (Int32 × SS)} 
    (hw_ : WT σ_)
    (hk188 : ∀ (y5 : Int32), k188 y5 = some r → RR g mX8_smooth (FinR g mX8_smooth (some (.int r.1)) NF r.2) zF 188 [(0, .ref (ad g 73)), (1, .int x1_), (2, .int x2_), (5, .int y5)] [] σ_)
    (n : Nat) : ∀ (v4_ : Int32) (v5_ : Int32), X8_smooth_L155 σ_ k188 n v4_ v5_ = some r → RR g mX8_smooth (FinR g mX8_smooth (some (.int r.1)) NF r.2) zF 155 [(0, .ref (ad g 73)), (1, .int x1_), (2, .int x2_), (4, .int v4_), (5, .int v5_)] [] σ_ := by
  unfold X8_smooth_L155
  refine lp_ind (P := fun (rec : Int32 → Int32 → Option (Int32 × SS)) => ∀ (v4_ : Int32) (v5_ : Int32), rec v4_ v5_ = some r → RR g mX8_smooth (FinR g mX8_smooth (some (.int r.1)) NF r.2) zF 155 [(0, .ref (ad g 73)), (1, .int x1_), (2, .int x2_), (4, .int v4_), (5, .int v5_)] [] σ_) ?_ ?_ n
  · intro v4_ v5_ hr; cases hr
  intro rec ih v4_ v5_ hr
  refine r_iload (pc := 155) (j := 3) dX8_smooth_155 rfl ?_
  refine r_aload_n (pc := 157) (j := 0) dX8_smooth_157 rfl rfl ?_
  refine gf8_32 (pc := 158) tw_5_126 hw_ dX8_smooth_158 ?_
  refine r_iload (pc := 161) (j := 4) dX8_smooth_161 rfl ?_
  obtain ⟨h19, hr⟩ := grd_inv hr
  refine x_iald (pc := 163) (k := (Int32.toNatClampNeg v5_)) rfl h19 rfl dX8_smooth_163 ?_
  refine r_icmp_lt (pc := 164) (tgt := 188) dX8_smooth_164 rfl (fun hc => ?_) (fun hc => ?_)
  · replace hr := ite_t hc hr
    exact r_pick (ls1 := [(0, .ref (ad g 73)), (1, .int x1_), (2, .int x2_), (5, .int v5_)]) [0, 1, 2, 4] rfl (hk188 v5_ hr)
  replace hr := ite_f hc hr
  refine r_iload (pc := 167) (j := 3) dX8_smooth_167 rfl ?_
  refine r_aload_n (pc := 169) (j := 0) dX8_smooth_169 rfl rfl ?_
  refine gf8_32 (pc := 170) tw_5_126 hw_ dX8_smooth_170 ?_
  refine r_iload (pc := 173) (j := 4) dX8_smooth_173 rfl ?_
  refine x_iald (pc := 175) (k := (Int32.toNatClampNeg v5_)) rfl h19 rfl dX8_smooth_175 ?_
  refine r_isub (pc := 176) dX8_smooth_176 ?_
  refine r_topi fun v20 ev20 => ?_
  replace hr := vthen_inv hr v20 ev20
  refine r_istore (pc := 177) (ls1 := [(4, .int v20), (0, .ref (ad g 73)), (1, .int x1_), (2, .int x2_), (5, .int v5_)]) dX8_smooth_177 (nle rfl) rfl ?_
  refine r_iload (pc := 179) (j := 4) dX8_smooth_179 rfl ?_
  refine r_iconst (pc := 181) (v := (1 : Int32)) dX8_smooth_181 rfl ?_
  refine r_iadd (pc := 182) dX8_smooth_182 ?_
  refine r_topi fun v21 ev21 => ?_
  replace hr := vthen_inv hr v21 ev21
  refine r_istore (pc := 183) (ls1 := [(5, .int v21), (4, .int v20), (0, .ref (ad g 73)), (1, .int x1_), (2, .int x2_)]) dX8_smooth_183 (nle rfl) rfl ?_
  refine r_goto (pc := 185) (tgt := 155) dX8_smooth_185 rfl ?_
  exact r_pick (ls1 := [(0, .ref (ad g 73)), (1, .int x1_), (2, .int x2_), (4, .int v20), (5, .int v21)]) [2, 3, 4, 1, 0] rfl (ih v20 v21 hr)

set_option maxRecDepth 20000 in
theorem sX8_smooth_L16 {g : GG} {r : Int32 × SS} {u1_ : Int32} {k209 : SS → Option (Int32 × SS)} 
    (hk209 : ∀ (σ_ : SS), k209 σ_ = some r → WT σ_ → RR g mX8_smooth (FinR g mX8_smooth (some (.int r.1)) NF r.2) zF 209 [(0, .ref (ad g 73)), (1, .int u1_)] [] σ_)
    (n : Nat) : ∀ (v2_ : Int32) (σ_ : SS), X8_smooth_L16 u1_ k209 n v2_ σ_ = some r → WT σ_ → RR g mX8_smooth (FinR g mX8_smooth (some (.int r.1)) NF r.2) zF 16 [(0, .ref (ad g 73)), (1, .int u1_), (2, .int v2_)] [] σ_ := by
  unfold X8_smooth_L16
  refine lp_ind (P := fun (rec : Int32 → SS → Option (Int32 × SS)) => ∀ (v2_ : Int32) (σ_ : SS), rec v2_ σ_ = some r → WT σ_ → RR g mX8_smooth (FinR g mX8_smooth (some (.int r.1)) NF r.2) zF 16 [(0, .ref (ad g 73)), (1, .int u1_), (2, .int v2_)] [] σ_) ?_ ?_ n
  · intro v2_ σ_ hr; cases hr
  intro rec ih v2_ σ_ hr hw_
  refine r_iload_n (pc := 16) (j := 2) dX8_smooth_16 rfl rfl ?_
  refine r_aload_n (pc := 17) (j := 0) dX8_smooth_17 rfl rfl ?_
  refine gf8_29 (pc := 18) tw_5_123 rfl dX8_smooth_18 ?_
  refine r_icmp_ge (pc := 21) (tgt := 209) dX8_smooth_21 rfl (fun hc => ?_) (fun hc => ?_)
  · replace hr := ite_t hc hr
    exact r_pick (ls1 := [(0, .ref (ad g 73)), (1, .int u1_)]) [0, 1] rfl (hk209 σ_ hr hw_)
  replace hr := ite_f hc hr
  refine r_iconst (pc := 24) (v := (0 : Int32)) dX8_smooth_24 rfl ?_
  refine r_istore_n (pc := 25) (ls1 := [(3, .int (0 : Int32)), (0, .ref (ad g 73)), (1, .int u1_), (2, .int v2_)]) dX8_smooth_25 rfl (nle rfl) rfl ?_
  refine r_pick (ls1 := [(0, .ref (ad g 73)), (1, .int u1_), (2, .int v2_), (3, .int (0 : Int32))]) [1, 2, 3, 0] rfl ?_
  refine sX8_smooth_L26    (fun σ7 hr hσ7 => ?_) fuel (0 : Int32) σ_ hr hw_
  refine r_iconst (pc := 45) (v := (0 : Int32)) dX8_smooth_45 rfl ?_
  refine r_istore_n (pc := 46) (ls1 := [(3, .int (0 : Int32)), (0, .ref (ad g 73)), (1, .int u1_), (2, .int v2_)]) dX8_smooth_46 rfl (nle rfl) rfl ?_
  refine r_iload_n (pc := 47) (j := 2) dX8_smooth_47 rfl rfl ?_
  refine r_iconst (pc := 48) (v := (1 : Int32)) dX8_smooth_48 rfl ?_
  refine r_isub (pc := 49) dX8_smooth_49 ?_
  refine r_topi fun v8 ev8 => ?_
  replace hr := vthen_inv hr v8 ev8
  refine r_istore (pc := 50) (ls1 := [(4, .int v8), (3, .int (0 : Int32)), (0, .ref (ad g 73)), (1, .int u1_), (2, .int v2_)]) dX8_smooth_50 (nle rfl) rfl ?_
  refine r_pick (ls1 := [(0, .ref (ad g 73)), (1, .int u1_), (2, .int v2_), (3, .int (0 : Int32)), (4, .int v8)]) [2, 3, 4, 1, 0] rfl ?_
  refine sX8_smooth_L52    (fun v16 σ17 hr hσ17 => ?_) fuel (0 : Int32) v8 σ7 hr hσ7
  refine r_iload_n (pc := 145) (j := 3) dX8_smooth_145 rfl rfl ?_
  refine r_iconst (pc := 146) (v := (1 : Int32)) dX8_smooth_146 rfl ?_
  refine r_isub (pc := 147) dX8_smooth_147 ?_
  refine r_iconst (pc := 148) (v := (2 : Int32)) dX8_smooth_148 rfl ?_
  refine r_idiv (pc := 149) dX8_smooth_149 (by decide) ?_
  refine r_topi fun v18 ev18 => ?_
  replace hr := vthen_inv hr v18 ev18
  refine r_istore (pc := 150) (ls1 := [(4, .int v18), (0, .ref (ad g 73)), (1, .int u1_), (2, .int v2_), (3, .int v16)]) dX8_smooth_150 (nle rfl) rfl ?_
  refine r_iconst (pc := 152) (v := (0 : Int32)) dX8_smooth_152 rfl ?_
  refine r_istore (pc := 153) (ls1 := [(5, .int (0 : Int32)), (4, .int v18), (0, .ref (ad g 73)), (1, .int u1_), (2, .int v2_), (3, .int v16)]) dX8_smooth_153 (nle rfl) rfl ?_
  refine r_pick (ls1 := [(0, .ref (ad g 73)), (1, .int u1_), (2, .int v2_), (4, .int v18), (5, .int (0 : Int32))]) [2, 3, 4, 1, 0] rfl ?_
  refine sX8_smooth_L155  hσ17  (fun v22 hr => ?_) fuel v18 (0 : Int32) hr
  refine r_aload_n (pc := 188) (j := 0) dX8_smooth_188 rfl rfl ?_
  refine gf8_21 (pc := 189) tw_5_115 hσ17 dX8_smooth_189 ?_
  refine r_aload_n (pc := 192) (j := 0) dX8_smooth_192 rfl rfl ?_
  refine gf8_29 (pc := 193) tw_5_123 rfl dX8_smooth_193 ?_
  refine r_iload_n (pc := 196) (j := 1) dX8_smooth_196 rfl rfl ?_
  refine r_imul (pc := 197) dX8_smooth_197 ?_
  refine r_iload_n (pc := 198) (j := 2) dX8_smooth_198 rfl rfl ?_
  refine r_iadd (pc := 199) dX8_smooth_199 ?_
  refine r_iload (pc := 200) (j := 3) dX8_smooth_200 rfl ?_
  obtain ⟨h23, hr⟩ := grd_inv hr
  refine x_iast (pc := 202) (j := (Int32.toNatClampNeg (((gI σ17 73 29) * u1_) + v2_))) rfl h23 rfl dX8_smooth_202 fun σ24 eσ24 => ?_
  replace hr := vthen_inv hr σ24 eσ24
  have hσ24 := wtI eσ24 hσ17
  refine r_iinc (pc := 203) (j := 2) (v := (v2_ + (1 : Int32))) (ls1 := [(2, .int (v2_ + (1 : Int32))), (0, .ref (ad g 73)), (1, .int u1_), (5, .int v22)]) dX8_smooth_203 rfl rfl (nle rfl) rfl ?_
  refine r_goto (pc := 206) (tgt := 16) dX8_smooth_206 rfl ?_
  exact r_pick (ls1 := [(0, .ref (ad g 73)), (1, .int u1_), (2, .int (v2_ + (1 : Int32)))]) [1, 2, 0] rfl (ih (v2_ + (1 : Int32)) σ24 hr hσ24)

set_option maxRecDepth 20000 in
theorem sX8_smooth_L6 {g : GG} {r : Int32 × SS}   
    (n : Nat) : ∀ (v1_ : Int32) (σ_ : SS), X8_smooth_L6 n v1_ σ_ = some r → WT σ_ → RR g mX8_smooth (FinR g mX8_smooth (some (.int r.1)) NF r.2) zF 6 [(0, .ref (ad g 73)), (1, .int v1_)] [] σ_ := by
  unfold X8_smooth_L6
  refine lp_ind (P := fun (rec : Int32 → SS → Option (Int32 × SS)) => ∀ (v1_ : Int32) (σ_ : SS), rec v1_ σ_ = some r → WT σ_ → RR g mX8_smooth (FinR g mX8_smooth (some (.int r.1)) NF r.2) zF 6 [(0, .ref (ad g 73)), (1, .int v1_)] [] σ_) ?_ ?_ n
  · intro v1_ σ_ hr; cases hr
  intro rec ih v1_ σ_ hr hw_
  refine r_iload_n (pc := 6) (j := 1) dX8_smooth_6 rfl rfl ?_
  refine r_aload_n (pc := 7) (j := 0) dX8_smooth_7 rfl rfl ?_
  refine gf8_30 (pc := 8) tw_5_124 rfl dX8_smooth_8 ?_
  refine r_icmp_ge (pc := 11) (tgt := 215) dX8_smooth_11 rfl (fun hc => ?_) (fun hc => ?_)
  · replace hr := ite_t hc hr
    refine r_aload_n (pc := 215) (j := 0) dX8_smooth_215 rfl rfl ?_
    obtain ⟨v2, hv2, hr⟩ := bnd1_inv hr
    refine kX8_others (pc := 216) hv2 tw_6_211 ⟨nle rfl, nle rfl⟩ (nle rfl) dX8_smooth_216 ?_
    exact l_osi hr (r_iret (pc := 219) (v := v2) rfl rfl ⟨Nat.le_refl _, Nat.le_refl _⟩ dX8_smooth_219)
  replace hr := ite_f hc hr
  refine r_iconst (pc := 14) (v := (0 : Int32)) dX8_smooth_14 rfl ?_
  refine r_istore_n (pc := 15) (ls1 := [(2, .int (0 : Int32)), (0, .ref (ad g 73)), (1, .int v1_)]) dX8_smooth_15 rfl (nle rfl) rfl ?_
  refine r_pick (ls1 := [(0, .ref (ad g 73)), (1, .int v1_), (2, .int (0 : Int32))]) [1, 2, 0] rfl ?_
  refine sX8_smooth_L16    (fun σ25 hr hσ25 => ?_) fuel (0 : Int32) σ_ hr hw_
  refine r_iinc (pc := 209) (j := 1) (v := (v1_ + (1 : Int32))) (ls1 := [(1, .int (v1_ + (1 : Int32))), (0, .ref (ad g 73))]) dX8_smooth_209 rfl rfl (nle rfl) rfl ?_
  refine r_goto (pc := 212) (tgt := 6) dX8_smooth_212 rfl ?_
  exact r_pick (ls1 := [(0, .ref (ad g 73)), (1, .int (v1_ + (1 : Int32)))]) [1, 0] rfl (ih (v1_ + (1 : Int32)) σ25 hr hσ25)

set_option maxRecDepth 20000 in
theorem sX8_smooth {g : GG} {σ : SS}  {r : Int32 × SS} (hr : fX8_smooth σ = some r)  : Ct g mX8_smooth [.ref (ad g 73)] NF σ (some (.int r.1)) NF r.2 := by
  refine Ct.of (by decide +kernel) (nle rfl) fun hw0 => ?_
  have hw := hw0 rfl
  unfold fX8_smooth at hr
  change RR g mX8_smooth (FinR g mX8_smooth (some (.int r.1)) NF r.2) zF 0 [(0, .ref (ad g 73))] [] σ
  refine r_aload_n (pc := 0) (j := 0) dX8_smooth_0 rfl rfl ?_
  obtain ⟨σ1, eσ1, hr⟩ := bnd1_inv hr
  refine kX8_puts (pc := 1) eσ1 tw_6_203 ⟨nle rfl, nle rfl⟩ (nle rfl) dX8_smooth_1 fun hσ1 => ?_
  refine r_iconst (pc := 4) (v := (0 : Int32)) dX8_smooth_4 rfl ?_
  refine r_istore_n (pc := 5) (ls1 := [(1, .int (0 : Int32)), (0, .ref (ad g 73))]) dX8_smooth_5 rfl (nle rfl) rfl ?_
  refine r_pick (ls1 := [(0, .ref (ad g 73)), (1, .int (0 : Int32))]) [1, 0] rfl ?_
  refine sX8_smooth_L6     fuel (0 : Int32) σ1 hr hσ1

theorem kX8_smooth {g : GG} {σ : SS}  {v : Int32} {σ2 : SS} {M : MM} {F : State → Array Value → List Frame → State → Prop} {pc index : Nat} {ls : List (Nat × Value)} {rest : List Value} (hf : fX8_smooth σ = some (v, σ2))  (hl : Cond.methodLink M.1.cls index yX8_smooth ∈ lw_gt) (hR : mX8_smooth.2.2.2.2.frames + 1 ≤ M.2.2.2.2.frames ∧ 8 + (mX8_smooth.2.2.1 + 11) + mX8_smooth.2.2.2.2.locals ≤ M.2.2.2.2.locals) (hrest : (rest.map fun v => v.category).sum ≤ 8) (hd : decode M.2.1 pc = .ok (.invokevirtual index, 3)) (k : WT σ2 → RR g M F zF (pc + 3) ls (.int v :: rest) σ2) : RR g M F zF pc ls (.ref (ad g 73) :: rest) σ :=
  r_callV (z := zF) (N := mX8_smooth) (nn := 0) (o1 := some (.int v)) (sX8_smooth hf ) (rfl : shp 73 = (8, 0)) (by decide) (shp_le (rfl : shp 73 = (8, 0)) (nle rfl)) (ci := 8) rfl rfl tw_7_6 tw_1_10 hl tw_7_4 tw_7_5 ⟨by decide, by decide, rfl⟩ hR rfl hrest hd ⟨Nat.zero_le _, Nat.zero_le _⟩ rfl (fun h => k (h rfl))

theorem dX7_keep_0 : decode cX7_keep 0 = .ok (.iload_n 1, 1) := by decide +kernel
theorem dX7_keep_1 : decode cX7_keep 1 = .ok (.ifCond .lt 8, 3) := by decide +kernel
theorem dX7_keep_4 : decode cX7_keep 4 = .ok (.iload_n 1, 1) := by decide +kernel
theorem dX7_keep_5 : decode cX7_keep 5 = .ok (.iconst 3, 1) := by decide +kernel
theorem dX7_keep_6 : decode cX7_keep 6 = .ok (.if_icmp .lt 5, 3) := by decide +kernel
theorem dX7_keep_9 : decode cX7_keep 9 = .ok (.iconst 0, 1) := by decide +kernel
theorem dX7_keep_10 : decode cX7_keep 10 = .ok (.ireturn, 1) := by decide +kernel
theorem dX7_keep_11 : decode cX7_keep 11 = .ok (.aload_n 0, 1) := by decide +kernel
theorem dX7_keep_12 : decode cX7_keep 12 = .ok (.getfield 25, 3) := by decide +kernel
theorem dX7_keep_15 : decode cX7_keep 15 = .ok (.iload_n 1, 1) := by decide +kernel
theorem dX7_keep_16 : decode cX7_keep 16 = .ok (.aaload, 1) := by decide +kernel
theorem dX7_keep_17 : decode cX7_keep 17 = .ok (.aload_n 0, 1) := by decide +kernel
theorem dX7_keep_18 : decode cX7_keep 18 = .ok (.getfield 18, 3) := by decide +kernel
theorem dX7_keep_21 : decode cX7_keep 21 = .ok (.invokevirtual 190, 3) := by decide +kernel
theorem dX7_keep_24 : decode cX7_keep 24 = .ok (.iconst 1, 1) := by decide +kernel
theorem dX7_keep_25 : decode cX7_keep 25 = .ok (.ireturn, 1) := by decide +kernel
def mX7_keep : MM := (yX7_keep, cX7_keep, 2, Option.some Jvm.ClassFile.FieldType.boolean, { frames := 2, cells := 0, slots := 0, locals := 47 })
def fX7_keep (σ : SS) (a1 : Int32) : Option (Bool × SS) :=
  if a1 < 0 then (
    some (false, σ)
    ) else (
    if a1 < (3 : Int32) then (
      grd (inb a1 3) <|
      bnd1 (fX6_takeAll σ (gR σ 9 (Int32.toNatClampNeg a1)) (gR σ 1 2)) fun σ2 =>
      some (true, σ2)
      ) else (
      some (false, σ)
      )
    )

set_option maxRecDepth 20000 in
theorem sX7_keep {g : GG} {σ : SS} {a1 : Int32} {r : Bool × SS} (hr : fX7_keep σ a1 = some r)  : Ct g mX7_keep [.ref (ad g 1), .int a1] NF σ (some (.int (b2i r.1))) NF r.2 := by
  refine Ct.of (by decide +kernel) (nle rfl) fun hw0 => ?_
  have hw := hw0 rfl
  unfold fX7_keep at hr
  change RR g mX7_keep (FinR g mX7_keep (some (.int (b2i r.1))) NF r.2) zF 0 [(0, .ref (ad g 1)), (1, .int a1)] [] σ
  refine r_iload_n (pc := 0) (j := 1) dX7_keep_0 rfl rfl ?_
  refine r_if_lt (pc := 1) (tgt := 9) dX7_keep_1 rfl (fun hc => ?_) (fun hc => ?_)
  · replace hr := ite_t hc hr
    refine r_iconst (pc := 9) (v := (0 : Int32)) dX7_keep_9 rfl ?_
    exact l_osz hr (r_zret (pc := 10) (v := b2i false) (ty := .boolean) rfl (b2i_nar _) rfl ⟨Nat.le_refl _, Nat.le_refl _⟩ dX7_keep_10)
  replace hr := ite_f hc hr
  refine r_iload_n (pc := 4) (j := 1) dX7_keep_4 rfl rfl ?_
  refine r_iconst (pc := 5) (v := (3 : Int32)) dX7_keep_5 rfl ?_
  refine r_icmp_lt (pc := 6) (tgt := 11) dX7_keep_6 rfl (fun hc => ?_) (fun hc => ?_)
  · replace hr := ite_t hc hr
    refine r_aload_n (pc := 11) (j := 0) dX7_keep_11 rfl rfl ?_
    refine gf7_4 (pc := 12) tw_2_113 hw dX7_keep_12 ?_
    refine r_iload_n (pc := 15) (j := 1) dX7_keep_15 rfl rfl ?_
    obtain ⟨h1, hr⟩ := grd_inv hr
    refine w_aald (pc := 16) hw h1 dX7_keep_16 ?_
    refine r_aload_n (pc := 17) (j := 0) dX7_keep_17 rfl rfl ?_
    refine gf7_2 (pc := 18) tw_2_111 hw dX7_keep_18 ?_
    obtain ⟨σ2, eσ2, hr⟩ := bnd1_inv hr
    refine kX6_takeAll (pc := 21) eσ2 (dr_sh hw h1).1 (wt_sc hw).1 tw_3_171 ⟨nle rfl, nle rfl⟩ (nle rfl) dX7_keep_21 fun hσ2 => ?_
    refine r_iconst (pc := 24) (v := (1 : Int32)) dX7_keep_24 rfl ?_
    exact l_osz hr (r_zret (pc := 25) (v := b2i true) (ty := .boolean) rfl (b2i_nar _) rfl ⟨Nat.le_refl _, Nat.le_refl _⟩ dX7_keep_25)
  replace hr := ite_f hc hr
  refine r_iconst (pc := 9) (v := (0 : Int32)) dX7_keep_9 rfl ?_
  exact l_osz hr (r_zret (pc := 10) (v := b2i false) (ty := .boolean) rfl (b2i_nar _) rfl ⟨Nat.le_refl _, Nat.le_refl _⟩ dX7_keep_10)

theorem kX7_keep {g : GG} {σ : SS} {a1 : Int32} {v : Bool} {σ2 : SS} {M : MM} {F : State → Array Value → List Frame → State → Prop} {pc index : Nat} {ls : List (Nat × Value)} {rest : List Value} (hf : fX7_keep σ a1 = some (v, σ2))  (hl : Cond.methodLink M.1.cls index yX7_keep ∈ lw_gt) (hR : mX7_keep.2.2.2.2.frames + 1 ≤ M.2.2.2.2.frames ∧ 8 + (mX7_keep.2.2.1 + 11) + mX7_keep.2.2.2.2.locals ≤ M.2.2.2.2.locals) (hrest : (rest.map fun v => v.category).sum ≤ 8) (hd : decode M.2.1 pc = .ok (.invokevirtual index, 3)) (k : WT σ2 → RR g M F zF (pc + 3) ls (.int (b2i v) :: rest) σ2) : RR g M F zF pc ls (.int a1 :: .ref (ad g 1) :: rest) σ :=
  r_callV (z := zF) (N := mX7_keep) (nn := 1) (o1 := some (.int (b2i v))) (sX7_keep hf ) (rfl : shp 1 = (7, 0)) (by decide) (shp_le (rfl : shp 1 = (7, 0)) (nle rfl)) (ci := 7) rfl rfl tw_4_1 tw_1_1 hl tw_3_239 tw_4_0 ⟨by decide, by decide, rfl⟩ hR rfl hrest hd ⟨Nat.zero_le _, Nat.zero_le _⟩ rfl (fun h => k (h rfl))

theorem dX8_keeps_0 : decode cX8_keeps 0 = .ok (.aload_n 0, 1) := by decide +kernel
theorem dX8_keeps_1 : decode cX8_keeps 1 = .ok (.getfield 47, 3) := by decide +kernel
theorem dX8_keeps_4 : decode cX8_keeps 4 = .ok (.iload_n 1, 1) := by decide +kernel
theorem dX8_keeps_5 : decode cX8_keeps 5 = .ok (.aload_n 0, 1) := by decide +kernel
theorem dX8_keeps_6 : decode cX8_keeps 6 = .ok (.getfield 132, 3) := by decide +kernel
theorem dX8_keeps_9 : decode cX8_keeps 9 = .ok (.iastore, 1) := by decide +kernel
theorem dX8_keeps_10 : decode cX8_keeps 10 = .ok (.aload_n 0, 1) := by decide +kernel
theorem dX8_keeps_11 : decode cX8_keeps 11 = .ok (.getfield 50, 3) := by decide +kernel
theorem dX8_keeps_14 : decode cX8_keeps 14 = .ok (.iload_n 1, 1) := by decide +kernel
theorem dX8_keeps_15 : decode cX8_keeps 15 = .ok (.aload_n 0, 1) := by decide +kernel
theorem dX8_keeps_16 : decode cX8_keeps 16 = .ok (.getfield 136, 3) := by decide +kernel
theorem dX8_keeps_19 : decode cX8_keeps 19 = .ok (.iastore, 1) := by decide +kernel
theorem dX8_keeps_20 : decode cX8_keeps 20 = .ok (.iconst 0, 1) := by decide +kernel
theorem dX8_keeps_21 : decode cX8_keeps 21 = .ok (.istore_n 2, 1) := by decide +kernel
theorem dX8_keeps_22 : decode cX8_keeps 22 = .ok (.iload_n 2, 1) := by decide +kernel
theorem dX8_keeps_23 : decode cX8_keeps 23 = .ok (.sipush 1600, 3) := by decide +kernel
theorem dX8_keeps_26 : decode cX8_keeps 26 = .ok (.if_icmp .ge 27, 3) := by decide +kernel
theorem dX8_keeps_29 : decode cX8_keeps 29 = .ok (.aload_n 0, 1) := by decide +kernel
theorem dX8_keeps_30 : decode cX8_keeps 30 = .ok (.getfield 44, 3) := by decide +kernel
theorem dX8_keeps_33 : decode cX8_keeps 33 = .ok (.sipush 1600, 3) := by decide +kernel
theorem dX8_keeps_36 : decode cX8_keeps 36 = .ok (.iload_n 1, 1) := by decide +kernel
theorem dX8_keeps_37 : decode cX8_keeps 37 = .ok (.imul, 1) := by decide +kernel
theorem dX8_keeps_38 : decode cX8_keeps 38 = .ok (.iload_n 2, 1) := by decide +kernel
theorem dX8_keeps_39 : decode cX8_keeps 39 = .ok (.iadd, 1) := by decide +kernel
theorem dX8_keeps_40 : decode cX8_keeps 40 = .ok (.aload_n 0, 1) := by decide +kernel
theorem dX8_keeps_41 : decode cX8_keeps 41 = .ok (.getfield 38, 3) := by decide +kernel
theorem dX8_keeps_44 : decode cX8_keeps 44 = .ok (.iload_n 2, 1) := by decide +kernel
theorem dX8_keeps_45 : decode cX8_keeps 45 = .ok (.iaload, 1) := by decide +kernel
theorem dX8_keeps_46 : decode cX8_keeps 46 = .ok (.iastore, 1) := by decide +kernel
theorem dX8_keeps_47 : decode cX8_keeps 47 = .ok (.iinc 2 1, 3) := by decide +kernel
theorem dX8_keeps_50 : decode cX8_keeps 50 = .ok (.goto (-28), 3) := by decide +kernel
theorem dX8_keeps_53 : decode cX8_keeps 53 = .ok (.return_, 1) := by decide +kernel
def mX8_keeps : MM := (yX8_keeps, cX8_keeps, 3, none, { frames := 0, cells := 0, slots := 0, locals := 0 })
def X8_keeps_L22 (u1_ : Int32)  : Nat → Int32 → SS → Option SS :=
  lp (fun _ _ => none) fun rec v2_ σ_ =>
    if (1600 : Int32) ≤ v2_ then (
      some σ_
      ) else (
      grd (inb v2_ 1600) <|
      grd (inb (((1600 : Int32) * u1_) + v2_) 4800) <|
      vthen (sI σ_ 85 (Int32.toNatClampNeg (((1600 : Int32) * u1_) + v2_)) (gI σ_ 83 (Int32.toNatClampNeg v2_))) fun σ6 =>
      rec (v2_ + (1 : Int32)) σ6
      )

def fX8_keeps (σ : SS) (a1 : Int32) : Option SS :=
  grd (inb a1 3) <|
  vthen (sI σ 86 (Int32.toNatClampNeg a1) (gI σ 73 29)) fun σ2 =>
  vthen (sI σ2 87 (Int32.toNatClampNeg a1) (gI σ2 73 30)) fun σ3 =>
  X8_keeps_L22 a1
  fuel (0 : Int32) σ3

set_option maxRecDepth 20000 in
theorem sX8_keeps_L22 {g : GG} {r : SS} {u1_ : Int32}  
    (n : Nat) : ∀ (v2_ : Int32) (σ_ : SS), X8_keeps_L22 u1_ n v2_ σ_ = some r → WT σ_ → RR g mX8_keeps (FinR g mX8_keeps none NF r) zF 22 [(0, .ref (ad g 73)), (1, .int u1_), (2, .int v2_)] [] σ_ := by
  unfold X8_keeps_L22
  refine lp_ind (P := fun (rec : Int32 → SS → Option SS) => ∀ (v2_ : Int32) (σ_ : SS), rec v2_ σ_ = some r → WT σ_ → RR g mX8_keeps (FinR g mX8_keeps none NF r) zF 22 [(0, .ref (ad g 73)), (1, .int u1_), (2, .int v2_)] [] σ_) ?_ ?_ n
  · intro v2_ σ_ hr; cases hr
  intro rec ih v2_ σ_ hr hw_
  refine r_iload_n (pc := 22) (j := 2) dX8_keeps_22 rfl rfl ?_
  refine r_sipush (pc := 23) (v := (1600 : Int32)) dX8_keeps_23 rfl ?_
  refine r_icmp_ge (pc := 26) (tgt := 53) dX8_keeps_26 rfl (fun hc => ?_) (fun hc => ?_)
  · replace hr := ite_t hc hr
    exact l_ov hr (r_vret (pc := 53) rfl rfl ⟨Nat.le_refl _, Nat.le_refl _⟩ dX8_keeps_53)
  replace hr := ite_f hc hr
  refine r_aload_n (pc := 29) (j := 0) dX8_keeps_29 rfl rfl ?_
  refine gf8_23 (pc := 30) tw_5_117 hw_ dX8_keeps_30 ?_
  refine r_sipush (pc := 33) (v := (1600 : Int32)) dX8_keeps_33 rfl ?_
  refine r_iload_n (pc := 36) (j := 1) dX8_keeps_36 rfl rfl ?_
  refine r_imul (pc := 37) dX8_keeps_37 ?_
  refine r_iload_n (pc := 38) (j := 2) dX8_keeps_38 rfl rfl ?_
  refine r_iadd (pc := 39) dX8_keeps_39 ?_
  refine r_aload_n (pc := 40) (j := 0) dX8_keeps_40 rfl rfl ?_
  refine gf8_21 (pc := 41) tw_5_115 hw_ dX8_keeps_41 ?_
  refine r_iload_n (pc := 44) (j := 2) dX8_keeps_44 rfl rfl ?_
  obtain ⟨h4, hr⟩ := grd_inv hr
  refine x_iald (pc := 45) (k := (Int32.toNatClampNeg v2_)) rfl h4 rfl dX8_keeps_45 ?_
  obtain ⟨h5, hr⟩ := grd_inv hr
  refine x_iast (pc := 46) (j := (Int32.toNatClampNeg (((1600 : Int32) * u1_) + v2_))) rfl h5 rfl dX8_keeps_46 fun σ6 eσ6 => ?_
  replace hr := vthen_inv hr σ6 eσ6
  have hσ6 := wtI eσ6 hw_
  refine r_iinc (pc := 47) (j := 2) (v := (v2_ + (1 : Int32))) (ls1 := [(2, .int (v2_ + (1 : Int32))), (0, .ref (ad g 73)), (1, .int u1_)]) dX8_keeps_47 rfl rfl (nle rfl) rfl ?_
  refine r_goto (pc := 50) (tgt := 22) dX8_keeps_50 rfl ?_
  exact r_pick (ls1 := [(0, .ref (ad g 73)), (1, .int u1_), (2, .int (v2_ + (1 : Int32)))]) [1, 2, 0] rfl (ih (v2_ + (1 : Int32)) σ6 hr hσ6)

set_option maxRecDepth 20000 in
theorem sX8_keeps {g : GG} {σ : SS} {a1 : Int32} {r : SS} (hr : fX8_keeps σ a1 = some r)  : Ct g mX8_keeps [.ref (ad g 73), .int a1] NF σ none NF r := by
  refine Ct.of (by decide +kernel) (nle rfl) fun hw0 => ?_
  have hw := hw0 rfl
  unfold fX8_keeps at hr
  change RR g mX8_keeps (FinR g mX8_keeps none NF r) zF 0 [(0, .ref (ad g 73)), (1, .int a1)] [] σ
  refine r_aload_n (pc := 0) (j := 0) dX8_keeps_0 rfl rfl ?_
  refine gf8_24 (pc := 1) tw_5_118 hw dX8_keeps_1 ?_
  refine r_iload_n (pc := 4) (j := 1) dX8_keeps_4 rfl rfl ?_
  refine r_aload_n (pc := 5) (j := 0) dX8_keeps_5 rfl rfl ?_
  refine gf8_29 (pc := 6) tw_5_123 rfl dX8_keeps_6 ?_
  obtain ⟨h1, hr⟩ := grd_inv hr
  refine x_iast (pc := 9) (j := (Int32.toNatClampNeg a1)) rfl h1 rfl dX8_keeps_9 fun σ2 eσ2 => ?_
  replace hr := vthen_inv hr σ2 eσ2
  have hσ2 := wtI eσ2 hw
  refine r_aload_n (pc := 10) (j := 0) dX8_keeps_10 rfl rfl ?_
  refine gf8_25 (pc := 11) tw_5_119 hσ2 dX8_keeps_11 ?_
  refine r_iload_n (pc := 14) (j := 1) dX8_keeps_14 rfl rfl ?_
  refine r_aload_n (pc := 15) (j := 0) dX8_keeps_15 rfl rfl ?_
  refine gf8_30 (pc := 16) tw_5_124 rfl dX8_keeps_16 ?_
  refine x_iast (pc := 19) (j := (Int32.toNatClampNeg a1)) rfl h1 rfl dX8_keeps_19 fun σ3 eσ3 => ?_
  replace hr := vthen_inv hr σ3 eσ3
  have hσ3 := wtI eσ3 hσ2
  refine r_iconst (pc := 20) (v := (0 : Int32)) dX8_keeps_20 rfl ?_
  refine r_istore_n (pc := 21) (ls1 := [(2, .int (0 : Int32)), (0, .ref (ad g 73)), (1, .int a1)]) dX8_keeps_21 rfl (nle rfl) rfl ?_
  refine r_pick (ls1 := [(0, .ref (ad g 73)), (1, .int a1), (2, .int (0 : Int32))]) [1, 2, 0] rfl ?_
  refine sX8_keeps_L22     fuel (0 : Int32) σ3 hr hσ3

theorem kX8_keeps {g : GG} {σ : SS} {a1 : Int32} {σ2 : SS} {M : MM} {F : State → Array Value → List Frame → State → Prop} {pc index : Nat} {ls : List (Nat × Value)} {rest : List Value} (hf : fX8_keeps σ a1 = some σ2)  (hl : Cond.methodLink M.1.cls index yX8_keeps ∈ lw_gt) (hR : mX8_keeps.2.2.2.2.frames + 1 ≤ M.2.2.2.2.frames ∧ 8 + (mX8_keeps.2.2.1 + 11) + mX8_keeps.2.2.2.2.locals ≤ M.2.2.2.2.locals) (hrest : (rest.map fun v => v.category).sum ≤ 8) (hd : decode M.2.1 pc = .ok (.invokevirtual index, 3)) (k : WT σ2 → RR g M F zF (pc + 3) ls rest σ2) : RR g M F zF pc ls (.int a1 :: .ref (ad g 73) :: rest) σ :=
  r_callV (z := zF) (N := mX8_keeps) (nn := 1) (o1 := none) (sX8_keeps hf ) (rfl : shp 73 = (8, 0)) (by decide) (shp_le (rfl : shp 73 = (8, 0)) (nle rfl)) (ci := 8) rfl rfl tw_7_14 tw_1_10 hl tw_7_13 tp_61 ⟨by decide, by decide, rfl⟩ hR rfl hrest hd ⟨Nat.zero_le _, Nat.zero_le _⟩ rfl (fun h => k (h rfl))

theorem dX8_keep_0 : decode cX8_keep 0 = .ok (.iload_n 1, 1) := by decide +kernel
theorem dX8_keep_1 : decode cX8_keep 1 = .ok (.iconst 0, 1) := by decide +kernel
theorem dX8_keep_2 : decode cX8_keep 2 = .ok (.iconst 2, 1) := by decide +kernel
theorem dX8_keep_3 : decode cX8_keep 3 = .ok (.invokestatic 165, 3) := by decide +kernel
theorem dX8_keep_6 : decode cX8_keep 6 = .ok (.ifCond .ne 5, 3) := by decide +kernel
theorem dX8_keep_9 : decode cX8_keep 9 = .ok (.iconst 0, 1) := by decide +kernel
theorem dX8_keep_10 : decode cX8_keep 10 = .ok (.ireturn, 1) := by decide +kernel
theorem dX8_keep_11 : decode cX8_keep 11 = .ok (.aload_n 0, 1) := by decide +kernel
theorem dX8_keep_12 : decode cX8_keep 12 = .ok (.iload_n 1, 1) := by decide +kernel
theorem dX8_keep_13 : decode cX8_keep 13 = .ok (.invokevirtual 301, 3) := by decide +kernel
theorem dX8_keep_16 : decode cX8_keep 16 = .ok (.iconst 1, 1) := by decide +kernel
theorem dX8_keep_17 : decode cX8_keep 17 = .ok (.ireturn, 1) := by decide +kernel
def mX8_keep : MM := (yX8_keep, cX8_keep, 2, Option.some Jvm.ClassFile.FieldType.boolean, { frames := 1, cells := 0, slots := 0, locals := 22 })
def fX8_keep (σ : SS) (a1 : Int32) : Option (Bool × SS) :=
  if (fX8_in σ a1 (0 : Int32) (2 : Int32)) = true then (
    bnd1 (fX8_keeps σ a1) fun σ1 =>
    some (true, σ1)
    ) else (
    some (false, σ)
    )

set_option maxRecDepth 20000 in
theorem sX8_keep {g : GG} {σ : SS} {a1 : Int32} {r : Bool × SS} (hr : fX8_keep σ a1 = some r)  : Ct g mX8_keep [.ref (ad g 73), .int a1] NF σ (some (.int (b2i r.1))) NF r.2 := by
  refine Ct.of (by decide +kernel) (nle rfl) fun hw0 => ?_
  have hw := hw0 rfl
  unfold fX8_keep at hr
  change RR g mX8_keep (FinR g mX8_keep (some (.int (b2i r.1))) NF r.2) zF 0 [(0, .ref (ad g 73)), (1, .int a1)] [] σ
  refine r_iload_n (pc := 0) (j := 1) dX8_keep_0 rfl rfl ?_
  refine r_iconst (pc := 1) (v := (0 : Int32)) dX8_keep_1 rfl ?_
  refine r_iconst (pc := 2) (v := (2 : Int32)) dX8_keep_2 rfl ?_
  refine kX8_in (pc := 3) (hf := rfl) tw_6_65 ⟨nle rfl, nle rfl⟩ (nle rfl) dX8_keep_3 ?_
  refine r_ifB_ne (pc := 6) (tgt := 11) dX8_keep_6 rfl (fun hc => ?_) (fun hc => ?_)
  · replace hr := ite_t hc hr
    refine r_aload_n (pc := 11) (j := 0) dX8_keep_11 rfl rfl ?_
    refine r_iload_n (pc := 12) (j := 1) dX8_keep_12 rfl rfl ?_
    obtain ⟨σ1, eσ1, hr⟩ := bnd1_inv hr
    refine kX8_keeps (pc := 13) eσ1 tw_7_11 ⟨nle rfl, nle rfl⟩ (nle rfl) dX8_keep_13 fun hσ1 => ?_
    refine r_iconst (pc := 16) (v := (1 : Int32)) dX8_keep_16 rfl ?_
    exact l_osz hr (r_zret (pc := 17) (v := b2i true) (ty := .boolean) rfl (b2i_nar _) rfl ⟨Nat.le_refl _, Nat.le_refl _⟩ dX8_keep_17)
  replace hr := ite_f hc hr
  refine r_iconst (pc := 9) (v := (0 : Int32)) dX8_keep_9 rfl ?_
  exact l_osz hr (r_zret (pc := 10) (v := b2i false) (ty := .boolean) rfl (b2i_nar _) rfl ⟨Nat.le_refl _, Nat.le_refl _⟩ dX8_keep_10)

theorem kX8_keep {g : GG} {σ : SS} {a1 : Int32} {v : Bool} {σ2 : SS} {M : MM} {F : State → Array Value → List Frame → State → Prop} {pc index : Nat} {ls : List (Nat × Value)} {rest : List Value} (hf : fX8_keep σ a1 = some (v, σ2))  (hl : Cond.methodLink M.1.cls index yX8_keep ∈ lw_gt) (hR : mX8_keep.2.2.2.2.frames + 1 ≤ M.2.2.2.2.frames ∧ 8 + (mX8_keep.2.2.1 + 11) + mX8_keep.2.2.2.2.locals ≤ M.2.2.2.2.locals) (hrest : (rest.map fun v => v.category).sum ≤ 8) (hd : decode M.2.1 pc = .ok (.invokevirtual index, 3)) (k : WT σ2 → RR g M F zF (pc + 3) ls (.int (b2i v) :: rest) σ2) : RR g M F zF pc ls (.int a1 :: .ref (ad g 73) :: rest) σ :=
  r_callV (z := zF) (N := mX8_keep) (nn := 1) (o1 := some (.int (b2i v))) (sX8_keep hf ) (rfl : shp 73 = (8, 0)) (by decide) (shp_le (rfl : shp 73 = (8, 0)) (nle rfl)) (ci := 8) rfl rfl tw_7_10 tw_1_10 hl tw_7_8 tw_7_9 ⟨by decide, by decide, rfl⟩ hR rfl hrest hd ⟨Nat.zero_le _, Nat.zero_le _⟩ rfl (fun h => k (h rfl))

theorem dX6_isNothing_0 : decode cX6_isNothing 0 = .ok (.aload_n 0, 1) := by decide +kernel
theorem dX6_isNothing_1 : decode cX6_isNothing 1 = .ok (.getfield 18, 3) := by decide +kernel
theorem dX6_isNothing_4 : decode cX6_isNothing 4 = .ok (.ifCond .ne 7, 3) := by decide +kernel
theorem dX6_isNothing_7 : decode cX6_isNothing 7 = .ok (.iconst 1, 1) := by decide +kernel
theorem dX6_isNothing_8 : decode cX6_isNothing 8 = .ok (.goto 4, 3) := by decide +kernel
theorem dX6_isNothing_11 : decode cX6_isNothing 11 = .ok (.iconst 0, 1) := by decide +kernel
theorem dX6_isNothing_12 : decode cX6_isNothing 12 = .ok (.ireturn, 1) := by decide +kernel
def mX6_isNothing : MM := (yX6_isNothing, cX6_isNothing, 1, Option.some Jvm.ClassFile.FieldType.boolean, { frames := 0, cells := 0, slots := 0, locals := 0 })
def fX6_isNothing (σ0 : SS) (a0 : Nat) : Bool :=
  if (gI σ0 a0 0) = 0 then (
    true
    ) else (
    false
    )

set_option maxRecDepth 20000 in
theorem sX6_isNothing {g : GG} {σ0 : SS} {a0 : Nat} {r : Bool} (hr : fX6_isNothing σ0 a0 = r) (hs0 : shp a0 = (6, 0)) : Ct g mX6_isNothing [.ref (ad g a0)] NF σ0 (some (.int (b2i r))) NF σ0 := by
  refine Ct.of (by decide +kernel) (nle rfl) fun hw0 => ?_
  have hw := hw0 rfl
  unfold fX6_isNothing at hr
  change RR g mX6_isNothing (FinR g mX6_isNothing (some (.int (b2i r))) NF σ0) zF 0 [(0, .ref (ad g a0))] [] σ0
  refine r_aload_n (pc := 0) (j := 0) dX6_isNothing_0 rfl rfl ?_
  refine gf6_0 (pc := 1) tw_1_32 hs0 dX6_isNothing_1 ?_
  refine r_if_ne (pc := 4) (tgt := 11) dX6_isNothing_4 rfl (fun hc => ?_) (fun hc => ?_)
  · replace hr := ite_f hc hr
    refine r_iconst (pc := 11) (v := (0 : Int32)) dX6_isNothing_11 rfl ?_
    exact l_pz hr (r_zret (pc := 12) (v := b2i false) (ty := .boolean) rfl (b2i_nar _) rfl ⟨Nat.le_refl _, Nat.le_refl _⟩ dX6_isNothing_12)
  replace hr := ite_t hc hr
  refine r_iconst (pc := 7) (v := (1 : Int32)) dX6_isNothing_7 rfl ?_
  refine r_goto (pc := 8) (tgt := 12) dX6_isNothing_8 rfl ?_
  exact l_pz hr (r_zret (pc := 12) (v := b2i true) (ty := .boolean) rfl (b2i_nar _) rfl ⟨Nat.le_refl _, Nat.le_refl _⟩ dX6_isNothing_12)

theorem kX6_isNothing {g : GG} {σ0 : SS} {a0 : Nat} {v : Bool} {M : MM} {F : State → Array Value → List Frame → State → Prop} {pc index : Nat} {ls : List (Nat × Value)} {rest : List Value} (hf : fX6_isNothing σ0 a0 = v) (hs0 : shp a0 = (6, 0)) (hl : Cond.methodLink M.1.cls index yX6_isNothing ∈ lw_gt) (hR : mX6_isNothing.2.2.2.2.frames + 1 ≤ M.2.2.2.2.frames ∧ 8 + (mX6_isNothing.2.2.1 + 11) + mX6_isNothing.2.2.2.2.locals ≤ M.2.2.2.2.locals) (hrest : (rest.map fun v => v.category).sum ≤ 8) (hd : decode M.2.1 pc = .ok (.invokevirtual index, 3)) (k : RR g M F zF (pc + 3) ls (.int (b2i v) :: rest) σ0) : RR g M F zF pc ls (.ref (ad g a0) :: rest) σ0 :=
  r_callV (z := zF) (N := mX6_isNothing) (nn := 0) (o1 := some (.int (b2i v))) (sX6_isNothing hf hs0) hs0 (by decide) (shp_le hs0 (nle rfl)) (ci := 6) rfl rfl tw_4_9 tw_1_2 hl tw_4_7 tw_4_8 ⟨by decide, by decide, rfl⟩ hR rfl hrest hd ⟨Nat.zero_le _, Nat.zero_le _⟩ rfl (fun h => k)

theorem dX7_back_0 : decode cX7_back 0 = .ok (.iload_n 1, 1) := by decide +kernel
theorem dX7_back_1 : decode cX7_back 1 = .ok (.ifCond .lt 20, 3) := by decide +kernel
theorem dX7_back_4 : decode cX7_back 4 = .ok (.iload_n 1, 1) := by decide +kernel
theorem dX7_back_5 : decode cX7_back 5 = .ok (.iconst 3, 1) := by decide +kernel
theorem dX7_back_6 : decode cX7_back 6 = .ok (.if_icmp .ge 15, 3) := by decide +kernel
theorem dX7_back_9 : decode cX7_back 9 = .ok (.aload_n 0, 1) := by decide +kernel
theorem dX7_back_10 : decode cX7_back 10 = .ok (.getfield 25, 3) := by decide +kernel
theorem dX7_back_13 : decode cX7_back 13 = .ok (.iload_n 1, 1) := by decide +kernel
theorem dX7_back_14 : decode cX7_back 14 = .ok (.aaload, 1) := by decide +kernel
theorem dX7_back_15 : decode cX7_back 15 = .ok (.invokevirtual 218, 3) := by decide +kernel
theorem dX7_back_18 : decode cX7_back 18 = .ok (.ifCond .eq 5, 3) := by decide +kernel
theorem dX7_back_21 : decode cX7_back 21 = .ok (.iconst 0, 1) := by decide +kernel
theorem dX7_back_22 : decode cX7_back 22 = .ok (.ireturn, 1) := by decide +kernel
theorem dX7_back_23 : decode cX7_back 23 = .ok (.aload_n 0, 1) := by decide +kernel
theorem dX7_back_24 : decode cX7_back 24 = .ok (.getfield 18, 3) := by decide +kernel
theorem dX7_back_27 : decode cX7_back 27 = .ok (.aload_n 0, 1) := by decide +kernel
theorem dX7_back_28 : decode cX7_back 28 = .ok (.getfield 25, 3) := by decide +kernel
theorem dX7_back_31 : decode cX7_back 31 = .ok (.iload_n 1, 1) := by decide +kernel
theorem dX7_back_32 : decode cX7_back 32 = .ok (.aaload, 1) := by decide +kernel
theorem dX7_back_33 : decode cX7_back 33 = .ok (.invokevirtual 190, 3) := by decide +kernel
theorem dX7_back_36 : decode cX7_back 36 = .ok (.iconst 1, 1) := by decide +kernel
theorem dX7_back_37 : decode cX7_back 37 = .ok (.ireturn, 1) := by decide +kernel
def mX7_back : MM := (yX7_back, cX7_back, 2, Option.some Jvm.ClassFile.FieldType.boolean, { frames := 2, cells := 0, slots := 0, locals := 47 })
def fX7_back (σ : SS) (a1 : Int32) : Option (Bool × SS) :=
  if a1 < 0 then (
    some (false, σ)
    ) else (
    if (3 : Int32) ≤ a1 then (
      some (false, σ)
      ) else (
      grd (inb a1 3) <|
      if (fX6_isNothing σ (gR σ 9 (Int32.toNatClampNeg a1))) = true then (
        some (false, σ)
        ) else (
        bnd1 (fX6_takeAll σ (gR σ 1 2) (gR σ 9 (Int32.toNatClampNeg a1))) fun σ2 =>
        some (true, σ2)
        )
      )
    )

set_option maxRecDepth 20000 in
theorem sX7_back {g : GG} {σ : SS} {a1 : Int32} {r : Bool × SS} (hr : fX7_back σ a1 = some r)  : Ct g mX7_back [.ref (ad g 1), .int a1] NF σ (some (.int (b2i r.1))) NF r.2 := by
  refine Ct.of (by decide +kernel) (nle rfl) fun hw0 => ?_
  have hw := hw0 rfl
  unfold fX7_back at hr
  change RR g mX7_back (FinR g mX7_back (some (.int (b2i r.1))) NF r.2) zF 0 [(0, .ref (ad g 1)), (1, .int a1)] [] σ
  refine r_iload_n (pc := 0) (j := 1) dX7_back_0 rfl rfl ?_
  refine r_if_lt (pc := 1) (tgt := 21) dX7_back_1 rfl (fun hc => ?_) (fun hc => ?_)
  · replace hr := ite_t hc hr
    refine r_iconst (pc := 21) (v := (0 : Int32)) dX7_back_21 rfl ?_
    exact l_osz hr (r_zret (pc := 22) (v := b2i false) (ty := .boolean) rfl (b2i_nar _) rfl ⟨Nat.le_refl _, Nat.le_refl _⟩ dX7_back_22)
  replace hr := ite_f hc hr
  refine r_iload_n (pc := 4) (j := 1) dX7_back_4 rfl rfl ?_
  refine r_iconst (pc := 5) (v := (3 : Int32)) dX7_back_5 rfl ?_
  refine r_icmp_ge (pc := 6) (tgt := 21) dX7_back_6 rfl (fun hc => ?_) (fun hc => ?_)
  · replace hr := ite_t hc hr
    refine r_iconst (pc := 21) (v := (0 : Int32)) dX7_back_21 rfl ?_
    exact l_osz hr (r_zret (pc := 22) (v := b2i false) (ty := .boolean) rfl (b2i_nar _) rfl ⟨Nat.le_refl _, Nat.le_refl _⟩ dX7_back_22)
  replace hr := ite_f hc hr
  refine r_aload_n (pc := 9) (j := 0) dX7_back_9 rfl rfl ?_
  refine gf7_4 (pc := 10) tw_2_113 hw dX7_back_10 ?_
  refine r_iload_n (pc := 13) (j := 1) dX7_back_13 rfl rfl ?_
  obtain ⟨h1, hr⟩ := grd_inv hr
  refine w_aald (pc := 14) hw h1 dX7_back_14 ?_
  refine kX6_isNothing (pc := 15) (hf := rfl) (dr_sh hw h1).1 tw_4_6 ⟨nle rfl, nle rfl⟩ (nle rfl) dX7_back_15 ?_
  refine r_ifB_eq (pc := 18) (tgt := 23) dX7_back_18 rfl (fun hc => ?_) (fun hc => ?_)
  · replace hr := ite_f hc hr
    refine r_aload_n (pc := 23) (j := 0) dX7_back_23 rfl rfl ?_
    refine gf7_2 (pc := 24) tw_2_111 hw dX7_back_24 ?_
    refine r_aload_n (pc := 27) (j := 0) dX7_back_27 rfl rfl ?_
    refine gf7_4 (pc := 28) tw_2_113 hw dX7_back_28 ?_
    refine r_iload_n (pc := 31) (j := 1) dX7_back_31 rfl rfl ?_
    refine w_aald (pc := 32) hw h1 dX7_back_32 ?_
    obtain ⟨σ2, eσ2, hr⟩ := bnd1_inv hr
    refine kX6_takeAll (pc := 33) eσ2 (wt_sc hw).1 (dr_sh hw h1).1 tw_3_171 ⟨nle rfl, nle rfl⟩ (nle rfl) dX7_back_33 fun hσ2 => ?_
    refine r_iconst (pc := 36) (v := (1 : Int32)) dX7_back_36 rfl ?_
    exact l_osz hr (r_zret (pc := 37) (v := b2i true) (ty := .boolean) rfl (b2i_nar _) rfl ⟨Nat.le_refl _, Nat.le_refl _⟩ dX7_back_37)
  replace hr := ite_t hc hr
  refine r_iconst (pc := 21) (v := (0 : Int32)) dX7_back_21 rfl ?_
  exact l_osz hr (r_zret (pc := 22) (v := b2i false) (ty := .boolean) rfl (b2i_nar _) rfl ⟨Nat.le_refl _, Nat.le_refl _⟩ dX7_back_22)

theorem kX7_back {g : GG} {σ : SS} {a1 : Int32} {v : Bool} {σ2 : SS} {M : MM} {F : State → Array Value → List Frame → State → Prop} {pc index : Nat} {ls : List (Nat × Value)} {rest : List Value} (hf : fX7_back σ a1 = some (v, σ2))  (hl : Cond.methodLink M.1.cls index yX7_back ∈ lw_gt) (hR : mX7_back.2.2.2.2.frames + 1 ≤ M.2.2.2.2.frames ∧ 8 + (mX7_back.2.2.1 + 11) + mX7_back.2.2.2.2.locals ≤ M.2.2.2.2.locals) (hrest : (rest.map fun v => v.category).sum ≤ 8) (hd : decode M.2.1 pc = .ok (.invokevirtual index, 3)) (k : WT σ2 → RR g M F zF (pc + 3) ls (.int (b2i v) :: rest) σ2) : RR g M F zF pc ls (.int a1 :: .ref (ad g 1) :: rest) σ :=
  r_callV (z := zF) (N := mX7_back) (nn := 1) (o1 := some (.int (b2i v))) (sX7_back hf ) (rfl : shp 1 = (7, 0)) (by decide) (shp_le (rfl : shp 1 = (7, 0)) (nle rfl)) (ci := 7) rfl rfl tw_4_5 tw_1_1 hl tw_4_3 tw_4_4 ⟨by decide, by decide, rfl⟩ hR rfl hrest hd ⟨Nat.zero_le _, Nat.zero_le _⟩ rfl (fun h => k (h rfl))

theorem dX8_back_0 : decode cX8_back 0 = .ok (.iload_n 1, 1) := by decide +kernel
theorem dX8_back_1 : decode cX8_back 1 = .ok (.iconst 0, 1) := by decide +kernel
theorem dX8_back_2 : decode cX8_back 2 = .ok (.iconst 2, 1) := by decide +kernel
theorem dX8_back_3 : decode cX8_back 3 = .ok (.invokestatic 165, 3) := by decide +kernel
theorem dX8_back_6 : decode cX8_back 6 = .ok (.ifCond .eq 12, 3) := by decide +kernel
theorem dX8_back_9 : decode cX8_back 9 = .ok (.aload_n 0, 1) := by decide +kernel
theorem dX8_back_10 : decode cX8_back 10 = .ok (.getfield 47, 3) := by decide +kernel
theorem dX8_back_13 : decode cX8_back 13 = .ok (.iload_n 1, 1) := by decide +kernel
theorem dX8_back_14 : decode cX8_back 14 = .ok (.iaload, 1) := by decide +kernel
theorem dX8_back_15 : decode cX8_back 15 = .ok (.ifCond .ne 5, 3) := by decide +kernel
theorem dX8_back_18 : decode cX8_back 18 = .ok (.iconst 0, 1) := by decide +kernel
theorem dX8_back_19 : decode cX8_back 19 = .ok (.ireturn, 1) := by decide +kernel
theorem dX8_back_20 : decode cX8_back 20 = .ok (.aload_n 0, 1) := by decide +kernel
theorem dX8_back_21 : decode cX8_back 21 = .ok (.aload_n 0, 1) := by decide +kernel
theorem dX8_back_22 : decode cX8_back 22 = .ok (.getfield 47, 3) := by decide +kernel
theorem dX8_back_25 : decode cX8_back 25 = .ok (.iload_n 1, 1) := by decide +kernel
theorem dX8_back_26 : decode cX8_back 26 = .ok (.iaload, 1) := by decide +kernel
theorem dX8_back_27 : decode cX8_back 27 = .ok (.putfield 132, 3) := by decide +kernel
theorem dX8_back_30 : decode cX8_back 30 = .ok (.aload_n 0, 1) := by decide +kernel
theorem dX8_back_31 : decode cX8_back 31 = .ok (.aload_n 0, 1) := by decide +kernel
theorem dX8_back_32 : decode cX8_back 32 = .ok (.getfield 50, 3) := by decide +kernel
theorem dX8_back_35 : decode cX8_back 35 = .ok (.iload_n 1, 1) := by decide +kernel
theorem dX8_back_36 : decode cX8_back 36 = .ok (.iaload, 1) := by decide +kernel
theorem dX8_back_37 : decode cX8_back 37 = .ok (.putfield 136, 3) := by decide +kernel
theorem dX8_back_40 : decode cX8_back 40 = .ok (.iconst 0, 1) := by decide +kernel
theorem dX8_back_41 : decode cX8_back 41 = .ok (.istore_n 2, 1) := by decide +kernel
theorem dX8_back_42 : decode cX8_back 42 = .ok (.iload_n 2, 1) := by decide +kernel
theorem dX8_back_43 : decode cX8_back 43 = .ok (.sipush 1600, 3) := by decide +kernel
theorem dX8_back_46 : decode cX8_back 46 = .ok (.if_icmp .ge 27, 3) := by decide +kernel
theorem dX8_back_49 : decode cX8_back 49 = .ok (.aload_n 0, 1) := by decide +kernel
theorem dX8_back_50 : decode cX8_back 50 = .ok (.getfield 38, 3) := by decide +kernel
theorem dX8_back_53 : decode cX8_back 53 = .ok (.iload_n 2, 1) := by decide +kernel
theorem dX8_back_54 : decode cX8_back 54 = .ok (.aload_n 0, 1) := by decide +kernel
theorem dX8_back_55 : decode cX8_back 55 = .ok (.getfield 44, 3) := by decide +kernel
theorem dX8_back_58 : decode cX8_back 58 = .ok (.sipush 1600, 3) := by decide +kernel
theorem dX8_back_61 : decode cX8_back 61 = .ok (.iload_n 1, 1) := by decide +kernel
theorem dX8_back_62 : decode cX8_back 62 = .ok (.imul, 1) := by decide +kernel
theorem dX8_back_63 : decode cX8_back 63 = .ok (.iload_n 2, 1) := by decide +kernel
theorem dX8_back_64 : decode cX8_back 64 = .ok (.iadd, 1) := by decide +kernel
theorem dX8_back_65 : decode cX8_back 65 = .ok (.iaload, 1) := by decide +kernel
theorem dX8_back_66 : decode cX8_back 66 = .ok (.iastore, 1) := by decide +kernel
theorem dX8_back_67 : decode cX8_back 67 = .ok (.iinc 2 1, 3) := by decide +kernel
theorem dX8_back_70 : decode cX8_back 70 = .ok (.goto (-28), 3) := by decide +kernel
theorem dX8_back_73 : decode cX8_back 73 = .ok (.iconst 1, 1) := by decide +kernel
theorem dX8_back_74 : decode cX8_back 74 = .ok (.ireturn, 1) := by decide +kernel
def mX8_back : MM := (yX8_back, cX8_back, 3, Option.some Jvm.ClassFile.FieldType.boolean, { frames := 1, cells := 0, slots := 0, locals := 22 })
def X8_back_L42 (u1_ : Int32)  : Nat → Int32 → SS → Option (Bool × SS) :=
  lp (fun _ _ => none) fun rec v2_ σ_ =>
    if (1600 : Int32) ≤ v2_ then (
      some (true, σ_)
      ) else (
      grd (inb (((1600 : Int32) * u1_) + v2_) 4800) <|
      grd (inb v2_ 1600) <|
      vthen (sI σ_ 83 (Int32.toNatClampNeg v2_) (gI σ_ 85 (Int32.toNatClampNeg (((1600 : Int32) * u1_) + v2_)))) fun σ6 =>
      rec (v2_ + (1 : Int32)) σ6
      )

def fX8_back (σ : SS) (a1 : Int32) : Option (Bool × SS) :=
  if (fX8_in σ a1 (0 : Int32) (2 : Int32)) = true then (
    grd (inb a1 3) <|
    if (gI σ 86 (Int32.toNatClampNeg a1)) = 0 then (
      some (false, σ)
      ) else (
      vthen (sI σ 73 29 (gI σ 86 (Int32.toNatClampNeg a1))) fun σ2 =>
      vthen (sI σ2 73 30 (gI σ2 87 (Int32.toNatClampNeg a1))) fun σ3 =>
      X8_back_L42 a1
      fuel (0 : Int32) σ3
      )
    ) else (
    some (false, σ)
    )

set_option maxRecDepth 20000 in
theorem sX8_back_L42 {g : GG} {r : Bool × SS} {u1_ : Int32}  
    (n : Nat) : ∀ (v2_ : Int32) (σ_ : SS), X8_back_L42 u1_ n v2_ σ_ = some r → WT σ_ → RR g mX8_back (FinR g mX8_back (some (.int (b2i r.1))) NF r.2) zF 42 [(0, .ref (ad g 73)), (1, .int u1_), (2, .int v2_)] [] σ_ := by
  unfold X8_back_L42
  refine lp_ind (P := fun (rec : Int32 → SS → Option (Bool × SS)) => ∀ (v2_ : Int32) (σ_ : SS), rec v2_ σ_ = some r → WT σ_ → RR g mX8_back (FinR g mX8_back (some (.int (b2i r.1))) NF r.2) zF 42 [(0, .ref (ad g 73)), (1, .int u1_), (2, .int v2_)] [] σ_) ?_ ?_ n
  · intro v2_ σ_ hr; cases hr
  intro rec ih v2_ σ_ hr hw_
  refine r_iload_n (pc := 42) (j := 2) dX8_back_42 rfl rfl ?_
  refine r_sipush (pc := 43) (v := (1600 : Int32)) dX8_back_43 rfl ?_
  refine r_icmp_ge (pc := 46) (tgt := 73) dX8_back_46 rfl (fun hc => ?_) (fun hc => ?_)
  · replace hr := ite_t hc hr
    refine r_iconst (pc := 73) (v := (1 : Int32)) dX8_back_73 rfl ?_
    exact l_osz hr (r_zret (pc := 74) (v := b2i true) (ty := .boolean) rfl (b2i_nar _) rfl ⟨Nat.le_refl _, Nat.le_refl _⟩ dX8_back_74)
  replace hr := ite_f hc hr
  refine r_aload_n (pc := 49) (j := 0) dX8_back_49 rfl rfl ?_
  refine gf8_21 (pc := 50) tw_5_115 hw_ dX8_back_50 ?_
  refine r_iload_n (pc := 53) (j := 2) dX8_back_53 rfl rfl ?_
  refine r_aload_n (pc := 54) (j := 0) dX8_back_54 rfl rfl ?_
  refine gf8_23 (pc := 55) tw_5_117 hw_ dX8_back_55 ?_
  refine r_sipush (pc := 58) (v := (1600 : Int32)) dX8_back_58 rfl ?_
  refine r_iload_n (pc := 61) (j := 1) dX8_back_61 rfl rfl ?_
  refine r_imul (pc := 62) dX8_back_62 ?_
  refine r_iload_n (pc := 63) (j := 2) dX8_back_63 rfl rfl ?_
  refine r_iadd (pc := 64) dX8_back_64 ?_
  obtain ⟨h4, hr⟩ := grd_inv hr
  refine x_iald (pc := 65) (k := (Int32.toNatClampNeg (((1600 : Int32) * u1_) + v2_))) rfl h4 rfl dX8_back_65 ?_
  obtain ⟨h5, hr⟩ := grd_inv hr
  refine x_iast (pc := 66) (j := (Int32.toNatClampNeg v2_)) rfl h5 rfl dX8_back_66 fun σ6 eσ6 => ?_
  replace hr := vthen_inv hr σ6 eσ6
  have hσ6 := wtI eσ6 hw_
  refine r_iinc (pc := 67) (j := 2) (v := (v2_ + (1 : Int32))) (ls1 := [(2, .int (v2_ + (1 : Int32))), (0, .ref (ad g 73)), (1, .int u1_)]) dX8_back_67 rfl rfl (nle rfl) rfl ?_
  refine r_goto (pc := 70) (tgt := 42) dX8_back_70 rfl ?_
  exact r_pick (ls1 := [(0, .ref (ad g 73)), (1, .int u1_), (2, .int (v2_ + (1 : Int32)))]) [1, 2, 0] rfl (ih (v2_ + (1 : Int32)) σ6 hr hσ6)

set_option maxRecDepth 20000 in
theorem sX8_back {g : GG} {σ : SS} {a1 : Int32} {r : Bool × SS} (hr : fX8_back σ a1 = some r)  : Ct g mX8_back [.ref (ad g 73), .int a1] NF σ (some (.int (b2i r.1))) NF r.2 := by
  refine Ct.of (by decide +kernel) (nle rfl) fun hw0 => ?_
  have hw := hw0 rfl
  unfold fX8_back at hr
  change RR g mX8_back (FinR g mX8_back (some (.int (b2i r.1))) NF r.2) zF 0 [(0, .ref (ad g 73)), (1, .int a1)] [] σ
  refine r_iload_n (pc := 0) (j := 1) dX8_back_0 rfl rfl ?_
  refine r_iconst (pc := 1) (v := (0 : Int32)) dX8_back_1 rfl ?_
  refine r_iconst (pc := 2) (v := (2 : Int32)) dX8_back_2 rfl ?_
  refine kX8_in (pc := 3) (hf := rfl) tw_6_65 ⟨nle rfl, nle rfl⟩ (nle rfl) dX8_back_3 ?_
  refine r_ifB_eq (pc := 6) (tgt := 18) dX8_back_6 rfl (fun hc => ?_) (fun hc => ?_)
  · replace hr := ite_f hc hr
    refine r_iconst (pc := 18) (v := (0 : Int32)) dX8_back_18 rfl ?_
    exact l_osz hr (r_zret (pc := 19) (v := b2i false) (ty := .boolean) rfl (b2i_nar _) rfl ⟨Nat.le_refl _, Nat.le_refl _⟩ dX8_back_19)
  replace hr := ite_t hc hr
  refine r_aload_n (pc := 9) (j := 0) dX8_back_9 rfl rfl ?_
  refine gf8_24 (pc := 10) tw_5_118 hw dX8_back_10 ?_
  refine r_iload_n (pc := 13) (j := 1) dX8_back_13 rfl rfl ?_
  obtain ⟨h1, hr⟩ := grd_inv hr
  refine x_iald (pc := 14) (k := (Int32.toNatClampNeg a1)) rfl h1 rfl dX8_back_14 ?_
  refine r_if_ne (pc := 15) (tgt := 20) dX8_back_15 rfl (fun hc => ?_) (fun hc => ?_)
  · replace hr := ite_f hc hr
    refine r_aload_n (pc := 20) (j := 0) dX8_back_20 rfl rfl ?_
    refine r_aload_n (pc := 21) (j := 0) dX8_back_21 rfl rfl ?_
    refine gf8_24 (pc := 22) tw_5_118 hw dX8_back_22 ?_
    refine r_iload_n (pc := 25) (j := 1) dX8_back_25 rfl rfl ?_
    refine x_iald (pc := 26) (k := (Int32.toNatClampNeg a1)) rfl h1 rfl dX8_back_26 ?_
    refine pf8_29 (pc := 27) tw_5_123 rfl dX8_back_27 fun σ2 eσ2 => ?_
    replace hr := vthen_inv hr σ2 eσ2
    have hσ2 := wtI eσ2 hw
    refine r_aload_n (pc := 30) (j := 0) dX8_back_30 rfl rfl ?_
    refine r_aload_n (pc := 31) (j := 0) dX8_back_31 rfl rfl ?_
    refine gf8_25 (pc := 32) tw_5_119 hσ2 dX8_back_32 ?_
    refine r_iload_n (pc := 35) (j := 1) dX8_back_35 rfl rfl ?_
    refine x_iald (pc := 36) (k := (Int32.toNatClampNeg a1)) rfl h1 rfl dX8_back_36 ?_
    refine pf8_30 (pc := 37) tw_5_124 rfl dX8_back_37 fun σ3 eσ3 => ?_
    replace hr := vthen_inv hr σ3 eσ3
    have hσ3 := wtI eσ3 hσ2
    refine r_iconst (pc := 40) (v := (0 : Int32)) dX8_back_40 rfl ?_
    refine r_istore_n (pc := 41) (ls1 := [(2, .int (0 : Int32)), (0, .ref (ad g 73)), (1, .int a1)]) dX8_back_41 rfl (nle rfl) rfl ?_
    refine r_pick (ls1 := [(0, .ref (ad g 73)), (1, .int a1), (2, .int (0 : Int32))]) [1, 2, 0] rfl ?_
    refine sX8_back_L42     fuel (0 : Int32) σ3 hr hσ3
  replace hr := ite_t hc hr
  refine r_iconst (pc := 18) (v := (0 : Int32)) dX8_back_18 rfl ?_
  exact l_osz hr (r_zret (pc := 19) (v := b2i false) (ty := .boolean) rfl (b2i_nar _) rfl ⟨Nat.le_refl _, Nat.le_refl _⟩ dX8_back_19)

theorem kX8_back {g : GG} {σ : SS} {a1 : Int32} {v : Bool} {σ2 : SS} {M : MM} {F : State → Array Value → List Frame → State → Prop} {pc index : Nat} {ls : List (Nat × Value)} {rest : List Value} (hf : fX8_back σ a1 = some (v, σ2))  (hl : Cond.methodLink M.1.cls index yX8_back ∈ lw_gt) (hR : mX8_back.2.2.2.2.frames + 1 ≤ M.2.2.2.2.frames ∧ 8 + (mX8_back.2.2.1 + 11) + mX8_back.2.2.2.2.locals ≤ M.2.2.2.2.locals) (hrest : (rest.map fun v => v.category).sum ≤ 8) (hd : decode M.2.1 pc = .ok (.invokevirtual index, 3)) (k : WT σ2 → RR g M F zF (pc + 3) ls (.int (b2i v) :: rest) σ2) : RR g M F zF pc ls (.int a1 :: .ref (ad g 73) :: rest) σ :=
  r_callV (z := zF) (N := mX8_back) (nn := 1) (o1 := some (.int (b2i v))) (sX8_back hf ) (rfl : shp 73 = (8, 0)) (by decide) (shp_le (rfl : shp 73 = (8, 0)) (nle rfl)) (ci := 8) rfl rfl tw_7_18 tw_1_10 hl tw_7_16 tw_7_17 ⟨by decide, by decide, rfl⟩ hR rfl hrest hd ⟨Nat.zero_le _, Nat.zero_le _⟩ rfl (fun h => k (h rfl))

theorem dX0_describe_0 : decode cX0_describe 0 = .ok (.iload_n 1, 1) := by decide +kernel
theorem dX0_describe_1 : decode cX0_describe 1 = .ok (.iconst 1, 1) := by decide +kernel
theorem dX0_describe_2 : decode cX0_describe 2 = .ok (.if_icmp .lt 8, 3) := by decide +kernel
theorem dX0_describe_5 : decode cX0_describe 5 = .ok (.iload_n 2, 1) := by decide +kernel
theorem dX0_describe_6 : decode cX0_describe 6 = .ok (.iconst 1, 1) := by decide +kernel
theorem dX0_describe_7 : decode cX0_describe 7 = .ok (.if_icmp .ge 4, 3) := by decide +kernel
theorem dX0_describe_10 : decode cX0_describe 10 = .ok (.return_, 1) := by decide +kernel
theorem dX0_describe_11 : decode cX0_describe 11 = .ok (.aload_n 0, 1) := by decide +kernel
theorem dX0_describe_12 : decode cX0_describe 12 = .ok (.getfield 43, 3) := by decide +kernel
theorem dX0_describe_15 : decode cX0_describe 15 = .ok (.istore_n 3, 1) := by decide +kernel
theorem dX0_describe_16 : decode cX0_describe 16 = .ok (.aload_n 0, 1) := by decide +kernel
theorem dX0_describe_17 : decode cX0_describe 17 = .ok (.dup, 1) := by decide +kernel
theorem dX0_describe_18 : decode cX0_describe 18 = .ok (.getfield 43, 3) := by decide +kernel
theorem dX0_describe_21 : decode cX0_describe 21 = .ok (.iconst 1, 1) := by decide +kernel
theorem dX0_describe_22 : decode cX0_describe 22 = .ok (.iadd, 1) := by decide +kernel
theorem dX0_describe_23 : decode cX0_describe 23 = .ok (.putfield 43, 3) := by decide +kernel
theorem dX0_describe_26 : decode cX0_describe 26 = .ok (.aload_n 0, 1) := by decide +kernel
theorem dX0_describe_27 : decode cX0_describe 27 = .ok (.getfield 11, 3) := by decide +kernel
theorem dX0_describe_30 : decode cX0_describe 30 = .ok (.iload_n 3, 1) := by decide +kernel
theorem dX0_describe_31 : decode cX0_describe 31 = .ok (.iload_n 2, 1) := by decide +kernel
theorem dX0_describe_32 : decode cX0_describe 32 = .ok (.iastore, 1) := by decide +kernel
theorem dX0_describe_33 : decode cX0_describe 33 = .ok (.aload_n 0, 1) := by decide +kernel
theorem dX0_describe_34 : decode cX0_describe 34 = .ok (.getfield 15, 3) := by decide +kernel
theorem dX0_describe_37 : decode cX0_describe 37 = .ok (.iload_n 3, 1) := by decide +kernel
theorem dX0_describe_38 : decode cX0_describe 38 = .ok (.iconst 0, 1) := by decide +kernel
theorem dX0_describe_39 : decode cX0_describe 39 = .ok (.iastore, 1) := by decide +kernel
theorem dX0_describe_40 : decode cX0_describe 40 = .ok (.aload_n 0, 1) := by decide +kernel
theorem dX0_describe_41 : decode cX0_describe 41 = .ok (.getfield 18, 3) := by decide +kernel
theorem dX0_describe_44 : decode cX0_describe 44 = .ok (.iload_n 3, 1) := by decide +kernel
theorem dX0_describe_45 : decode cX0_describe 45 = .ok (.iconst 0, 1) := by decide +kernel
theorem dX0_describe_46 : decode cX0_describe 46 = .ok (.iastore, 1) := by decide +kernel
theorem dX0_describe_47 : decode cX0_describe 47 = .ok (.aload_n 0, 1) := by decide +kernel
theorem dX0_describe_48 : decode cX0_describe 48 = .ok (.getfield 21, 3) := by decide +kernel
theorem dX0_describe_51 : decode cX0_describe 51 = .ok (.iload_n 3, 1) := by decide +kernel
theorem dX0_describe_52 : decode cX0_describe 52 = .ok (.aload_n 0, 1) := by decide +kernel
theorem dX0_describe_53 : decode cX0_describe 53 = .ok (.getfield 36, 3) := by decide +kernel
theorem dX0_describe_56 : decode cX0_describe 56 = .ok (.iconst 0, 1) := by decide +kernel
theorem dX0_describe_57 : decode cX0_describe 57 = .ok (.iaload, 1) := by decide +kernel
theorem dX0_describe_58 : decode cX0_describe 58 = .ok (.iload_n 1, 1) := by decide +kernel
theorem dX0_describe_59 : decode cX0_describe 59 = .ok (.irem, 1) := by decide +kernel
theorem dX0_describe_60 : decode cX0_describe 60 = .ok (.iastore, 1) := by decide +kernel
theorem dX0_describe_61 : decode cX0_describe 61 = .ok (.aload_n 0, 1) := by decide +kernel
theorem dX0_describe_62 : decode cX0_describe 62 = .ok (.getfield 24, 3) := by decide +kernel
theorem dX0_describe_65 : decode cX0_describe 65 = .ok (.iload_n 3, 1) := by decide +kernel
theorem dX0_describe_66 : decode cX0_describe 66 = .ok (.aload_n 0, 1) := by decide +kernel
theorem dX0_describe_67 : decode cX0_describe 67 = .ok (.getfield 36, 3) := by decide +kernel
theorem dX0_describe_70 : decode cX0_describe 70 = .ok (.iconst 0, 1) := by decide +kernel
theorem dX0_describe_71 : decode cX0_describe 71 = .ok (.iaload, 1) := by decide +kernel
theorem dX0_describe_72 : decode cX0_describe 72 = .ok (.iload_n 1, 1) := by decide +kernel
theorem dX0_describe_73 : decode cX0_describe 73 = .ok (.idiv, 1) := by decide +kernel
theorem dX0_describe_74 : decode cX0_describe 74 = .ok (.iastore, 1) := by decide +kernel
theorem dX0_describe_75 : decode cX0_describe 75 = .ok (.aload_n 0, 1) := by decide +kernel
theorem dX0_describe_76 : decode cX0_describe 76 = .ok (.getfield 27, 3) := by decide +kernel
theorem dX0_describe_79 : decode cX0_describe 79 = .ok (.iload_n 3, 1) := by decide +kernel
theorem dX0_describe_80 : decode cX0_describe 80 = .ok (.aload_n 0, 1) := by decide +kernel
theorem dX0_describe_81 : decode cX0_describe 81 = .ok (.getfield 21, 3) := by decide +kernel
theorem dX0_describe_84 : decode cX0_describe 84 = .ok (.iload_n 3, 1) := by decide +kernel
theorem dX0_describe_85 : decode cX0_describe 85 = .ok (.iaload, 1) := by decide +kernel
theorem dX0_describe_86 : decode cX0_describe 86 = .ok (.iastore, 1) := by decide +kernel
theorem dX0_describe_87 : decode cX0_describe 87 = .ok (.aload_n 0, 1) := by decide +kernel
theorem dX0_describe_88 : decode cX0_describe 88 = .ok (.getfield 30, 3) := by decide +kernel
theorem dX0_describe_91 : decode cX0_describe 91 = .ok (.iload_n 3, 1) := by decide +kernel
theorem dX0_describe_92 : decode cX0_describe 92 = .ok (.aload_n 0, 1) := by decide +kernel
theorem dX0_describe_93 : decode cX0_describe 93 = .ok (.getfield 21, 3) := by decide +kernel
theorem dX0_describe_96 : decode cX0_describe 96 = .ok (.iload_n 3, 1) := by decide +kernel
theorem dX0_describe_97 : decode cX0_describe 97 = .ok (.iaload, 1) := by decide +kernel
theorem dX0_describe_98 : decode cX0_describe 98 = .ok (.iastore, 1) := by decide +kernel
theorem dX0_describe_99 : decode cX0_describe 99 = .ok (.aload_n 0, 1) := by decide +kernel
theorem dX0_describe_100 : decode cX0_describe 100 = .ok (.getfield 33, 3) := by decide +kernel
theorem dX0_describe_103 : decode cX0_describe 103 = .ok (.iload_n 3, 1) := by decide +kernel
theorem dX0_describe_104 : decode cX0_describe 104 = .ok (.aload_n 0, 1) := by decide +kernel
theorem dX0_describe_105 : decode cX0_describe 105 = .ok (.getfield 24, 3) := by decide +kernel
theorem dX0_describe_108 : decode cX0_describe 108 = .ok (.iload_n 3, 1) := by decide +kernel
theorem dX0_describe_109 : decode cX0_describe 109 = .ok (.iaload, 1) := by decide +kernel
theorem dX0_describe_110 : decode cX0_describe 110 = .ok (.iastore, 1) := by decide +kernel
theorem dX0_describe_111 : decode cX0_describe 111 = .ok (.iconst 0, 1) := by decide +kernel
theorem dX0_describe_112 : decode cX0_describe 112 = .ok (.istore 4, 2) := by decide +kernel
theorem dX0_describe_114 : decode cX0_describe 114 = .ok (.iload 4, 2) := by decide +kernel
theorem dX0_describe_116 : decode cX0_describe 116 = .ok (.iload_n 2, 1) := by decide +kernel
theorem dX0_describe_117 : decode cX0_describe 117 = .ok (.if_icmp .ge 104, 3) := by decide +kernel
theorem dX0_describe_120 : decode cX0_describe 120 = .ok (.aload_n 0, 1) := by decide +kernel
theorem dX0_describe_121 : decode cX0_describe 121 = .ok (.getfield 36, 3) := by decide +kernel
theorem dX0_describe_124 : decode cX0_describe 124 = .ok (.iload 4, 2) := by decide +kernel
theorem dX0_describe_126 : decode cX0_describe 126 = .ok (.iaload, 1) := by decide +kernel
theorem dX0_describe_127 : decode cX0_describe 127 = .ok (.iload_n 1, 1) := by decide +kernel
theorem dX0_describe_128 : decode cX0_describe 128 = .ok (.irem, 1) := by decide +kernel
theorem dX0_describe_129 : decode cX0_describe 129 = .ok (.istore 5, 2) := by decide +kernel
theorem dX0_describe_131 : decode cX0_describe 131 = .ok (.aload_n 0, 1) := by decide +kernel
theorem dX0_describe_132 : decode cX0_describe 132 = .ok (.getfield 36, 3) := by decide +kernel
theorem dX0_describe_135 : decode cX0_describe 135 = .ok (.iload 4, 2) := by decide +kernel
theorem dX0_describe_137 : decode cX0_describe 137 = .ok (.iaload, 1) := by decide +kernel
theorem dX0_describe_138 : decode cX0_describe 138 = .ok (.iload_n 1, 1) := by decide +kernel
theorem dX0_describe_139 : decode cX0_describe 139 = .ok (.idiv, 1) := by decide +kernel
theorem dX0_describe_140 : decode cX0_describe 140 = .ok (.istore 6, 2) := by decide +kernel
theorem dX0_describe_142 : decode cX0_describe 142 = .ok (.aload_n 0, 1) := by decide +kernel
theorem dX0_describe_143 : decode cX0_describe 143 = .ok (.getfield 15, 3) := by decide +kernel
theorem dX0_describe_146 : decode cX0_describe 146 = .ok (.iload_n 3, 1) := by decide +kernel
theorem dX0_describe_147 : decode cX0_describe 147 = .ok (.dup2, 1) := by decide +kernel
theorem dX0_describe_148 : decode cX0_describe 148 = .ok (.iaload, 1) := by decide +kernel
theorem dX0_describe_149 : decode cX0_describe 149 = .ok (.iload 5, 2) := by decide +kernel
theorem dX0_describe_151 : decode cX0_describe 151 = .ok (.iadd, 1) := by decide +kernel
theorem dX0_describe_152 : decode cX0_describe 152 = .ok (.iastore, 1) := by decide +kernel
theorem dX0_describe_153 : decode cX0_describe 153 = .ok (.aload_n 0, 1) := by decide +kernel
theorem dX0_describe_154 : decode cX0_describe 154 = .ok (.getfield 18, 3) := by decide +kernel
theorem dX0_describe_157 : decode cX0_describe 157 = .ok (.iload_n 3, 1) := by decide +kernel
theorem dX0_describe_158 : decode cX0_describe 158 = .ok (.dup2, 1) := by decide +kernel
theorem dX0_describe_159 : decode cX0_describe 159 = .ok (.iaload, 1) := by decide +kernel
theorem dX0_describe_160 : decode cX0_describe 160 = .ok (.iload 6, 2) := by decide +kernel
theorem dX0_describe_162 : decode cX0_describe 162 = .ok (.iadd, 1) := by decide +kernel
theorem dX0_describe_163 : decode cX0_describe 163 = .ok (.iastore, 1) := by decide +kernel
theorem dX0_describe_164 : decode cX0_describe 164 = .ok (.aload_n 0, 1) := by decide +kernel
theorem dX0_describe_165 : decode cX0_describe 165 = .ok (.getfield 27, 3) := by decide +kernel
theorem dX0_describe_168 : decode cX0_describe 168 = .ok (.iload_n 3, 1) := by decide +kernel
theorem dX0_describe_169 : decode cX0_describe 169 = .ok (.aload_n 0, 1) := by decide +kernel
theorem dX0_describe_170 : decode cX0_describe 170 = .ok (.getfield 27, 3) := by decide +kernel
theorem dX0_describe_173 : decode cX0_describe 173 = .ok (.iload_n 3, 1) := by decide +kernel
theorem dX0_describe_174 : decode cX0_describe 174 = .ok (.iaload, 1) := by decide +kernel
theorem dX0_describe_175 : decode cX0_describe 175 = .ok (.iload 5, 2) := by decide +kernel
theorem dX0_describe_177 : decode cX0_describe 177 = .ok (.invokestatic 77, 3) := by decide +kernel
theorem dX0_describe_180 : decode cX0_describe 180 = .ok (.iastore, 1) := by decide +kernel
theorem dX0_describe_181 : decode cX0_describe 181 = .ok (.aload_n 0, 1) := by decide +kernel
theorem dX0_describe_182 : decode cX0_describe 182 = .ok (.getfield 30, 3) := by decide +kernel
theorem dX0_describe_185 : decode cX0_describe 185 = .ok (.iload_n 3, 1) := by decide +kernel
theorem dX0_describe_186 : decode cX0_describe 186 = .ok (.aload_n 0, 1) := by decide +kernel
theorem dX0_describe_187 : decode cX0_describe 187 = .ok (.getfield 30, 3) := by decide +kernel
theorem dX0_describe_190 : decode cX0_describe 190 = .ok (.iload_n 3, 1) := by decide +kernel
theorem dX0_describe_191 : decode cX0_describe 191 = .ok (.iaload, 1) := by decide +kernel
theorem dX0_describe_192 : decode cX0_describe 192 = .ok (.iload 5, 2) := by decide +kernel
theorem dX0_describe_194 : decode cX0_describe 194 = .ok (.invokestatic 83, 3) := by decide +kernel
theorem dX0_describe_197 : decode cX0_describe 197 = .ok (.iastore, 1) := by decide +kernel
theorem dX0_describe_198 : decode cX0_describe 198 = .ok (.aload_n 0, 1) := by decide +kernel
theorem dX0_describe_199 : decode cX0_describe 199 = .ok (.getfield 33, 3) := by decide +kernel
theorem dX0_describe_202 : decode cX0_describe 202 = .ok (.iload_n 3, 1) := by decide +kernel
theorem dX0_describe_203 : decode cX0_describe 203 = .ok (.aload_n 0, 1) := by decide +kernel
theorem dX0_describe_204 : decode cX0_describe 204 = .ok (.getfield 33, 3) := by decide +kernel
theorem dX0_describe_207 : decode cX0_describe 207 = .ok (.iload_n 3, 1) := by decide +kernel
theorem dX0_describe_208 : decode cX0_describe 208 = .ok (.iaload, 1) := by decide +kernel
theorem dX0_describe_209 : decode cX0_describe 209 = .ok (.iload 6, 2) := by decide +kernel
theorem dX0_describe_211 : decode cX0_describe 211 = .ok (.invokestatic 83, 3) := by decide +kernel
theorem dX0_describe_214 : decode cX0_describe 214 = .ok (.iastore, 1) := by decide +kernel
theorem dX0_describe_215 : decode cX0_describe 215 = .ok (.iinc 4 1, 3) := by decide +kernel
theorem dX0_describe_218 : decode cX0_describe 218 = .ok (.goto (-104), 3) := by decide +kernel
theorem dX0_describe_221 : decode cX0_describe 221 = .ok (.return_, 1) := by decide +kernel
def mX0_describe : MM := (yX0_describe, cX0_describe, 7, none, { frames := 1, cells := 0, slots := 0, locals := 21 })
def X0_describe_L114 (u1_ : Int32) (u2_ : Int32) (u3_ : Int32)  : Nat → Int32 → SS → Option SS :=
  lp (fun _ _ => none) fun rec v4_ σ_ =>
    if u2_ ≤ v4_ then (
      some σ_
      ) else (
      grd (inb v4_ 1600) <|
      grd (nz u1_) <|
      vthen (irm (gI σ_ 42 (Int32.toNatClampNeg v4_)) u1_) fun v15 =>
      vthen ((gI σ_ 42 (Int32.toNatClampNeg v4_)) / u1_) fun v16 =>
      grd (inb u3_ 800) <|
      vthen (sI σ_ 35 (Int32.toNatClampNeg u3_) ((gI σ_ 35 (Int32.toNatClampNeg u3_)) + v15)) fun σ18 =>
      vthen (sI σ18 36 (Int32.toNatClampNeg u3_) ((gI σ18 36 (Int32.toNatClampNeg u3_)) + v16)) fun σ19 =>
      vthen (sI σ19 39 (Int32.toNatClampNeg u3_) (fJ9_min_7cf53 σ19 (gI σ19 39 (Int32.toNatClampNeg u3_)) v15)) fun σ20 =>
      vthen (sI σ20 40 (Int32.toNatClampNeg u3_) (fJ9_max_7cf53 σ20 (gI σ20 40 (Int32.toNatClampNeg u3_)) v15)) fun σ21 =>
      vthen (sI σ21 41 (Int32.toNatClampNeg u3_) (fJ9_max_7cf53 σ21 (gI σ21 41 (Int32.toNatClampNeg u3_)) v16)) fun σ22 =>
      rec (v4_ + (1 : Int32)) σ22
      )

def fX0_describe (σ : SS) (a1 : Int32) (a2 : Int32) : Option SS :=
  if a1 < (1 : Int32) then (
    some σ
    ) else (
    if (1 : Int32) ≤ a2 then (
      vthen (gI σ 33 0) fun v1 =>
      vthen (sI σ 33 0 ((gI σ 33 0) + (1 : Int32))) fun σ2 =>
      grd (inb v1 800) <|
      vthen (sI σ2 34 (Int32.toNatClampNeg v1) a2) fun σ4 =>
      vthen (sI σ4 35 (Int32.toNatClampNeg v1) (0 : Int32)) fun σ5 =>
      vthen (sI σ5 36 (Int32.toNatClampNeg v1) (0 : Int32)) fun σ6 =>
      grd (nz a1) <|
      vthen (sI σ6 37 (Int32.toNatClampNeg v1) (irm (gI σ6 42 0) a1)) fun σ8 =>
      vthen (sI σ8 38 (Int32.toNatClampNeg v1) ((gI σ8 42 0) / a1)) fun σ9 =>
      vthen (sI σ9 39 (Int32.toNatClampNeg v1) (gI σ9 37 (Int32.toNatClampNeg v1))) fun σ10 =>
      vthen (sI σ10 40 (Int32.toNatClampNeg v1) (gI σ10 37 (Int32.toNatClampNeg v1))) fun σ11 =>
      vthen (sI σ11 41 (Int32.toNatClampNeg v1) (gI σ11 38 (Int32.toNatClampNeg v1))) fun σ12 =>
      X0_describe_L114 a1 a2 v1
      fuel (0 : Int32) σ12
      ) else (
      some σ
      )
    )

set_option maxRecDepth 20000 in
theorem sX0_describe_L114 {g : GG} {r : SS} {u1_ : Int32} {u2_ : Int32} {u3_ : Int32}  
    (n : Nat) : ∀ (v4_ : Int32) (σ_ : SS), X0_describe_L114 u1_ u2_ u3_ n v4_ σ_ = some r → WT σ_ → RR g mX0_describe (FinR g mX0_describe none NF r) zF 114 [(0, .ref (ad g 33)), (1, .int u1_), (2, .int u2_), (3, .int u3_), (4, .int v4_)] [] σ_ := by
  unfold X0_describe_L114
  refine lp_ind (P := fun (rec : Int32 → SS → Option SS) => ∀ (v4_ : Int32) (σ_ : SS), rec v4_ σ_ = some r → WT σ_ → RR g mX0_describe (FinR g mX0_describe none NF r) zF 114 [(0, .ref (ad g 33)), (1, .int u1_), (2, .int u2_), (3, .int u3_), (4, .int v4_)] [] σ_) ?_ ?_ n
  · intro v4_ σ_ hr; cases hr
  intro rec ih v4_ σ_ hr hw_
  refine r_iload (pc := 114) (j := 4) dX0_describe_114 rfl ?_
  refine r_iload_n (pc := 116) (j := 2) dX0_describe_116 rfl rfl ?_
  refine r_icmp_ge (pc := 117) (tgt := 221) dX0_describe_117 rfl (fun hc => ?_) (fun hc => ?_)
  · replace hr := ite_t hc hr
    exact l_ov hr (r_vret (pc := 221) rfl rfl ⟨Nat.le_refl _, Nat.le_refl _⟩ dX0_describe_221)
  replace hr := ite_f hc hr
  refine r_aload_n (pc := 120) (j := 0) dX0_describe_120 rfl rfl ?_
  refine gf0_9 (pc := 121) tw_1_204 hw_ dX0_describe_121 ?_
  refine r_iload (pc := 124) (j := 4) dX0_describe_124 rfl ?_
  obtain ⟨h13, hr⟩ := grd_inv hr
  refine x_iald (pc := 126) (k := (Int32.toNatClampNeg v4_)) rfl h13 rfl dX0_describe_126 ?_
  refine r_iload_n (pc := 127) (j := 1) dX0_describe_127 rfl rfl ?_
  obtain ⟨h14, hr⟩ := grd_inv hr
  refine r_irem (pc := 128) dX0_describe_128 (nz_ne h14) ?_
  refine r_topi fun v15 ev15 => ?_
  replace hr := vthen_inv hr v15 ev15
  refine r_istore (pc := 129) (ls1 := [(5, .int v15), (0, .ref (ad g 33)), (1, .int u1_), (2, .int u2_), (3, .int u3_), (4, .int v4_)]) dX0_describe_129 (nle rfl) rfl ?_
  refine r_aload_n (pc := 131) (j := 1) dX0_describe_131 rfl rfl ?_
  refine gf0_9 (pc := 132) tw_1_204 hw_ dX0_describe_132 ?_
  refine r_iload (pc := 135) (j := 5) dX0_describe_135 rfl ?_
  refine x_iald (pc := 137) (k := (Int32.toNatClampNeg v4_)) rfl h13 rfl dX0_describe_137 ?_
  refine r_iload_n (pc := 138) (j := 2) dX0_describe_138 rfl rfl ?_
  refine r_idiv (pc := 139) dX0_describe_139 (nz_ne h14) ?_
  refine r_topi fun v16 ev16 => ?_
  replace hr := vthen_inv hr v16 ev16
  refine r_istore (pc := 140) (ls1 := [(6, .int v16), (5, .int v15), (0, .ref (ad g 33)), (1, .int u1_), (2, .int u2_), (3, .int u3_), (4, .int v4_)]) dX0_describe_140 (nle rfl) rfl ?_
  refine r_aload_n (pc := 142) (j := 2) dX0_describe_142 rfl rfl ?_
  refine gf0_2 (pc := 143) tw_1_188 hw_ dX0_describe_143 ?_
  refine r_iload_n (pc := 146) (j := 5) dX0_describe_146 rfl rfl ?_
  refine r_dup2 (pc := 147) dX0_describe_147 rfl rfl ?_
  obtain ⟨h17, hr⟩ := grd_inv hr
  refine x_iald (pc := 148) (k := (Int32.toNatClampNeg u3_)) rfl h17 rfl dX0_describe_148 ?_
  refine r_iload (pc := 149) (j := 1) dX0_describe_149 rfl ?_
  refine r_iadd (pc := 151) dX0_describe_151 ?_
  refine x_iast (pc := 152) (j := (Int32.toNatClampNeg u3_)) rfl h17 rfl dX0_describe_152 fun σ18 eσ18 => ?_
  replace hr := vthen_inv hr σ18 eσ18
  have hσ18 := wtI eσ18 hw_
  refine r_aload_n (pc := 153) (j := 2) dX0_describe_153 rfl rfl ?_
  refine gf0_3 (pc := 154) tw_1_191 hσ18 dX0_describe_154 ?_
  refine r_iload_n (pc := 157) (j := 5) dX0_describe_157 rfl rfl ?_
  refine r_dup2 (pc := 158) dX0_describe_158 rfl rfl ?_
  refine x_iald (pc := 159) (k := (Int32.toNatClampNeg u3_)) rfl h17 rfl dX0_describe_159 ?_
  refine r_iload (pc := 160) (j := 0) dX0_describe_160 rfl ?_
  refine r_iadd (pc := 162) dX0_describe_162 ?_
  refine x_iast (pc := 163) (j := (Int32.toNatClampNeg u3_)) rfl h17 rfl dX0_describe_163 fun σ19 eσ19 => ?_
  replace hr := vthen_inv hr σ19 eσ19
  have hσ19 := wtI eσ19 hσ18
  refine r_aload_n (pc := 164) (j := 2) dX0_describe_164 rfl rfl ?_
  refine gf0_6 (pc := 165) tw_1_198 hσ19 dX0_describe_165 ?_
  refine r_iload_n (pc := 168) (j := 5) dX0_describe_168 rfl rfl ?_
  refine r_aload_n (pc := 169) (j := 2) dX0_describe_169 rfl rfl ?_
  refine gf0_6 (pc := 170) tw_1_198 hσ19 dX0_describe_170 ?_
  refine r_iload_n (pc := 173) (j := 5) dX0_describe_173 rfl rfl ?_
  refine x_iald (pc := 174) (k := (Int32.toNatClampNeg u3_)) rfl h17 rfl dX0_describe_174 ?_
  refine r_iload (pc := 175) (j := 1) dX0_describe_175 rfl ?_
  refine kJ9_min_7cf53 (pc := 177) (hf := rfl) tw_4_22 ⟨nle rfl, nle rfl⟩ (nle rfl) dX0_describe_177 ?_
  refine x_iast (pc := 180) (j := (Int32.toNatClampNeg u3_)) rfl h17 rfl dX0_describe_180 fun σ20 eσ20 => ?_
  replace hr := vthen_inv hr σ20 eσ20
  have hσ20 := wtI eσ20 hσ19
  refine r_aload_n (pc := 181) (j := 2) dX0_describe_181 rfl rfl ?_
  refine gf0_7 (pc := 182) tw_1_200 hσ20 dX0_describe_182 ?_
  refine r_iload_n (pc := 185) (j := 5) dX0_describe_185 rfl rfl ?_
  refine r_aload_n (pc := 186) (j := 2) dX0_describe_186 rfl rfl ?_
  refine gf0_7 (pc := 187) tw_1_200 hσ20 dX0_describe_187 ?_
  refine r_iload_n (pc := 190) (j := 5) dX0_describe_190 rfl rfl ?_
  refine x_iald (pc := 191) (k := (Int32.toNatClampNeg u3_)) rfl h17 rfl dX0_describe_191 ?_
  refine r_iload (pc := 192) (j := 1) dX0_describe_192 rfl ?_
  refine kJ9_max_7cf53 (pc := 194) (hf := rfl) tw_4_23 ⟨nle rfl, nle rfl⟩ (nle rfl) dX0_describe_194 ?_
  refine x_iast (pc := 197) (j := (Int32.toNatClampNeg u3_)) rfl h17 rfl dX0_describe_197 fun σ21 eσ21 => ?_
  replace hr := vthen_inv hr σ21 eσ21
  have hσ21 := wtI eσ21 hσ20
  refine r_aload_n (pc := 198) (j := 2) dX0_describe_198 rfl rfl ?_
  refine gf0_8 (pc := 199) tw_1_202 hσ21 dX0_describe_199 ?_
  refine r_iload_n (pc := 202) (j := 5) dX0_describe_202 rfl rfl ?_
  refine r_aload_n (pc := 203) (j := 2) dX0_describe_203 rfl rfl ?_
  refine gf0_8 (pc := 204) tw_1_202 hσ21 dX0_describe_204 ?_
  refine r_iload_n (pc := 207) (j := 5) dX0_describe_207 rfl rfl ?_
  refine x_iald (pc := 208) (k := (Int32.toNatClampNeg u3_)) rfl h17 rfl dX0_describe_208 ?_
  refine r_iload (pc := 209) (j := 0) dX0_describe_209 rfl ?_
  refine kJ9_max_7cf53 (pc := 211) (hf := rfl) tw_4_23 ⟨nle rfl, nle rfl⟩ (nle rfl) dX0_describe_211 ?_
  refine x_iast (pc := 214) (j := (Int32.toNatClampNeg u3_)) rfl h17 rfl dX0_describe_214 fun σ22 eσ22 => ?_
  replace hr := vthen_inv hr σ22 eσ22
  have hσ22 := wtI eσ22 hσ21
  refine r_iinc (pc := 215) (j := 6) (v := (v4_ + (1 : Int32))) (ls1 := [(4, .int (v4_ + (1 : Int32))), (6, .int v16), (5, .int v15), (0, .ref (ad g 33)), (1, .int u1_), (2, .int u2_), (3, .int u3_)]) dX0_describe_215 rfl rfl (nle rfl) rfl ?_
  refine r_goto (pc := 218) (tgt := 114) dX0_describe_218 rfl ?_
  exact r_pick (ls1 := [(0, .ref (ad g 33)), (1, .int u1_), (2, .int u2_), (3, .int u3_), (4, .int (v4_ + (1 : Int32)))]) [3, 4, 5, 6, 0] rfl (ih (v4_ + (1 : Int32)) σ22 hr hσ22)

set_option maxRecDepth 20000 in
theorem sX0_describe {g : GG} {σ : SS} {a1 : Int32} {a2 : Int32} {r : SS} (hr : fX0_describe σ a1 a2 = some r)  : Ct g mX0_describe [.ref (ad g 33), .int a1, .int a2] NF σ none NF r := by
  refine Ct.of (by decide +kernel) (nle rfl) fun hw0 => ?_
  have hw := hw0 rfl
  unfold fX0_describe at hr
  change RR g mX0_describe (FinR g mX0_describe none NF r) zF 0 [(0, .ref (ad g 33)), (1, .int a1), (2, .int a2)] [] σ
  refine r_iload_n (pc := 0) (j := 1) dX0_describe_0 rfl rfl ?_
  refine r_iconst (pc := 1) (v := (1 : Int32)) dX0_describe_1 rfl ?_
  refine r_icmp_lt (pc := 2) (tgt := 10) dX0_describe_2 rfl (fun hc => ?_) (fun hc => ?_)
  · replace hr := ite_t hc hr
    exact l_ov hr (r_vret (pc := 10) rfl rfl ⟨Nat.le_refl _, Nat.le_refl _⟩ dX0_describe_10)
  replace hr := ite_f hc hr
  refine r_iload_n (pc := 5) (j := 2) dX0_describe_5 rfl rfl ?_
  refine r_iconst (pc := 6) (v := (1 : Int32)) dX0_describe_6 rfl ?_
  refine r_icmp_ge (pc := 7) (tgt := 11) dX0_describe_7 rfl (fun hc => ?_) (fun hc => ?_)
  · replace hr := ite_t hc hr
    refine r_aload_n (pc := 11) (j := 0) dX0_describe_11 rfl rfl ?_
    refine gf0_0 (pc := 12) tw_1_183 rfl dX0_describe_12 ?_
    refine r_topi fun v1 ev1 => ?_
    replace hr := vthen_inv hr v1 ev1
    refine r_istore_n (pc := 15) (ls1 := [(3, .int v1), (0, .ref (ad g 33)), (1, .int a1), (2, .int a2)]) dX0_describe_15 rfl (nle rfl) rfl ?_
    refine r_aload_n (pc := 16) (j := 1) dX0_describe_16 rfl rfl ?_
    refine r_dup (pc := 17) dX0_describe_17 rfl ?_
    refine gf0_0 (pc := 18) tw_1_183 rfl dX0_describe_18 ?_
    refine r_iconst (pc := 21) (v := (1 : Int32)) dX0_describe_21 rfl ?_
    refine r_iadd (pc := 22) dX0_describe_22 ?_
    refine pf0_0 (pc := 23) tw_1_183 rfl dX0_describe_23 fun σ2 eσ2 => ?_
    replace hr := vthen_inv hr σ2 eσ2
    have hσ2 := wtI eσ2 hw
    refine r_aload_n (pc := 26) (j := 1) dX0_describe_26 rfl rfl ?_
    refine gf0_1 (pc := 27) tw_1_185 hσ2 dX0_describe_27 ?_
    refine r_iload_n (pc := 30) (j := 0) dX0_describe_30 rfl rfl ?_
    refine r_iload_n (pc := 31) (j := 3) dX0_describe_31 rfl rfl ?_
    obtain ⟨h3, hr⟩ := grd_inv hr
    refine x_iast (pc := 32) (j := (Int32.toNatClampNeg v1)) rfl h3 rfl dX0_describe_32 fun σ4 eσ4 => ?_
    replace hr := vthen_inv hr σ4 eσ4
    have hσ4 := wtI eσ4 hσ2
    refine r_aload_n (pc := 33) (j := 1) dX0_describe_33 rfl rfl ?_
    refine gf0_2 (pc := 34) tw_1_188 hσ4 dX0_describe_34 ?_
    refine r_iload_n (pc := 37) (j := 0) dX0_describe_37 rfl rfl ?_
    refine r_iconst (pc := 38) (v := (0 : Int32)) dX0_describe_38 rfl ?_
    refine x_iast (pc := 39) (j := (Int32.toNatClampNeg v1)) rfl h3 rfl dX0_describe_39 fun σ5 eσ5 => ?_
    replace hr := vthen_inv hr σ5 eσ5
    have hσ5 := wtI eσ5 hσ4
    refine r_aload_n (pc := 40) (j := 1) dX0_describe_40 rfl rfl ?_
    refine gf0_3 (pc := 41) tw_1_191 hσ5 dX0_describe_41 ?_
    refine r_iload_n (pc := 44) (j := 0) dX0_describe_44 rfl rfl ?_
    refine r_iconst (pc := 45) (v := (0 : Int32)) dX0_describe_45 rfl ?_
    refine x_iast (pc := 46) (j := (Int32.toNatClampNeg v1)) rfl h3 rfl dX0_describe_46 fun σ6 eσ6 => ?_
    replace hr := vthen_inv hr σ6 eσ6
    have hσ6 := wtI eσ6 hσ5
    refine r_aload_n (pc := 47) (j := 1) dX0_describe_47 rfl rfl ?_
    refine gf0_4 (pc := 48) tw_1_194 hσ6 dX0_describe_48 ?_
    refine r_iload_n (pc := 51) (j := 0) dX0_describe_51 rfl rfl ?_
    refine r_aload_n (pc := 52) (j := 1) dX0_describe_52 rfl rfl ?_
    refine gf0_9 (pc := 53) tw_1_204 hσ6 dX0_describe_53 ?_
    refine r_iconst (pc := 56) (v := (0 : Int32)) dX0_describe_56 rfl ?_
    refine x_iald (pc := 57) (k := 0) rfl (by decide) rfl dX0_describe_57 ?_
    refine r_iload_n (pc := 58) (j := 2) dX0_describe_58 rfl rfl ?_
    obtain ⟨h7, hr⟩ := grd_inv hr
    refine r_irem (pc := 59) dX0_describe_59 (nz_ne h7) ?_
    refine x_iast (pc := 60) (j := (Int32.toNatClampNeg v1)) rfl h3 rfl dX0_describe_60 fun σ8 eσ8 => ?_
    replace hr := vthen_inv hr σ8 eσ8
    have hσ8 := wtI eσ8 hσ6
    refine r_aload_n (pc := 61) (j := 1) dX0_describe_61 rfl rfl ?_
    refine gf0_5 (pc := 62) tw_1_196 hσ8 dX0_describe_62 ?_
    refine r_iload_n (pc := 65) (j := 0) dX0_describe_65 rfl rfl ?_
    refine r_aload_n (pc := 66) (j := 1) dX0_describe_66 rfl rfl ?_
    refine gf0_9 (pc := 67) tw_1_204 hσ8 dX0_describe_67 ?_
    refine r_iconst (pc := 70) (v := (0 : Int32)) dX0_describe_70 rfl ?_
    refine x_iald (pc := 71) (k := 0) rfl (by decide) rfl dX0_describe_71 ?_
    refine r_iload_n (pc := 72) (j := 2) dX0_describe_72 rfl rfl ?_
    refine r_idiv (pc := 73) dX0_describe_73 (nz_ne h7) ?_
    refine x_iast (pc := 74) (j := (Int32.toNatClampNeg v1)) rfl h3 rfl dX0_describe_74 fun σ9 eσ9 => ?_
    replace hr := vthen_inv hr σ9 eσ9
    have hσ9 := wtI eσ9 hσ8
    refine r_aload_n (pc := 75) (j := 1) dX0_describe_75 rfl rfl ?_
    refine gf0_6 (pc := 76) tw_1_198 hσ9 dX0_describe_76 ?_
    refine r_iload_n (pc := 79) (j := 0) dX0_describe_79 rfl rfl ?_
    refine r_aload_n (pc := 80) (j := 1) dX0_describe_80 rfl rfl ?_
    refine gf0_4 (pc := 81) tw_1_194 hσ9 dX0_describe_81 ?_
    refine r_iload_n (pc := 84) (j := 0) dX0_describe_84 rfl rfl ?_
    refine x_iald (pc := 85) (k := (Int32.toNatClampNeg v1)) rfl h3 rfl dX0_describe_85 ?_
    refine x_iast (pc := 86) (j := (Int32.toNatClampNeg v1)) rfl h3 rfl dX0_describe_86 fun σ10 eσ10 => ?_
    replace hr := vthen_inv hr σ10 eσ10
    have hσ10 := wtI eσ10 hσ9
    refine r_aload_n (pc := 87) (j := 1) dX0_describe_87 rfl rfl ?_
    refine gf0_7 (pc := 88) tw_1_200 hσ10 dX0_describe_88 ?_
    refine r_iload_n (pc := 91) (j := 0) dX0_describe_91 rfl rfl ?_
    refine r_aload_n (pc := 92) (j := 1) dX0_describe_92 rfl rfl ?_
    refine gf0_4 (pc := 93) tw_1_194 hσ10 dX0_describe_93 ?_
    refine r_iload_n (pc := 96) (j := 0) dX0_describe_96 rfl rfl ?_
    refine x_iald (pc := 97) (k := (Int32.toNatClampNeg v1)) rfl h3 rfl dX0_describe_97 ?_
    refine x_iast (pc := 98) (j := (Int32.toNatClampNeg v1)) rfl h3 rfl dX0_describe_98 fun σ11 eσ11 => ?_
    replace hr := vthen_inv hr σ11 eσ11
    have hσ11 := wtI eσ11 hσ10
    refine r_aload_n (pc := 99) (j := 1) dX0_describe_99 rfl rfl ?_
    refine gf0_8 (pc := 100) tw_1_202 hσ11 dX0_describe_100 ?_
    refine r_iload_n (pc := 103) (j := 0) dX0_describe_103 rfl rfl ?_
    refine r_aload_n (pc := 104) (j := 1) dX0_describe_104 rfl rfl ?_
    refine gf0_5 (pc := 105) tw_1_196 hσ11 dX0_describe_105 ?_
    refine r_iload_n (pc := 108) (j := 0) dX0_describe_108 rfl rfl ?_
    refine x_iald (pc := 109) (k := (Int32.toNatClampNeg v1)) rfl h3 rfl dX0_describe_109 ?_
    refine x_iast (pc := 110) (j := (Int32.toNatClampNeg v1)) rfl h3 rfl dX0_describe_110 fun σ12 eσ12 => ?_
    replace hr := vthen_inv hr σ12 eσ12
    have hσ12 := wtI eσ12 hσ11
    refine r_iconst (pc := 111) (v := (0 : Int32)) dX0_describe_111 rfl ?_
    refine r_istore (pc := 112) (ls1 := [(4, .int (0 : Int32)), (3, .int v1), (0, .ref (ad g 33)), (1, .int a1), (2, .int a2)]) dX0_describe_112 (nle rfl) rfl ?_
    refine r_pick (ls1 := [(0, .ref (ad g 33)), (1, .int a1), (2, .int a2), (3, .int v1), (4, .int (0 : Int32))]) [2, 3, 4, 1, 0] rfl ?_
    refine sX0_describe_L114     fuel (0 : Int32) σ12 hr hσ12
  replace hr := ite_f hc hr
  exact l_ov hr (r_vret (pc := 10) rfl rfl ⟨Nat.le_refl _, Nat.le_refl _⟩ dX0_describe_10)

theorem kX0_describe {g : GG} {σ : SS} {a1 : Int32} {a2 : Int32} {σ2 : SS} {M : MM} {F : State → Array Value → List Frame → State → Prop} {pc index : Nat} {ls : List (Nat × Value)} {rest : List Value} (hf : fX0_describe σ a1 a2 = some σ2)  (hl : Cond.methodLink M.1.cls index yX0_describe ∈ lw_gt) (hR : mX0_describe.2.2.2.2.frames + 1 ≤ M.2.2.2.2.frames ∧ 8 + (mX0_describe.2.2.1 + 11) + mX0_describe.2.2.2.2.locals ≤ M.2.2.2.2.locals) (hrest : (rest.map fun v => v.category).sum ≤ 8) (hd : decode M.2.1 pc = .ok (.invokevirtual index, 3)) (k : WT σ2 → RR g M F zF (pc + 3) ls rest σ2) : RR g M F zF pc ls (.int a2 :: .int a1 :: .ref (ad g 33) :: rest) σ :=
  r_callV (z := zF) (N := mX0_describe) (nn := 2) (o1 := none) (sX0_describe hf ) (rfl : shp 33 = (0, 0)) (by decide) (shp_le (rfl : shp 33 = (0, 0)) (nle rfl)) (ci := 0) rfl rfl tw_4_21 tw_1_6 hl tw_4_20 tp_21 ⟨by decide, by decide, rfl⟩ hR rfl hrest hd ⟨Nat.zero_le _, Nat.zero_le _⟩ rfl (fun h => k (h rfl))

theorem dX0_find_0 : decode cX0_find 0 = .ok (.aload_n 0, 1) := by decide +kernel
theorem dX0_find_1 : decode cX0_find 1 = .ok (.iconst 0, 1) := by decide +kernel
theorem dX0_find_2 : decode cX0_find 2 = .ok (.putfield 43, 3) := by decide +kernel
theorem dX0_find_5 : decode cX0_find 5 = .ok (.aload_n 0, 1) := by decide +kernel
theorem dX0_find_6 : decode cX0_find 6 = .ok (.getfield 39, 3) := by decide +kernel
theorem dX0_find_9 : decode cX0_find 9 = .ok (.iconst 0, 1) := by decide +kernel
theorem dX0_find_10 : decode cX0_find 10 = .ok (.invokestatic 47, 3) := by decide +kernel
theorem dX0_find_13 : decode cX0_find 13 = .ok (.iconst 0, 1) := by decide +kernel
theorem dX0_find_14 : decode cX0_find 14 = .ok (.istore 4, 2) := by decide +kernel
theorem dX0_find_16 : decode cX0_find 16 = .ok (.iload 4, 2) := by decide +kernel
theorem dX0_find_18 : decode cX0_find 18 = .ok (.aload_n 1, 1) := by decide +kernel
theorem dX0_find_19 : decode cX0_find 19 = .ok (.invokevirtual 53, 3) := by decide +kernel
theorem dX0_find_22 : decode cX0_find 22 = .ok (.if_icmp .ge 45, 3) := by decide +kernel
theorem dX0_find_25 : decode cX0_find 25 = .ok (.aload_n 0, 1) := by decide +kernel
theorem dX0_find_26 : decode cX0_find 26 = .ok (.aload_n 1, 1) := by decide +kernel
theorem dX0_find_27 : decode cX0_find 27 = .ok (.iload_n 2, 1) := by decide +kernel
theorem dX0_find_28 : decode cX0_find 28 = .ok (.iload 4, 2) := by decide +kernel
theorem dX0_find_30 : decode cX0_find 30 = .ok (.invokevirtual 59, 3) := by decide +kernel
theorem dX0_find_33 : decode cX0_find 33 = .ok (.istore 5, 2) := by decide +kernel
theorem dX0_find_35 : decode cX0_find 35 = .ok (.iload 5, 2) := by decide +kernel
theorem dX0_find_37 : decode cX0_find 37 = .ok (.iload_n 3, 1) := by decide +kernel
theorem dX0_find_38 : decode cX0_find 38 = .ok (.if_icmp .lt 23, 3) := by decide +kernel
theorem dX0_find_41 : decode cX0_find 41 = .ok (.aload_n 0, 1) := by decide +kernel
theorem dX0_find_42 : decode cX0_find 42 = .ok (.getfield 43, 3) := by decide +kernel
theorem dX0_find_45 : decode cX0_find 45 = .ok (.sipush 800, 3) := by decide +kernel
theorem dX0_find_48 : decode cX0_find 48 = .ok (.if_icmp .ge 13, 3) := by decide +kernel
theorem dX0_find_51 : decode cX0_find 51 = .ok (.aload_n 0, 1) := by decide +kernel
theorem dX0_find_52 : decode cX0_find 52 = .ok (.aload_n 1, 1) := by decide +kernel
theorem dX0_find_53 : decode cX0_find 53 = .ok (.getfield 63, 3) := by decide +kernel
theorem dX0_find_56 : decode cX0_find 56 = .ok (.iload 5, 2) := by decide +kernel
theorem dX0_find_58 : decode cX0_find 58 = .ok (.invokevirtual 66, 3) := by decide +kernel
theorem dX0_find_61 : decode cX0_find 61 = .ok (.iinc 4 1, 3) := by decide +kernel
theorem dX0_find_64 : decode cX0_find 64 = .ok (.goto (-48), 3) := by decide +kernel
theorem dX0_find_67 : decode cX0_find 67 = .ok (.return_, 1) := by decide +kernel
def mX0_find : MM := (yX0_find, cX0_find, 6, none, { frames := 2, cells := 0, slots := 0, locals := 53 })
def X0_find_L16 (o1_ : Nat) (u2_ : Int32) (u3_ : Int32)  : Nat → Int32 → SS → Option SS :=
  lp (fun _ _ => none) fun rec v4_ σ_ =>
    if (fX6_size σ_ o1_) ≤ v4_ then (
      some σ_
      ) else (
      bnd (fX0_gather σ_ o1_ u2_ v4_) fun v3 σ6 =>
      if v3 < u3_ then (
        rec (v4_ + (1 : Int32)) σ6
        ) else (
        if (800 : Int32) ≤ (gI σ6 33 0) then (
          rec (v4_ + (1 : Int32)) σ6
          ) else (
          bnd1 (fX0_describe σ6 (gI σ6 o1_ 0) v3) fun σ7 =>
          rec (v4_ + (1 : Int32)) σ7
          )
        )
      )

def fX0_find (σ : SS) (a1 : Nat) (a2 : Int32) (a3 : Int32) : Option SS :=
  vthen (sI σ 33 0 (0 : Int32)) fun σ1 =>
  vthen (flB σ1 43 1600 (0 : Int32)) fun σ2 =>
  X0_find_L16 a1 a2 a3
  fuel (0 : Int32) σ2

set_option maxRecDepth 20000 in
theorem sX0_find_L16 {g : GG} {r : SS} {o1_ : Nat} {u2_ : Int32} {u3_ : Int32}  (hs1_ : shp o1_ = (6, 0))
    (n : Nat) : ∀ (v4_ : Int32) (σ_ : SS), X0_find_L16 o1_ u2_ u3_ n v4_ σ_ = some r → WT σ_ → RR g mX0_find (FinR g mX0_find none NF r) zF 16 [(0, .ref (ad g 33)), (1, .ref (ad g o1_)), (2, .int u2_), (3, .int u3_), (4, .int v4_)] [] σ_ := by
  unfold X0_find_L16
  refine lp_ind (P := fun (rec : Int32 → SS → Option SS) => ∀ (v4_ : Int32) (σ_ : SS), rec v4_ σ_ = some r → WT σ_ → RR g mX0_find (FinR g mX0_find none NF r) zF 16 [(0, .ref (ad g 33)), (1, .ref (ad g o1_)), (2, .int u2_), (3, .int u3_), (4, .int v4_)] [] σ_) ?_ ?_ n
  · intro v4_ σ_ hr; cases hr
  intro rec ih v4_ σ_ hr hw_
  refine r_iload (pc := 16) (j := 4) dX0_find_16 rfl ?_
  refine r_aload_n (pc := 18) (j := 1) dX0_find_18 rfl rfl ?_
  refine kX6_size (pc := 19) (hf := rfl) hs1_ tw_3_214 ⟨nle rfl, nle rfl⟩ (nle rfl) dX0_find_19 ?_
  refine r_icmp_ge (pc := 22) (tgt := 67) dX0_find_22 rfl (fun hc => ?_) (fun hc => ?_)
  · replace hr := ite_t hc hr
    exact l_ov hr (r_vret (pc := 67) rfl rfl ⟨Nat.le_refl _, Nat.le_refl _⟩ dX0_find_67)
  replace hr := ite_f hc hr
  refine r_aload_n (pc := 25) (j := 0) dX0_find_25 rfl rfl ?_
  refine r_aload_n (pc := 26) (j := 1) dX0_find_26 rfl rfl ?_
  refine r_iload_n (pc := 27) (j := 2) dX0_find_27 rfl rfl ?_
  refine r_iload (pc := 28) (j := 4) dX0_find_28 rfl ?_
  obtain ⟨v3, σ6, eσ6, hr⟩ := bnd_inv hr
  refine kX0_gather (pc := 30) eσ6 hs1_ tw_3_218 ⟨nle rfl, nle rfl⟩ (nle rfl) dX0_find_30 fun hσ6 => ?_
  refine r_istore (pc := 33) (ls1 := [(5, .int v3), (0, .ref (ad g 33)), (1, .ref (ad g o1_)), (2, .int u2_), (3, .int u3_), (4, .int v4_)]) dX0_find_33 (nle rfl) rfl ?_
  refine r_iload (pc := 35) (j := 0) dX0_find_35 rfl ?_
  refine r_iload_n (pc := 37) (j := 4) dX0_find_37 rfl rfl ?_
  refine r_icmp_lt (pc := 38) (tgt := 61) dX0_find_38 rfl (fun hc => ?_) (fun hc => ?_)
  · replace hr := ite_t hc hr
    refine r_iinc (pc := 61) (j := 5) (v := (v4_ + (1 : Int32))) (ls1 := [(4, .int (v4_ + (1 : Int32))), (5, .int v3), (0, .ref (ad g 33)), (1, .ref (ad g o1_)), (2, .int u2_), (3, .int u3_)]) dX0_find_61 rfl rfl (nle rfl) rfl ?_
    refine r_goto (pc := 64) (tgt := 16) dX0_find_64 rfl ?_
    exact r_pick (ls1 := [(0, .ref (ad g 33)), (1, .ref (ad g o1_)), (2, .int u2_), (3, .int u3_), (4, .int (v4_ + (1 : Int32)))]) [2, 3, 4, 5, 0] rfl (ih (v4_ + (1 : Int32)) σ6 hr hσ6)
  replace hr := ite_f hc hr
  refine r_aload_n (pc := 41) (j := 1) dX0_find_41 rfl rfl ?_
  refine gf0_0 (pc := 42) tw_1_183 rfl dX0_find_42 ?_
  refine r_sipush (pc := 45) (v := (800 : Int32)) dX0_find_45 rfl ?_
  refine r_icmp_ge (pc := 48) (tgt := 61) dX0_find_48 rfl (fun hc => ?_) (fun hc => ?_)
  · replace hr := ite_t hc hr
    refine r_iinc (pc := 61) (j := 5) (v := (v4_ + (1 : Int32))) (ls1 := [(4, .int (v4_ + (1 : Int32))), (5, .int v3), (0, .ref (ad g 33)), (1, .ref (ad g o1_)), (2, .int u2_), (3, .int u3_)]) dX0_find_61 rfl rfl (nle rfl) rfl ?_
    refine r_goto (pc := 64) (tgt := 16) dX0_find_64 rfl ?_
    exact r_pick (ls1 := [(0, .ref (ad g 33)), (1, .ref (ad g o1_)), (2, .int u2_), (3, .int u3_), (4, .int (v4_ + (1 : Int32)))]) [2, 3, 4, 5, 0] rfl (ih (v4_ + (1 : Int32)) σ6 hr hσ6)
  replace hr := ite_f hc hr
  refine r_aload_n (pc := 51) (j := 1) dX0_find_51 rfl rfl ?_
  refine r_aload_n (pc := 52) (j := 2) dX0_find_52 rfl rfl ?_
  refine gf6_0 (pc := 53) tw_1_34 hs1_ dX0_find_53 ?_
  refine r_iload (pc := 56) (j := 0) dX0_find_56 rfl ?_
  obtain ⟨σ7, eσ7, hr⟩ := bnd1_inv hr
  refine kX0_describe (pc := 58) eσ7 tw_4_18 ⟨nle rfl, nle rfl⟩ (nle rfl) dX0_find_58 fun hσ7 => ?_
  refine r_iinc (pc := 61) (j := 5) (v := (v4_ + (1 : Int32))) (ls1 := [(4, .int (v4_ + (1 : Int32))), (5, .int v3), (0, .ref (ad g 33)), (1, .ref (ad g o1_)), (2, .int u2_), (3, .int u3_)]) dX0_find_61 rfl rfl (nle rfl) rfl ?_
  refine r_goto (pc := 64) (tgt := 16) dX0_find_64 rfl ?_
  exact r_pick (ls1 := [(0, .ref (ad g 33)), (1, .ref (ad g o1_)), (2, .int u2_), (3, .int u3_), (4, .int (v4_ + (1 : Int32)))]) [2, 3, 4, 5, 0] rfl (ih (v4_ + (1 : Int32)) σ7 hr hσ7)

set_option maxRecDepth 20000 in
theorem sX0_find {g : GG} {σ : SS} {a1 : Nat} {a2 : Int32} {a3 : Int32} {r : SS} (hr : fX0_find σ a1 a2 a3 = some r) (hs1 : shp a1 = (6, 0)) : Ct g mX0_find [.ref (ad g 33), .ref (ad g a1), .int a2, .int a3] NF σ none NF r := by
  refine Ct.of (by decide +kernel) (nle rfl) fun hw0 => ?_
  have hw := hw0 rfl
  unfold fX0_find at hr
  change RR g mX0_find (FinR g mX0_find none NF r) zF 0 [(0, .ref (ad g 33)), (1, .ref (ad g a1)), (2, .int a2), (3, .int a3)] [] σ
  refine r_aload_n (pc := 0) (j := 0) dX0_find_0 rfl rfl ?_
  refine r_iconst (pc := 1) (v := (0 : Int32)) dX0_find_1 rfl ?_
  refine pf0_0 (pc := 2) tw_1_183 rfl dX0_find_2 fun σ1 eσ1 => ?_
  replace hr := vthen_inv hr σ1 eσ1
  have hσ1 := wtI eσ1 hw
  refine r_aload_n (pc := 5) (j := 0) dX0_find_5 rfl rfl ?_
  refine gf0_10 (pc := 6) tw_1_205 hσ1 dX0_find_6 ?_
  refine r_iconst (pc := 9) (v := (0 : Int32)) dX0_find_9 rfl ?_
  refine x_flB (pc := 10) (σ := σ1) (c0 := 43) (n := 1600) (v := (0 : Int32)) rfl tw_3_211 ⟨nle rfl, nle rfl⟩ (nle rfl) dX0_find_10 fun σ2 eσ2 => ?_
  replace hr := vthen_inv hr σ2 eσ2
  have hσ2 := wtFB eσ2 hσ1
  refine r_iconst (pc := 13) (v := (0 : Int32)) dX0_find_13 rfl ?_
  refine r_istore (pc := 14) (ls1 := [(4, .int (0 : Int32)), (0, .ref (ad g 33)), (1, .ref (ad g a1)), (2, .int a2), (3, .int a3)]) dX0_find_14 (nle rfl) rfl ?_
  refine r_pick (ls1 := [(0, .ref (ad g 33)), (1, .ref (ad g a1)), (2, .int a2), (3, .int a3), (4, .int (0 : Int32))]) [1, 2, 3, 4, 0] rfl ?_
  refine sX0_find_L16 hs1    fuel (0 : Int32) σ2 hr hσ2

theorem kX0_find {g : GG} {σ : SS} {a1 : Nat} {a2 : Int32} {a3 : Int32} {σ2 : SS} {M : MM} {F : State → Array Value → List Frame → State → Prop} {pc index : Nat} {ls : List (Nat × Value)} {rest : List Value} (hf : fX0_find σ a1 a2 a3 = some σ2) (hs1 : shp a1 = (6, 0)) (hl : Cond.methodLink M.1.cls index yX0_find ∈ lw_gt) (hR : mX0_find.2.2.2.2.frames + 1 ≤ M.2.2.2.2.frames ∧ 8 + (mX0_find.2.2.1 + 11) + mX0_find.2.2.2.2.locals ≤ M.2.2.2.2.locals) (hrest : (rest.map fun v => v.category).sum ≤ 8) (hd : decode M.2.1 pc = .ok (.invokevirtual index, 3)) (k : WT σ2 → RR g M F zF (pc + 3) ls rest σ2) : RR g M F zF pc ls (.int a3 :: .int a2 :: .ref (ad g a1) :: .ref (ad g 33) :: rest) σ :=
  r_callV (z := zF) (N := mX0_find) (nn := 3) (o1 := none) (sX0_find hf hs1) (rfl : shp 33 = (0, 0)) (by decide) (shp_le (rfl : shp 33 = (0, 0)) (nle rfl)) (ci := 0) rfl rfl tw_4_17 tw_1_6 hl tw_4_15 tw_4_16 ⟨by decide, by decide, rfl⟩ hR rfl hrest hd ⟨Nat.zero_le _, Nat.zero_le _⟩ rfl (fun h => k (h rfl))

theorem dX7_blob_0 : decode cX7_blob 0 = .ok (.aload_n 0, 1) := by decide +kernel
theorem dX7_blob_1 : decode cX7_blob 1 = .ok (.getfield 62, 3) := by decide +kernel
theorem dX7_blob_4 : decode cX7_blob 4 = .ok (.getfield 205, 3) := by decide +kernel
theorem dX7_blob_7 : decode cX7_blob 7 = .ok (.astore_n 3, 1) := by decide +kernel
theorem dX7_blob_8 : decode cX7_blob 8 = .ok (.aload_n 3, 1) := by decide +kernel
theorem dX7_blob_9 : decode cX7_blob 9 = .ok (.aload_n 0, 1) := by decide +kernel
theorem dX7_blob_10 : decode cX7_blob 10 = .ok (.getfield 18, 3) := by decide +kernel
theorem dX7_blob_13 : decode cX7_blob 13 = .ok (.aload_n 0, 1) := by decide +kernel
theorem dX7_blob_14 : decode cX7_blob 14 = .ok (.getfield 62, 3) := by decide +kernel
theorem dX7_blob_17 : decode cX7_blob 17 = .ok (.getfield 111, 3) := by decide +kernel
theorem dX7_blob_20 : decode cX7_blob 20 = .ok (.iconst 0, 1) := by decide +kernel
theorem dX7_blob_21 : decode cX7_blob 21 = .ok (.iaload, 1) := by decide +kernel
theorem dX7_blob_22 : decode cX7_blob 22 = .ok (.aload_n 0, 1) := by decide +kernel
theorem dX7_blob_23 : decode cX7_blob 23 = .ok (.getfield 62, 3) := by decide +kernel
theorem dX7_blob_26 : decode cX7_blob 26 = .ok (.getfield 111, 3) := by decide +kernel
theorem dX7_blob_29 : decode cX7_blob 29 = .ok (.iconst 1, 1) := by decide +kernel
theorem dX7_blob_30 : decode cX7_blob 30 = .ok (.iaload, 1) := by decide +kernel
theorem dX7_blob_31 : decode cX7_blob 31 = .ok (.invokevirtual 222, 3) := by decide +kernel
theorem dX7_blob_34 : decode cX7_blob 34 = .ok (.iload_n 1, 1) := by decide +kernel
theorem dX7_blob_35 : decode cX7_blob 35 = .ok (.iconst (-1), 1) := by decide +kernel
theorem dX7_blob_36 : decode cX7_blob 36 = .ok (.if_icmp .ne 12, 3) := by decide +kernel
theorem dX7_blob_39 : decode cX7_blob 39 = .ok (.iload_n 2, 1) := by decide +kernel
theorem dX7_blob_40 : decode cX7_blob 40 = .ok (.ifCond .ne 8, 3) := by decide +kernel
theorem dX7_blob_43 : decode cX7_blob 43 = .ok (.aload_n 3, 1) := by decide +kernel
theorem dX7_blob_44 : decode cX7_blob 44 = .ok (.getfield 225, 3) := by decide +kernel
theorem dX7_blob_47 : decode cX7_blob 47 = .ok (.ireturn, 1) := by decide +kernel
theorem dX7_blob_48 : decode cX7_blob 48 = .ok (.iload_n 1, 1) := by decide +kernel
theorem dX7_blob_49 : decode cX7_blob 49 = .ok (.ifCond .lt 11, 3) := by decide +kernel
theorem dX7_blob_52 : decode cX7_blob 52 = .ok (.iload_n 1, 1) := by decide +kernel
theorem dX7_blob_53 : decode cX7_blob 53 = .ok (.aload_n 3, 1) := by decide +kernel
theorem dX7_blob_54 : decode cX7_blob 54 = .ok (.getfield 225, 3) := by decide +kernel
theorem dX7_blob_57 : decode cX7_blob 57 = .ok (.if_icmp .lt 5, 3) := by decide +kernel
theorem dX7_blob_60 : decode cX7_blob 60 = .ok (.iconst (-1), 1) := by decide +kernel
theorem dX7_blob_61 : decode cX7_blob 61 = .ok (.ireturn, 1) := by decide +kernel
theorem dX7_blob_62 : decode cX7_blob 62 = .ok (.iload_n 2, 1) := by decide +kernel
theorem dX7_blob_63 : decode cX7_blob 63 = .ok (.tableswitch 108 0 6 #[41, 48, 55, 62, 69, 76, 92], 41) := by decide +kernel
theorem dX7_blob_104 : decode cX7_blob 104 = .ok (.aload_n 3, 1) := by decide +kernel
theorem dX7_blob_105 : decode cX7_blob 105 = .ok (.getfield 228, 3) := by decide +kernel
theorem dX7_blob_108 : decode cX7_blob 108 = .ok (.iload_n 1, 1) := by decide +kernel
theorem dX7_blob_109 : decode cX7_blob 109 = .ok (.iaload, 1) := by decide +kernel
theorem dX7_blob_110 : decode cX7_blob 110 = .ok (.ireturn, 1) := by decide +kernel
theorem dX7_blob_111 : decode cX7_blob 111 = .ok (.aload_n 3, 1) := by decide +kernel
theorem dX7_blob_112 : decode cX7_blob 112 = .ok (.getfield 231, 3) := by decide +kernel
theorem dX7_blob_115 : decode cX7_blob 115 = .ok (.iload_n 1, 1) := by decide +kernel
theorem dX7_blob_116 : decode cX7_blob 116 = .ok (.iaload, 1) := by decide +kernel
theorem dX7_blob_117 : decode cX7_blob 117 = .ok (.ireturn, 1) := by decide +kernel
theorem dX7_blob_118 : decode cX7_blob 118 = .ok (.aload_n 3, 1) := by decide +kernel
theorem dX7_blob_119 : decode cX7_blob 119 = .ok (.getfield 234, 3) := by decide +kernel
theorem dX7_blob_122 : decode cX7_blob 122 = .ok (.iload_n 1, 1) := by decide +kernel
theorem dX7_blob_123 : decode cX7_blob 123 = .ok (.iaload, 1) := by decide +kernel
theorem dX7_blob_124 : decode cX7_blob 124 = .ok (.ireturn, 1) := by decide +kernel
theorem dX7_blob_125 : decode cX7_blob 125 = .ok (.aload_n 3, 1) := by decide +kernel
theorem dX7_blob_126 : decode cX7_blob 126 = .ok (.getfield 237, 3) := by decide +kernel
theorem dX7_blob_129 : decode cX7_blob 129 = .ok (.iload_n 1, 1) := by decide +kernel
theorem dX7_blob_130 : decode cX7_blob 130 = .ok (.iaload, 1) := by decide +kernel
theorem dX7_blob_131 : decode cX7_blob 131 = .ok (.ireturn, 1) := by decide +kernel
theorem dX7_blob_132 : decode cX7_blob 132 = .ok (.aload_n 3, 1) := by decide +kernel
theorem dX7_blob_133 : decode cX7_blob 133 = .ok (.getfield 240, 3) := by decide +kernel
theorem dX7_blob_136 : decode cX7_blob 136 = .ok (.iload_n 1, 1) := by decide +kernel
theorem dX7_blob_137 : decode cX7_blob 137 = .ok (.iaload, 1) := by decide +kernel
theorem dX7_blob_138 : decode cX7_blob 138 = .ok (.ireturn, 1) := by decide +kernel
theorem dX7_blob_139 : decode cX7_blob 139 = .ok (.aload_n 3, 1) := by decide +kernel
theorem dX7_blob_140 : decode cX7_blob 140 = .ok (.getfield 243, 3) := by decide +kernel
theorem dX7_blob_143 : decode cX7_blob 143 = .ok (.iload_n 1, 1) := by decide +kernel
theorem dX7_blob_144 : decode cX7_blob 144 = .ok (.iaload, 1) := by decide +kernel
theorem dX7_blob_145 : decode cX7_blob 145 = .ok (.aload_n 3, 1) := by decide +kernel
theorem dX7_blob_146 : decode cX7_blob 146 = .ok (.getfield 246, 3) := by decide +kernel
theorem dX7_blob_149 : decode cX7_blob 149 = .ok (.iload_n 1, 1) := by decide +kernel
theorem dX7_blob_150 : decode cX7_blob 150 = .ok (.iaload, 1) := by decide +kernel
theorem dX7_blob_151 : decode cX7_blob 151 = .ok (.isub, 1) := by decide +kernel
theorem dX7_blob_152 : decode cX7_blob 152 = .ok (.iconst 1, 1) := by decide +kernel
theorem dX7_blob_153 : decode cX7_blob 153 = .ok (.iadd, 1) := by decide +kernel
theorem dX7_blob_154 : decode cX7_blob 154 = .ok (.ireturn, 1) := by decide +kernel
theorem dX7_blob_155 : decode cX7_blob 155 = .ok (.aload_n 3, 1) := by decide +kernel
theorem dX7_blob_156 : decode cX7_blob 156 = .ok (.getfield 249, 3) := by decide +kernel
theorem dX7_blob_159 : decode cX7_blob 159 = .ok (.iload_n 1, 1) := by decide +kernel
theorem dX7_blob_160 : decode cX7_blob 160 = .ok (.iaload, 1) := by decide +kernel
theorem dX7_blob_161 : decode cX7_blob 161 = .ok (.aload_n 3, 1) := by decide +kernel
theorem dX7_blob_162 : decode cX7_blob 162 = .ok (.getfield 240, 3) := by decide +kernel
theorem dX7_blob_165 : decode cX7_blob 165 = .ok (.iload_n 1, 1) := by decide +kernel
theorem dX7_blob_166 : decode cX7_blob 166 = .ok (.iaload, 1) := by decide +kernel
theorem dX7_blob_167 : decode cX7_blob 167 = .ok (.isub, 1) := by decide +kernel
theorem dX7_blob_168 : decode cX7_blob 168 = .ok (.iconst 1, 1) := by decide +kernel
theorem dX7_blob_169 : decode cX7_blob 169 = .ok (.iadd, 1) := by decide +kernel
theorem dX7_blob_170 : decode cX7_blob 170 = .ok (.ireturn, 1) := by decide +kernel
theorem dX7_blob_171 : decode cX7_blob 171 = .ok (.iconst (-1), 1) := by decide +kernel
theorem dX7_blob_172 : decode cX7_blob 172 = .ok (.ireturn, 1) := by decide +kernel
def mX7_blob : MM := (yX7_blob, cX7_blob, 4, Option.some Jvm.ClassFile.FieldType.int, { frames := 3, cells := 0, slots := 0, locals := 78 })
def fX7_blob (σ : SS) (a1 : Int32) (a2 : Int32) : Option (Int32 × SS) :=
  bnd1 (fX0_find σ (gR σ 1 2) (gI σ 32 0) (gI σ 32 1)) fun σ1 =>
  vthen (fun (_u : Unit) =>
    if a1 < 0 then (
      some ((-1 : Int32), σ1)
      ) else (
      if a1 < (gI σ1 33 0) then (
        if a2 = (0 : Int32) then (
          grd (inb a1 800) <|
          some ((gI σ1 34 (Int32.toNatClampNeg a1)), σ1)
          ) else
        if a2 = (1 : Int32) then (
          grd (inb a1 800) <|
          some ((gI σ1 35 (Int32.toNatClampNeg a1)), σ1)
          ) else
        if a2 = (2 : Int32) then (
          grd (inb a1 800) <|
          some ((gI σ1 36 (Int32.toNatClampNeg a1)), σ1)
          ) else
        if a2 = (3 : Int32) then (
          grd (inb a1 800) <|
          some ((gI σ1 37 (Int32.toNatClampNeg a1)), σ1)
          ) else
        if a2 = (4 : Int32) then (
          grd (inb a1 800) <|
          some ((gI σ1 38 (Int32.toNatClampNeg a1)), σ1)
          ) else
        if a2 = (5 : Int32) then (
          grd (inb a1 800) <|
          some ((((gI σ1 40 (Int32.toNatClampNeg a1)) - (gI σ1 39 (Int32.toNatClampNeg a1))) + (1 : Int32)), σ1)
          ) else
        if a2 = (6 : Int32) then (
          grd (inb a1 800) <|
          some ((((gI σ1 41 (Int32.toNatClampNeg a1)) - (gI σ1 38 (Int32.toNatClampNeg a1))) + (1 : Int32)), σ1)
          ) else
        some ((-1 : Int32), σ1)
        ) else (
        some ((-1 : Int32), σ1)
        )
      )
    ) fun j48 =>
  if a1 = (-1 : Int32) then (
    if a2 = 0 then (
      some ((gI σ1 33 0), σ1)
      ) else (
      j48 ()
      )
    ) else (
    j48 ()
    )

set_option maxRecDepth 20000 in
theorem sX7_blob {g : GG} {σ : SS} {a1 : Int32} {a2 : Int32} {r : Int32 × SS} (hr : fX7_blob σ a1 a2 = some r)  : Ct g mX7_blob [.ref (ad g 1), .int a1, .int a2] NF σ (some (.int r.1)) NF r.2 := by
  refine Ct.of (by decide +kernel) (nle rfl) fun hw0 => ?_
  have hw := hw0 rfl
  unfold fX7_blob at hr
  change RR g mX7_blob (FinR g mX7_blob (some (.int r.1)) NF r.2) zF 0 [(0, .ref (ad g 1)), (1, .int a1), (2, .int a2)] [] σ
  refine r_aload_n (pc := 0) (j := 0) dX7_blob_0 rfl rfl ?_
  refine gf7_12 (pc := 1) tw_2_121 hw dX7_blob_1 ?_
  refine gf3_1 (pc := 4) tw_2_25 hw dX7_blob_4 ?_
  refine r_astore_n (pc := 7) (ls1 := [(3, .ref (ad g 33)), (0, .ref (ad g 1)), (1, .int a1), (2, .int a2)]) dX7_blob_7 rfl (nle rfl) rfl ?_
  refine r_aload_n (pc := 8) (j := 0) dX7_blob_8 rfl rfl ?_
  refine r_aload_n (pc := 9) (j := 1) dX7_blob_9 rfl rfl ?_
  refine gf7_2 (pc := 10) tw_2_111 hw dX7_blob_10 ?_
  refine r_aload_n (pc := 13) (j := 1) dX7_blob_13 rfl rfl ?_
  refine gf7_12 (pc := 14) tw_2_121 hw dX7_blob_14 ?_
  refine gf3_0 (pc := 17) tw_2_23 hw dX7_blob_17 ?_
  refine r_iconst (pc := 20) (v := (0 : Int32)) dX7_blob_20 rfl ?_
  refine x_iald (pc := 21) (k := 0) rfl (by decide) rfl dX7_blob_21 ?_
  refine r_aload_n (pc := 22) (j := 1) dX7_blob_22 rfl rfl ?_
  refine gf7_12 (pc := 23) tw_2_121 hw dX7_blob_23 ?_
  refine gf3_0 (pc := 26) tw_2_23 hw dX7_blob_26 ?_
  refine r_iconst (pc := 29) (v := (1 : Int32)) dX7_blob_29 rfl ?_
  refine x_iald (pc := 30) (k := 1) rfl (by decide) rfl dX7_blob_30 ?_
  obtain ⟨σ1, eσ1, hr⟩ := bnd1_inv hr
  refine kX0_find (pc := 31) eσ1 (wt_sc hw).1 tw_4_14 ⟨nle rfl, nle rfl⟩ (nle rfl) dX7_blob_31 fun hσ1 => ?_
  refine r_iload_n (pc := 34) (j := 2) dX7_blob_34 rfl rfl ?_
  refine r_iconst (pc := 35) (v := (-1 : Int32)) dX7_blob_35 rfl ?_
  obtain ⟨j48, ej48, hr⟩ := vth_ex hr
  have hj48 : j48 () = some r → RR g mX7_blob (FinR g mX7_blob (some (.int r.1)) NF r.2) zF 48 [(1, .int a1), (2, .int a2), (3, .ref (ad g 33))] [] σ1 := by
    intro  hr
    replace hr := (congrFun ej48 ()).symm.trans hr
    refine r_iload_n (pc := 48) (j := 0) dX7_blob_48 rfl rfl ?_
    refine r_if_lt (pc := 49) (tgt := 60) dX7_blob_49 rfl (fun hc => ?_) (fun hc => ?_)
    · replace hr := ite_t hc hr
      refine r_iconst (pc := 60) (v := (-1 : Int32)) dX7_blob_60 rfl ?_
      exact l_osi hr (r_iret (pc := 61) (v := (-1 : Int32)) rfl rfl ⟨Nat.le_refl _, Nat.le_refl _⟩ dX7_blob_61)
    replace hr := ite_f hc hr
    refine r_iload_n (pc := 52) (j := 0) dX7_blob_52 rfl rfl ?_
    refine r_aload_n (pc := 53) (j := 2) dX7_blob_53 rfl rfl ?_
    refine gf0_0 (pc := 54) tw_1_184 rfl dX7_blob_54 ?_
    refine r_icmp_lt (pc := 57) (tgt := 62) dX7_blob_57 rfl (fun hc => ?_) (fun hc => ?_)
    · replace hr := ite_t hc hr
      refine r_iload_n (pc := 62) (j := 1) dX7_blob_62 rfl rfl ?_
      by_cases hc0 : a2 = (0 : Int32)
      · replace hr := ite_t hc0 hr
        refine r_tabIn (pc := 63) (off := 41) (tgt := 104) dX7_blob_63 (by rw [hc0]; decide) (by rw [hc0]; decide) (by rw [hc0]; rfl) rfl ?_
        refine r_aload_n (pc := 104) (j := 2) dX7_blob_104 rfl rfl ?_
        refine gf0_1 (pc := 105) tw_1_187 hσ1 dX7_blob_105 ?_
        refine r_iload_n (pc := 108) (j := 0) dX7_blob_108 rfl rfl ?_
        obtain ⟨h2, hr⟩ := grd_inv hr
        refine x_iald (pc := 109) (k := (Int32.toNatClampNeg a1)) rfl h2 rfl dX7_blob_109 ?_
        exact l_osi hr (r_iret (pc := 110) (v := (gI σ1 34 (Int32.toNatClampNeg a1))) rfl rfl ⟨Nat.le_refl _, Nat.le_refl _⟩ dX7_blob_110)
      replace hr := ite_f hc0 hr
      by_cases hc1 : a2 = (1 : Int32)
      · replace hr := ite_t hc1 hr
        refine r_tabIn (pc := 63) (off := 48) (tgt := 111) dX7_blob_63 (by rw [hc1]; decide) (by rw [hc1]; decide) (by rw [hc1]; rfl) rfl ?_
        refine r_aload_n (pc := 111) (j := 2) dX7_blob_111 rfl rfl ?_
        refine gf0_2 (pc := 112) tw_1_190 hσ1 dX7_blob_112 ?_
        refine r_iload_n (pc := 115) (j := 0) dX7_blob_115 rfl rfl ?_
        obtain ⟨h3, hr⟩ := grd_inv hr
        refine x_iald (pc := 116) (k := (Int32.toNatClampNeg a1)) rfl h3 rfl dX7_blob_116 ?_
        exact l_osi hr (r_iret (pc := 117) (v := (gI σ1 35 (Int32.toNatClampNeg a1))) rfl rfl ⟨Nat.le_refl _, Nat.le_refl _⟩ dX7_blob_117)
      replace hr := ite_f hc1 hr
      by_cases hc2 : a2 = (2 : Int32)
      · replace hr := ite_t hc2 hr
        refine r_tabIn (pc := 63) (off := 55) (tgt := 118) dX7_blob_63 (by rw [hc2]; decide) (by rw [hc2]; decide) (by rw [hc2]; rfl) rfl ?_
        refine r_aload_n (pc := 118) (j := 2) dX7_blob_118 rfl rfl ?_
        refine gf0_3 (pc := 119) tw_1_193 hσ1 dX7_blob_119 ?_
        refine r_iload_n (pc := 122) (j := 0) dX7_blob_122 rfl rfl ?_
        obtain ⟨h4, hr⟩ := grd_inv hr
        refine x_iald (pc := 123) (k := (Int32.toNatClampNeg a1)) rfl h4 rfl dX7_blob_123 ?_
        exact l_osi hr (r_iret (pc := 124) (v := (gI σ1 36 (Int32.toNatClampNeg a1))) rfl rfl ⟨Nat.le_refl _, Nat.le_refl _⟩ dX7_blob_124)
      replace hr := ite_f hc2 hr
      by_cases hc3 : a2 = (3 : Int32)
      · replace hr := ite_t hc3 hr
        refine r_tabIn (pc := 63) (off := 62) (tgt := 125) dX7_blob_63 (by rw [hc3]; decide) (by rw [hc3]; decide) (by rw [hc3]; rfl) rfl ?_
        refine r_aload_n (pc := 125) (j := 2) dX7_blob_125 rfl rfl ?_
        refine gf0_4 (pc := 126) tw_1_195 hσ1 dX7_blob_126 ?_
        refine r_iload_n (pc := 129) (j := 0) dX7_blob_129 rfl rfl ?_
        obtain ⟨h5, hr⟩ := grd_inv hr
        refine x_iald (pc := 130) (k := (Int32.toNatClampNeg a1)) rfl h5 rfl dX7_blob_130 ?_
        exact l_osi hr (r_iret (pc := 131) (v := (gI σ1 37 (Int32.toNatClampNeg a1))) rfl rfl ⟨Nat.le_refl _, Nat.le_refl _⟩ dX7_blob_131)
      replace hr := ite_f hc3 hr
      by_cases hc4 : a2 = (4 : Int32)
      · replace hr := ite_t hc4 hr
        refine r_tabIn (pc := 63) (off := 69) (tgt := 132) dX7_blob_63 (by rw [hc4]; decide) (by rw [hc4]; decide) (by rw [hc4]; rfl) rfl ?_
        refine r_aload_n (pc := 132) (j := 2) dX7_blob_132 rfl rfl ?_
        refine gf0_5 (pc := 133) tw_1_197 hσ1 dX7_blob_133 ?_
        refine r_iload_n (pc := 136) (j := 0) dX7_blob_136 rfl rfl ?_
        obtain ⟨h6, hr⟩ := grd_inv hr
        refine x_iald (pc := 137) (k := (Int32.toNatClampNeg a1)) rfl h6 rfl dX7_blob_137 ?_
        exact l_osi hr (r_iret (pc := 138) (v := (gI σ1 38 (Int32.toNatClampNeg a1))) rfl rfl ⟨Nat.le_refl _, Nat.le_refl _⟩ dX7_blob_138)
      replace hr := ite_f hc4 hr
      by_cases hc5 : a2 = (5 : Int32)
      · replace hr := ite_t hc5 hr
        refine r_tabIn (pc := 63) (off := 76) (tgt := 139) dX7_blob_63 (by rw [hc5]; decide) (by rw [hc5]; decide) (by rw [hc5]; rfl) rfl ?_
        refine r_aload_n (pc := 139) (j := 2) dX7_blob_139 rfl rfl ?_
        refine gf0_7 (pc := 140) tw_1_201 hσ1 dX7_blob_140 ?_
        refine r_iload_n (pc := 143) (j := 0) dX7_blob_143 rfl rfl ?_
        obtain ⟨h7, hr⟩ := grd_inv hr
        refine x_iald (pc := 144) (k := (Int32.toNatClampNeg a1)) rfl h7 rfl dX7_blob_144 ?_
        refine r_aload_n (pc := 145) (j := 2) dX7_blob_145 rfl rfl ?_
        refine gf0_6 (pc := 146) tw_1_199 hσ1 dX7_blob_146 ?_
        refine r_iload_n (pc := 149) (j := 0) dX7_blob_149 rfl rfl ?_
        refine x_iald (pc := 150) (k := (Int32.toNatClampNeg a1)) rfl h7 rfl dX7_blob_150 ?_
        refine r_isub (pc := 151) dX7_blob_151 ?_
        refine r_iconst (pc := 152) (v := (1 : Int32)) dX7_blob_152 rfl ?_
        refine r_iadd (pc := 153) dX7_blob_153 ?_
        exact l_osi hr (r_iret (pc := 154) (v := (((gI σ1 40 (Int32.toNatClampNeg a1)) - (gI σ1 39 (Int32.toNatClampNeg a1))) + (1 : Int32))) rfl rfl ⟨Nat.le_refl _, Nat.le_refl _⟩ dX7_blob_154)
      replace hr := ite_f hc5 hr
      by_cases hc6 : a2 = (6 : Int32)
      · replace hr := ite_t hc6 hr
        refine r_tabIn (pc := 63) (off := 92) (tgt := 155) dX7_blob_63 (by rw [hc6]; decide) (by rw [hc6]; decide) (by rw [hc6]; rfl) rfl ?_
        refine r_aload_n (pc := 155) (j := 2) dX7_blob_155 rfl rfl ?_
        refine gf0_8 (pc := 156) tw_1_203 hσ1 dX7_blob_156 ?_
        refine r_iload_n (pc := 159) (j := 0) dX7_blob_159 rfl rfl ?_
        obtain ⟨h8, hr⟩ := grd_inv hr
        refine x_iald (pc := 160) (k := (Int32.toNatClampNeg a1)) rfl h8 rfl dX7_blob_160 ?_
        refine r_aload_n (pc := 161) (j := 2) dX7_blob_161 rfl rfl ?_
        refine gf0_5 (pc := 162) tw_1_197 hσ1 dX7_blob_162 ?_
        refine r_iload_n (pc := 165) (j := 0) dX7_blob_165 rfl rfl ?_
        refine x_iald (pc := 166) (k := (Int32.toNatClampNeg a1)) rfl h8 rfl dX7_blob_166 ?_
        refine r_isub (pc := 167) dX7_blob_167 ?_
        refine r_iconst (pc := 168) (v := (1 : Int32)) dX7_blob_168 rfl ?_
        refine r_iadd (pc := 169) dX7_blob_169 ?_
        exact l_osi hr (r_iret (pc := 170) (v := (((gI σ1 41 (Int32.toNatClampNeg a1)) - (gI σ1 38 (Int32.toNatClampNeg a1))) + (1 : Int32))) rfl rfl ⟨Nat.le_refl _, Nat.le_refl _⟩ dX7_blob_170)
      replace hr := ite_f hc6 hr
      refine r_tabOut (pc := 63) (tgt := 171) dX7_blob_63 (tab_out (by decide) (by decide) fun k h1 h2 => ?_) rfl ?_
      · rcases (show k = 0 ∨ k = 1 ∨ k = 2 ∨ k = 3 ∨ k = 4 ∨ k = 5 ∨ k = 6 by omega) with rfl | rfl | rfl | rfl | rfl | rfl | rfl
        · exact hc0
        · exact hc1
        · exact hc2
        · exact hc3
        · exact hc4
        · exact hc5
        · exact hc6
      refine r_iconst (pc := 171) (v := (-1 : Int32)) dX7_blob_171 rfl ?_
      exact l_osi hr (r_iret (pc := 172) (v := (-1 : Int32)) rfl rfl ⟨Nat.le_refl _, Nat.le_refl _⟩ dX7_blob_172)
    replace hr := ite_f hc hr
    refine r_iconst (pc := 60) (v := (-1 : Int32)) dX7_blob_60 rfl ?_
    exact l_osi hr (r_iret (pc := 61) (v := (-1 : Int32)) rfl rfl ⟨Nat.le_refl _, Nat.le_refl _⟩ dX7_blob_61)
  refine r_icmp_ne (pc := 36) (tgt := 48) dX7_blob_36 rfl (fun hc => ?_) (fun hc => ?_)
  · replace hr := ite_f hc hr
    exact r_pick (ls1 := [(1, .int a1), (2, .int a2), (3, .ref (ad g 33))]) [2, 3, 0] rfl (hj48  hr)
  replace hr := ite_t hc hr
  refine r_iload_n (pc := 39) (j := 3) dX7_blob_39 rfl rfl ?_
  refine r_if_ne (pc := 40) (tgt := 48) dX7_blob_40 rfl (fun hc => ?_) (fun hc => ?_)
  · replace hr := ite_f hc hr
    exact r_pick (ls1 := [(1, .int a1), (2, .int a2), (3, .ref (ad g 33))]) [2, 3, 0] rfl (hj48  hr)
  replace hr := ite_t hc hr
  refine r_aload_n (pc := 43) (j := 0) dX7_blob_43 rfl rfl ?_
  refine gf0_0 (pc := 44) tw_1_184 rfl dX7_blob_44 ?_
  exact l_osi hr (r_iret (pc := 47) (v := (gI σ1 33 0)) rfl rfl ⟨Nat.le_refl _, Nat.le_refl _⟩ dX7_blob_47)

theorem kX7_blob {g : GG} {σ : SS} {a1 : Int32} {a2 : Int32} {v : Int32} {σ2 : SS} {M : MM} {F : State → Array Value → List Frame → State → Prop} {pc index : Nat} {ls : List (Nat × Value)} {rest : List Value} (hf : fX7_blob σ a1 a2 = some (v, σ2))  (hl : Cond.methodLink M.1.cls index yX7_blob ∈ lw_gt) (hR : mX7_blob.2.2.2.2.frames + 1 ≤ M.2.2.2.2.frames ∧ 8 + (mX7_blob.2.2.1 + 11) + mX7_blob.2.2.2.2.locals ≤ M.2.2.2.2.locals) (hrest : (rest.map fun v => v.category).sum ≤ 8) (hd : decode M.2.1 pc = .ok (.invokevirtual index, 3)) (k : WT σ2 → RR g M F zF (pc + 3) ls (.int v :: rest) σ2) : RR g M F zF pc ls (.int a2 :: .int a1 :: .ref (ad g 1) :: rest) σ :=
  r_callV (z := zF) (N := mX7_blob) (nn := 2) (o1 := some (.int v)) (sX7_blob hf ) (rfl : shp 1 = (7, 0)) (by decide) (shp_le (rfl : shp 1 = (7, 0)) (nle rfl)) (ci := 7) rfl rfl tw_4_13 tw_1_1 hl tw_4_11 tw_4_12 ⟨by decide, by decide, rfl⟩ hR rfl hrest hd ⟨Nat.zero_le _, Nat.zero_le _⟩ rfl (fun h => k (h rfl))

theorem dX8_blob_0 : decode cX8_blob 0 = .ok (.iload_n 1, 1) := by decide +kernel
theorem dX8_blob_1 : decode cX8_blob 1 = .ok (.iconst (-1), 1) := by decide +kernel
theorem dX8_blob_2 : decode cX8_blob 2 = .ok (.if_icmp .ge 5, 3) := by decide +kernel
theorem dX8_blob_5 : decode cX8_blob 5 = .ok (.iconst (-1), 1) := by decide +kernel
theorem dX8_blob_6 : decode cX8_blob 6 = .ok (.ireturn, 1) := by decide +kernel
theorem dX8_blob_7 : decode cX8_blob 7 = .ok (.aload_n 0, 1) := by decide +kernel
theorem dX8_blob_8 : decode cX8_blob 8 = .ok (.invokevirtual 298, 3) := by decide +kernel
theorem dX8_blob_11 : decode cX8_blob 11 = .ok (.iload_n 1, 1) := by decide +kernel
theorem dX8_blob_12 : decode cX8_blob 12 = .ok (.iconst (-1), 1) := by decide +kernel
theorem dX8_blob_13 : decode cX8_blob 13 = .ok (.if_icmp .ne 16, 3) := by decide +kernel
theorem dX8_blob_16 : decode cX8_blob 16 = .ok (.iload_n 2, 1) := by decide +kernel
theorem dX8_blob_17 : decode cX8_blob 17 = .ok (.ifCond .ne 10, 3) := by decide +kernel
theorem dX8_blob_20 : decode cX8_blob 20 = .ok (.aload_n 0, 1) := by decide +kernel
theorem dX8_blob_21 : decode cX8_blob 21 = .ok (.getfield 313, 3) := by decide +kernel
theorem dX8_blob_24 : decode cX8_blob 24 = .ok (.goto 4, 3) := by decide +kernel
theorem dX8_blob_27 : decode cX8_blob 27 = .ok (.iconst (-1), 1) := by decide +kernel
theorem dX8_blob_28 : decode cX8_blob 28 = .ok (.ireturn, 1) := by decide +kernel
theorem dX8_blob_29 : decode cX8_blob 29 = .ok (.iload_n 1, 1) := by decide +kernel
theorem dX8_blob_30 : decode cX8_blob 30 = .ok (.aload_n 0, 1) := by decide +kernel
theorem dX8_blob_31 : decode cX8_blob 31 = .ok (.getfield 313, 3) := by decide +kernel
theorem dX8_blob_34 : decode cX8_blob 34 = .ok (.if_icmp .lt 5, 3) := by decide +kernel
theorem dX8_blob_37 : decode cX8_blob 37 = .ok (.iconst (-1), 1) := by decide +kernel
theorem dX8_blob_38 : decode cX8_blob 38 = .ok (.ireturn, 1) := by decide +kernel
theorem dX8_blob_39 : decode cX8_blob 39 = .ok (.iload_n 2, 1) := by decide +kernel
theorem dX8_blob_40 : decode cX8_blob 40 = .ok (.tableswitch 121 0 6 #[44, 51, 58, 65, 77, 89, 105], 44) := by decide +kernel
theorem dX8_blob_84 : decode cX8_blob 84 = .ok (.aload_n 0, 1) := by decide +kernel
theorem dX8_blob_85 : decode cX8_blob 85 = .ok (.getfield 71, 3) := by decide +kernel
theorem dX8_blob_88 : decode cX8_blob 88 = .ok (.iload_n 1, 1) := by decide +kernel
theorem dX8_blob_89 : decode cX8_blob 89 = .ok (.iaload, 1) := by decide +kernel
theorem dX8_blob_90 : decode cX8_blob 90 = .ok (.ireturn, 1) := by decide +kernel
theorem dX8_blob_91 : decode cX8_blob 91 = .ok (.aload_n 0, 1) := by decide +kernel
theorem dX8_blob_92 : decode cX8_blob 92 = .ok (.getfield 74, 3) := by decide +kernel
theorem dX8_blob_95 : decode cX8_blob 95 = .ok (.iload_n 1, 1) := by decide +kernel
theorem dX8_blob_96 : decode cX8_blob 96 = .ok (.iaload, 1) := by decide +kernel
theorem dX8_blob_97 : decode cX8_blob 97 = .ok (.ireturn, 1) := by decide +kernel
theorem dX8_blob_98 : decode cX8_blob 98 = .ok (.aload_n 0, 1) := by decide +kernel
theorem dX8_blob_99 : decode cX8_blob 99 = .ok (.getfield 77, 3) := by decide +kernel
theorem dX8_blob_102 : decode cX8_blob 102 = .ok (.iload_n 1, 1) := by decide +kernel
theorem dX8_blob_103 : decode cX8_blob 103 = .ok (.iaload, 1) := by decide +kernel
theorem dX8_blob_104 : decode cX8_blob 104 = .ok (.ireturn, 1) := by decide +kernel
theorem dX8_blob_105 : decode cX8_blob 105 = .ok (.aload_n 0, 1) := by decide +kernel
theorem dX8_blob_106 : decode cX8_blob 106 = .ok (.getfield 80, 3) := by decide +kernel
theorem dX8_blob_109 : decode cX8_blob 109 = .ok (.iload_n 1, 1) := by decide +kernel
theorem dX8_blob_110 : decode cX8_blob 110 = .ok (.iaload, 1) := by decide +kernel
theorem dX8_blob_111 : decode cX8_blob 111 = .ok (.aload_n 0, 1) := by decide +kernel
theorem dX8_blob_112 : decode cX8_blob 112 = .ok (.getfield 132, 3) := by decide +kernel
theorem dX8_blob_115 : decode cX8_blob 115 = .ok (.irem, 1) := by decide +kernel
theorem dX8_blob_116 : decode cX8_blob 116 = .ok (.ireturn, 1) := by decide +kernel
theorem dX8_blob_117 : decode cX8_blob 117 = .ok (.aload_n 0, 1) := by decide +kernel
theorem dX8_blob_118 : decode cX8_blob 118 = .ok (.getfield 80, 3) := by decide +kernel
theorem dX8_blob_121 : decode cX8_blob 121 = .ok (.iload_n 1, 1) := by decide +kernel
theorem dX8_blob_122 : decode cX8_blob 122 = .ok (.iaload, 1) := by decide +kernel
theorem dX8_blob_123 : decode cX8_blob 123 = .ok (.aload_n 0, 1) := by decide +kernel
theorem dX8_blob_124 : decode cX8_blob 124 = .ok (.getfield 132, 3) := by decide +kernel
theorem dX8_blob_127 : decode cX8_blob 127 = .ok (.idiv, 1) := by decide +kernel
theorem dX8_blob_128 : decode cX8_blob 128 = .ok (.ireturn, 1) := by decide +kernel
theorem dX8_blob_129 : decode cX8_blob 129 = .ok (.aload_n 0, 1) := by decide +kernel
theorem dX8_blob_130 : decode cX8_blob 130 = .ok (.getfield 86, 3) := by decide +kernel
theorem dX8_blob_133 : decode cX8_blob 133 = .ok (.iload_n 1, 1) := by decide +kernel
theorem dX8_blob_134 : decode cX8_blob 134 = .ok (.iaload, 1) := by decide +kernel
theorem dX8_blob_135 : decode cX8_blob 135 = .ok (.aload_n 0, 1) := by decide +kernel
theorem dX8_blob_136 : decode cX8_blob 136 = .ok (.getfield 83, 3) := by decide +kernel
theorem dX8_blob_139 : decode cX8_blob 139 = .ok (.iload_n 1, 1) := by decide +kernel
theorem dX8_blob_140 : decode cX8_blob 140 = .ok (.iaload, 1) := by decide +kernel
theorem dX8_blob_141 : decode cX8_blob 141 = .ok (.isub, 1) := by decide +kernel
theorem dX8_blob_142 : decode cX8_blob 142 = .ok (.iconst 1, 1) := by decide +kernel
theorem dX8_blob_143 : decode cX8_blob 143 = .ok (.iadd, 1) := by decide +kernel
theorem dX8_blob_144 : decode cX8_blob 144 = .ok (.ireturn, 1) := by decide +kernel
theorem dX8_blob_145 : decode cX8_blob 145 = .ok (.aload_n 0, 1) := by decide +kernel
theorem dX8_blob_146 : decode cX8_blob 146 = .ok (.getfield 92, 3) := by decide +kernel
theorem dX8_blob_149 : decode cX8_blob 149 = .ok (.iload_n 1, 1) := by decide +kernel
theorem dX8_blob_150 : decode cX8_blob 150 = .ok (.iaload, 1) := by decide +kernel
theorem dX8_blob_151 : decode cX8_blob 151 = .ok (.aload_n 0, 1) := by decide +kernel
theorem dX8_blob_152 : decode cX8_blob 152 = .ok (.getfield 89, 3) := by decide +kernel
theorem dX8_blob_155 : decode cX8_blob 155 = .ok (.iload_n 1, 1) := by decide +kernel
theorem dX8_blob_156 : decode cX8_blob 156 = .ok (.iaload, 1) := by decide +kernel
theorem dX8_blob_157 : decode cX8_blob 157 = .ok (.isub, 1) := by decide +kernel
theorem dX8_blob_158 : decode cX8_blob 158 = .ok (.iconst 1, 1) := by decide +kernel
theorem dX8_blob_159 : decode cX8_blob 159 = .ok (.iadd, 1) := by decide +kernel
theorem dX8_blob_160 : decode cX8_blob 160 = .ok (.ireturn, 1) := by decide +kernel
theorem dX8_blob_161 : decode cX8_blob 161 = .ok (.iconst (-1), 1) := by decide +kernel
theorem dX8_blob_162 : decode cX8_blob 162 = .ok (.ireturn, 1) := by decide +kernel
def mX8_blob : MM := (yX8_blob, cX8_blob, 3, Option.some Jvm.ClassFile.FieldType.int, { frames := 5, cells := 0, slots := 0, locals := 113 })
def fX8_blob (σ : SS) (a1 : Int32) (a2 : Int32) : Option (Int32 × SS) :=
  if (-1 : Int32) ≤ a1 then (
    bnd1 (fX8_laysBlobs σ) fun σ1 =>
    if a1 = (-1 : Int32) then (
      if a2 = 0 then (
        some ((gI σ1 73 43), σ1)
        ) else (
        some ((-1 : Int32), σ1)
        )
      ) else (
      if a1 < (gI σ1 73 43) then (
        if a2 = (0 : Int32) then (
          grd (inb a1 801) <|
          some ((gI σ1 94 (Int32.toNatClampNeg a1)), σ1)
          ) else
        if a2 = (1 : Int32) then (
          grd (inb a1 801) <|
          some ((gI σ1 95 (Int32.toNatClampNeg a1)), σ1)
          ) else
        if a2 = (2 : Int32) then (
          grd (inb a1 801) <|
          some ((gI σ1 96 (Int32.toNatClampNeg a1)), σ1)
          ) else
        if a2 = (3 : Int32) then (
          grd (inb a1 801) <|
          grd (nz (gI σ1 73 29)) <|
          some ((irm (gI σ1 97 (Int32.toNatClampNeg a1)) (gI σ1 73 29)), σ1)
          ) else
        if a2 = (4 : Int32) then (
          grd (inb a1 801) <|
          grd (nz (gI σ1 73 29)) <|
          some (((gI σ1 97 (Int32.toNatClampNeg a1)) / (gI σ1 73 29)), σ1)
          ) else
        if a2 = (5 : Int32) then (
          grd (inb a1 801) <|
          some ((((gI σ1 99 (Int32.toNatClampNeg a1)) - (gI σ1 98 (Int32.toNatClampNeg a1))) + (1 : Int32)), σ1)
          ) else
        if a2 = (6 : Int32) then (
          grd (inb a1 801) <|
          some ((((gI σ1 101 (Int32.toNatClampNeg a1)) - (gI σ1 100 (Int32.toNatClampNeg a1))) + (1 : Int32)), σ1)
          ) else
        some ((-1 : Int32), σ1)
        ) else (
        some ((-1 : Int32), σ1)
        )
      )
    ) else (
    some ((-1 : Int32), σ)
    )

set_option maxRecDepth 20000 in
theorem sX8_blob {g : GG} {σ : SS} {a1 : Int32} {a2 : Int32} {r : Int32 × SS} (hr : fX8_blob σ a1 a2 = some r)  : Ct g mX8_blob [.ref (ad g 73), .int a1, .int a2] NF σ (some (.int r.1)) NF r.2 := by
  refine Ct.of (by decide +kernel) (nle rfl) fun hw0 => ?_
  have hw := hw0 rfl
  unfold fX8_blob at hr
  change RR g mX8_blob (FinR g mX8_blob (some (.int r.1)) NF r.2) zF 0 [(0, .ref (ad g 73)), (1, .int a1), (2, .int a2)] [] σ
  refine r_iload_n (pc := 0) (j := 1) dX8_blob_0 rfl rfl ?_
  refine r_iconst (pc := 1) (v := (-1 : Int32)) dX8_blob_1 rfl ?_
  refine r_icmp_ge (pc := 2) (tgt := 7) dX8_blob_2 rfl (fun hc => ?_) (fun hc => ?_)
  · replace hr := ite_t hc hr
    refine r_aload_n (pc := 7) (j := 0) dX8_blob_7 rfl rfl ?_
    obtain ⟨σ1, eσ1, hr⟩ := bnd1_inv hr
    refine kX8_laysBlobs (pc := 8) eσ1 tw_6_231 ⟨nle rfl, nle rfl⟩ (nle rfl) dX8_blob_8 fun hσ1 => ?_
    refine r_iload_n (pc := 11) (j := 1) dX8_blob_11 rfl rfl ?_
    refine r_iconst (pc := 12) (v := (-1 : Int32)) dX8_blob_12 rfl ?_
    refine r_icmp_ne (pc := 13) (tgt := 29) dX8_blob_13 rfl (fun hc => ?_) (fun hc => ?_)
    · replace hr := ite_f hc hr
      refine r_iload_n (pc := 29) (j := 1) dX8_blob_29 rfl rfl ?_
      refine r_aload_n (pc := 30) (j := 0) dX8_blob_30 rfl rfl ?_
      refine gf8_43 (pc := 31) tw_5_137 rfl dX8_blob_31 ?_
      refine r_icmp_lt (pc := 34) (tgt := 39) dX8_blob_34 rfl (fun hc => ?_) (fun hc => ?_)
      · replace hr := ite_t hc hr
        refine r_iload_n (pc := 39) (j := 2) dX8_blob_39 rfl rfl ?_
        by_cases hc0 : a2 = (0 : Int32)
        · replace hr := ite_t hc0 hr
          refine r_tabIn (pc := 40) (off := 44) (tgt := 84) dX8_blob_40 (by rw [hc0]; decide) (by rw [hc0]; decide) (by rw [hc0]; rfl) rfl ?_
          refine r_aload_n (pc := 84) (j := 0) dX8_blob_84 rfl rfl ?_
          refine gf8_35 (pc := 85) tw_5_129 hσ1 dX8_blob_85 ?_
          refine r_iload_n (pc := 88) (j := 1) dX8_blob_88 rfl rfl ?_
          obtain ⟨h2, hr⟩ := grd_inv hr
          refine x_iald (pc := 89) (k := (Int32.toNatClampNeg a1)) rfl h2 rfl dX8_blob_89 ?_
          exact l_osi hr (r_iret (pc := 90) (v := (gI σ1 94 (Int32.toNatClampNeg a1))) rfl rfl ⟨Nat.le_refl _, Nat.le_refl _⟩ dX8_blob_90)
        replace hr := ite_f hc0 hr
        by_cases hc1 : a2 = (1 : Int32)
        · replace hr := ite_t hc1 hr
          refine r_tabIn (pc := 40) (off := 51) (tgt := 91) dX8_blob_40 (by rw [hc1]; decide) (by rw [hc1]; decide) (by rw [hc1]; rfl) rfl ?_
          refine r_aload_n (pc := 91) (j := 0) dX8_blob_91 rfl rfl ?_
          refine gf8_36 (pc := 92) tw_5_130 hσ1 dX8_blob_92 ?_
          refine r_iload_n (pc := 95) (j := 1) dX8_blob_95 rfl rfl ?_
          obtain ⟨h3, hr⟩ := grd_inv hr
          refine x_iald (pc := 96) (k := (Int32.toNatClampNeg a1)) rfl h3 rfl dX8_blob_96 ?_
          exact l_osi hr (r_iret (pc := 97) (v := (gI σ1 95 (Int32.toNatClampNeg a1))) rfl rfl ⟨Nat.le_refl _, Nat.le_refl _⟩ dX8_blob_97)
        replace hr := ite_f hc1 hr
        by_cases hc2 : a2 = (2 : Int32)
        · replace hr := ite_t hc2 hr
          refine r_tabIn (pc := 40) (off := 58) (tgt := 98) dX8_blob_40 (by rw [hc2]; decide) (by rw [hc2]; decide) (by rw [hc2]; rfl) rfl ?_
          refine r_aload_n (pc := 98) (j := 0) dX8_blob_98 rfl rfl ?_
          refine gf8_37 (pc := 99) tw_5_131 hσ1 dX8_blob_99 ?_
          refine r_iload_n (pc := 102) (j := 1) dX8_blob_102 rfl rfl ?_
          obtain ⟨h4, hr⟩ := grd_inv hr
          refine x_iald (pc := 103) (k := (Int32.toNatClampNeg a1)) rfl h4 rfl dX8_blob_103 ?_
          exact l_osi hr (r_iret (pc := 104) (v := (gI σ1 96 (Int32.toNatClampNeg a1))) rfl rfl ⟨Nat.le_refl _, Nat.le_refl _⟩ dX8_blob_104)
        replace hr := ite_f hc2 hr
        by_cases hc3 : a2 = (3 : Int32)
        · replace hr := ite_t hc3 hr
          refine r_tabIn (pc := 40) (off := 65) (tgt := 105) dX8_blob_40 (by rw [hc3]; decide) (by rw [hc3]; decide) (by rw [hc3]; rfl) rfl ?_
          refine r_aload_n (pc := 105) (j := 0) dX8_blob_105 rfl rfl ?_
          refine gf8_38 (pc := 106) tw_5_132 hσ1 dX8_blob_106 ?_
          refine r_iload_n (pc := 109) (j := 1) dX8_blob_109 rfl rfl ?_
          obtain ⟨h5, hr⟩ := grd_inv hr
          refine x_iald (pc := 110) (k := (Int32.toNatClampNeg a1)) rfl h5 rfl dX8_blob_110 ?_
          refine r_aload_n (pc := 111) (j := 0) dX8_blob_111 rfl rfl ?_
          refine gf8_29 (pc := 112) tw_5_123 rfl dX8_blob_112 ?_
          obtain ⟨h6, hr⟩ := grd_inv hr
          refine r_irem (pc := 115) dX8_blob_115 (nz_ne h6) ?_
          exact l_osi hr (r_iret (pc := 116) (v := (irm (gI σ1 97 (Int32.toNatClampNeg a1)) (gI σ1 73 29))) rfl rfl ⟨Nat.le_refl _, Nat.le_refl _⟩ dX8_blob_116)
        replace hr := ite_f hc3 hr
        by_cases hc4 : a2 = (4 : Int32)
        · replace hr := ite_t hc4 hr
          refine r_tabIn (pc := 40) (off := 77) (tgt := 117) dX8_blob_40 (by rw [hc4]; decide) (by rw [hc4]; decide) (by rw [hc4]; rfl) rfl ?_
          refine r_aload_n (pc := 117) (j := 0) dX8_blob_117 rfl rfl ?_
          refine gf8_38 (pc := 118) tw_5_132 hσ1 dX8_blob_118 ?_
          refine r_iload_n (pc := 121) (j := 1) dX8_blob_121 rfl rfl ?_
          obtain ⟨h7, hr⟩ := grd_inv hr
          refine x_iald (pc := 122) (k := (Int32.toNatClampNeg a1)) rfl h7 rfl dX8_blob_122 ?_
          refine r_aload_n (pc := 123) (j := 0) dX8_blob_123 rfl rfl ?_
          refine gf8_29 (pc := 124) tw_5_123 rfl dX8_blob_124 ?_
          obtain ⟨h8, hr⟩ := grd_inv hr
          refine r_idiv (pc := 127) dX8_blob_127 (nz_ne h8) ?_
          exact l_osi hr (r_iret (pc := 128) (v := ((gI σ1 97 (Int32.toNatClampNeg a1)) / (gI σ1 73 29))) rfl rfl ⟨Nat.le_refl _, Nat.le_refl _⟩ dX8_blob_128)
        replace hr := ite_f hc4 hr
        by_cases hc5 : a2 = (5 : Int32)
        · replace hr := ite_t hc5 hr
          refine r_tabIn (pc := 40) (off := 89) (tgt := 129) dX8_blob_40 (by rw [hc5]; decide) (by rw [hc5]; decide) (by rw [hc5]; rfl) rfl ?_
          refine r_aload_n (pc := 129) (j := 0) dX8_blob_129 rfl rfl ?_
          refine gf8_40 (pc := 130) tw_5_134 hσ1 dX8_blob_130 ?_
          refine r_iload_n (pc := 133) (j := 1) dX8_blob_133 rfl rfl ?_
          obtain ⟨h9, hr⟩ := grd_inv hr
          refine x_iald (pc := 134) (k := (Int32.toNatClampNeg a1)) rfl h9 rfl dX8_blob_134 ?_
          refine r_aload_n (pc := 135) (j := 0) dX8_blob_135 rfl rfl ?_
          refine gf8_39 (pc := 136) tw_5_133 hσ1 dX8_blob_136 ?_
          refine r_iload_n (pc := 139) (j := 1) dX8_blob_139 rfl rfl ?_
          refine x_iald (pc := 140) (k := (Int32.toNatClampNeg a1)) rfl h9 rfl dX8_blob_140 ?_
          refine r_isub (pc := 141) dX8_blob_141 ?_
          refine r_iconst (pc := 142) (v := (1 : Int32)) dX8_blob_142 rfl ?_
          refine r_iadd (pc := 143) dX8_blob_143 ?_
          exact l_osi hr (r_iret (pc := 144) (v := (((gI σ1 99 (Int32.toNatClampNeg a1)) - (gI σ1 98 (Int32.toNatClampNeg a1))) + (1 : Int32))) rfl rfl ⟨Nat.le_refl _, Nat.le_refl _⟩ dX8_blob_144)
        replace hr := ite_f hc5 hr
        by_cases hc6 : a2 = (6 : Int32)
        · replace hr := ite_t hc6 hr
          refine r_tabIn (pc := 40) (off := 105) (tgt := 145) dX8_blob_40 (by rw [hc6]; decide) (by rw [hc6]; decide) (by rw [hc6]; rfl) rfl ?_
          refine r_aload_n (pc := 145) (j := 0) dX8_blob_145 rfl rfl ?_
          refine gf8_42 (pc := 146) tw_5_136 hσ1 dX8_blob_146 ?_
          refine r_iload_n (pc := 149) (j := 1) dX8_blob_149 rfl rfl ?_
          obtain ⟨h10, hr⟩ := grd_inv hr
          refine x_iald (pc := 150) (k := (Int32.toNatClampNeg a1)) rfl h10 rfl dX8_blob_150 ?_
          refine r_aload_n (pc := 151) (j := 0) dX8_blob_151 rfl rfl ?_
          refine gf8_41 (pc := 152) tw_5_135 hσ1 dX8_blob_152 ?_
          refine r_iload_n (pc := 155) (j := 1) dX8_blob_155 rfl rfl ?_
          refine x_iald (pc := 156) (k := (Int32.toNatClampNeg a1)) rfl h10 rfl dX8_blob_156 ?_
          refine r_isub (pc := 157) dX8_blob_157 ?_
          refine r_iconst (pc := 158) (v := (1 : Int32)) dX8_blob_158 rfl ?_
          refine r_iadd (pc := 159) dX8_blob_159 ?_
          exact l_osi hr (r_iret (pc := 160) (v := (((gI σ1 101 (Int32.toNatClampNeg a1)) - (gI σ1 100 (Int32.toNatClampNeg a1))) + (1 : Int32))) rfl rfl ⟨Nat.le_refl _, Nat.le_refl _⟩ dX8_blob_160)
        replace hr := ite_f hc6 hr
        refine r_tabOut (pc := 40) (tgt := 161) dX8_blob_40 (tab_out (by decide) (by decide) fun k h1 h2 => ?_) rfl ?_
        · rcases (show k = 0 ∨ k = 1 ∨ k = 2 ∨ k = 3 ∨ k = 4 ∨ k = 5 ∨ k = 6 by omega) with rfl | rfl | rfl | rfl | rfl | rfl | rfl
          · exact hc0
          · exact hc1
          · exact hc2
          · exact hc3
          · exact hc4
          · exact hc5
          · exact hc6
        refine r_iconst (pc := 161) (v := (-1 : Int32)) dX8_blob_161 rfl ?_
        exact l_osi hr (r_iret (pc := 162) (v := (-1 : Int32)) rfl rfl ⟨Nat.le_refl _, Nat.le_refl _⟩ dX8_blob_162)
      replace hr := ite_f hc hr
      refine r_iconst (pc := 37) (v := (-1 : Int32)) dX8_blob_37 rfl ?_
      exact l_osi hr (r_iret (pc := 38) (v := (-1 : Int32)) rfl rfl ⟨Nat.le_refl _, Nat.le_refl _⟩ dX8_blob_38)
    replace hr := ite_t hc hr
    refine r_iload_n (pc := 16) (j := 2) dX8_blob_16 rfl rfl ?_
    refine r_if_ne (pc := 17) (tgt := 27) dX8_blob_17 rfl (fun hc => ?_) (fun hc => ?_)
    · replace hr := ite_f hc hr
      refine r_iconst (pc := 27) (v := (-1 : Int32)) dX8_blob_27 rfl ?_
      exact l_osi hr (r_iret (pc := 28) (v := (-1 : Int32)) rfl rfl ⟨Nat.le_refl _, Nat.le_refl _⟩ dX8_blob_28)
    replace hr := ite_t hc hr
    refine r_aload_n (pc := 20) (j := 0) dX8_blob_20 rfl rfl ?_
    refine gf8_43 (pc := 21) tw_5_137 rfl dX8_blob_21 ?_
    refine r_goto (pc := 24) (tgt := 28) dX8_blob_24 rfl ?_
    exact l_osi hr (r_iret (pc := 28) (v := (gI σ1 73 43)) rfl rfl ⟨Nat.le_refl _, Nat.le_refl _⟩ dX8_blob_28)
  replace hr := ite_f hc hr
  refine r_iconst (pc := 5) (v := (-1 : Int32)) dX8_blob_5 rfl ?_
  exact l_osi hr (r_iret (pc := 6) (v := (-1 : Int32)) rfl rfl ⟨Nat.le_refl _, Nat.le_refl _⟩ dX8_blob_6)

theorem kX8_blob {g : GG} {σ : SS} {a1 : Int32} {a2 : Int32} {v : Int32} {σ2 : SS} {M : MM} {F : State → Array Value → List Frame → State → Prop} {pc index : Nat} {ls : List (Nat × Value)} {rest : List Value} (hf : fX8_blob σ a1 a2 = some (v, σ2))  (hl : Cond.methodLink M.1.cls index yX8_blob ∈ lw_gt) (hR : mX8_blob.2.2.2.2.frames + 1 ≤ M.2.2.2.2.frames ∧ 8 + (mX8_blob.2.2.1 + 11) + mX8_blob.2.2.2.2.locals ≤ M.2.2.2.2.locals) (hrest : (rest.map fun v => v.category).sum ≤ 8) (hd : decode M.2.1 pc = .ok (.invokevirtual index, 3)) (k : WT σ2 → RR g M F zF (pc + 3) ls (.int v :: rest) σ2) : RR g M F zF pc ls (.int a2 :: .int a1 :: .ref (ad g 73) :: rest) σ :=
  r_callV (z := zF) (N := mX8_blob) (nn := 2) (o1 := some (.int v)) (sX8_blob hf ) (rfl : shp 73 = (8, 0)) (by decide) (shp_le (rfl : shp 73 = (8, 0)) (nle rfl)) (ci := 8) rfl rfl tw_7_42 tw_1_10 hl tw_7_40 tw_7_41 ⟨by decide, by decide, rfl⟩ hR rfl hrest hd ⟨Nat.zero_le _, Nat.zero_le _⟩ rfl (fun h => k (h rfl))

theorem dX0_nearest_0 : decode cX0_nearest 0 = .ok (.iconst (-1), 1) := by decide +kernel
theorem dX0_nearest_1 : decode cX0_nearest 1 = .ok (.istore 4, 2) := by decide +kernel
theorem dX0_nearest_3 : decode cX0_nearest 3 = .ok (.lconst 0, 1) := by decide +kernel
theorem dX0_nearest_4 : decode cX0_nearest 4 = .ok (.lstore 5, 2) := by decide +kernel
theorem dX0_nearest_6 : decode cX0_nearest 6 = .ok (.lconst 1, 1) := by decide +kernel
theorem dX0_nearest_7 : decode cX0_nearest 7 = .ok (.lstore 7, 2) := by decide +kernel
theorem dX0_nearest_9 : decode cX0_nearest 9 = .ok (.iconst 0, 1) := by decide +kernel
theorem dX0_nearest_10 : decode cX0_nearest 10 = .ok (.istore 9, 2) := by decide +kernel
theorem dX0_nearest_12 : decode cX0_nearest 12 = .ok (.iload 9, 2) := by decide +kernel
theorem dX0_nearest_14 : decode cX0_nearest 14 = .ok (.aload_n 0, 1) := by decide +kernel
theorem dX0_nearest_15 : decode cX0_nearest 15 = .ok (.getfield 43, 3) := by decide +kernel
theorem dX0_nearest_18 : decode cX0_nearest 18 = .ok (.if_icmp .ge 113, 3) := by decide +kernel
theorem dX0_nearest_21 : decode cX0_nearest 21 = .ok (.aload_n 0, 1) := by decide +kernel
theorem dX0_nearest_22 : decode cX0_nearest 22 = .ok (.getfield 11, 3) := by decide +kernel
theorem dX0_nearest_25 : decode cX0_nearest 25 = .ok (.iload 9, 2) := by decide +kernel
theorem dX0_nearest_27 : decode cX0_nearest 27 = .ok (.iaload, 1) := by decide +kernel
theorem dX0_nearest_28 : decode cX0_nearest 28 = .ok (.iload_n 3, 1) := by decide +kernel
theorem dX0_nearest_29 : decode cX0_nearest 29 = .ok (.if_icmp .lt 96, 3) := by decide +kernel
theorem dX0_nearest_32 : decode cX0_nearest 32 = .ok (.aload_n 0, 1) := by decide +kernel
theorem dX0_nearest_33 : decode cX0_nearest 33 = .ok (.getfield 11, 3) := by decide +kernel
theorem dX0_nearest_36 : decode cX0_nearest 36 = .ok (.iload 9, 2) := by decide +kernel
theorem dX0_nearest_38 : decode cX0_nearest 38 = .ok (.iaload, 1) := by decide +kernel
theorem dX0_nearest_39 : decode cX0_nearest 39 = .ok (.i2l, 1) := by decide +kernel
theorem dX0_nearest_40 : decode cX0_nearest 40 = .ok (.lstore 10, 2) := by decide +kernel
theorem dX0_nearest_42 : decode cX0_nearest 42 = .ok (.aload_n 0, 1) := by decide +kernel
theorem dX0_nearest_43 : decode cX0_nearest 43 = .ok (.getfield 15, 3) := by decide +kernel
theorem dX0_nearest_46 : decode cX0_nearest 46 = .ok (.iload 9, 2) := by decide +kernel
theorem dX0_nearest_48 : decode cX0_nearest 48 = .ok (.iaload, 1) := by decide +kernel
theorem dX0_nearest_49 : decode cX0_nearest 49 = .ok (.i2l, 1) := by decide +kernel
theorem dX0_nearest_50 : decode cX0_nearest 50 = .ok (.lload 10, 2) := by decide +kernel
theorem dX0_nearest_52 : decode cX0_nearest 52 = .ok (.iload_n 1, 1) := by decide +kernel
theorem dX0_nearest_53 : decode cX0_nearest 53 = .ok (.i2l, 1) := by decide +kernel
theorem dX0_nearest_54 : decode cX0_nearest 54 = .ok (.lmul, 1) := by decide +kernel
theorem dX0_nearest_55 : decode cX0_nearest 55 = .ok (.lsub, 1) := by decide +kernel
theorem dX0_nearest_56 : decode cX0_nearest 56 = .ok (.lstore 12, 2) := by decide +kernel
theorem dX0_nearest_58 : decode cX0_nearest 58 = .ok (.aload_n 0, 1) := by decide +kernel
theorem dX0_nearest_59 : decode cX0_nearest 59 = .ok (.getfield 18, 3) := by decide +kernel
theorem dX0_nearest_62 : decode cX0_nearest 62 = .ok (.iload 9, 2) := by decide +kernel
theorem dX0_nearest_64 : decode cX0_nearest 64 = .ok (.iaload, 1) := by decide +kernel
theorem dX0_nearest_65 : decode cX0_nearest 65 = .ok (.i2l, 1) := by decide +kernel
theorem dX0_nearest_66 : decode cX0_nearest 66 = .ok (.lload 10, 2) := by decide +kernel
theorem dX0_nearest_68 : decode cX0_nearest 68 = .ok (.iload_n 2, 1) := by decide +kernel
theorem dX0_nearest_69 : decode cX0_nearest 69 = .ok (.i2l, 1) := by decide +kernel
theorem dX0_nearest_70 : decode cX0_nearest 70 = .ok (.lmul, 1) := by decide +kernel
theorem dX0_nearest_71 : decode cX0_nearest 71 = .ok (.lsub, 1) := by decide +kernel
theorem dX0_nearest_72 : decode cX0_nearest 72 = .ok (.lstore 14, 2) := by decide +kernel
theorem dX0_nearest_74 : decode cX0_nearest 74 = .ok (.lload 12, 2) := by decide +kernel
theorem dX0_nearest_76 : decode cX0_nearest 76 = .ok (.lload 12, 2) := by decide +kernel
theorem dX0_nearest_78 : decode cX0_nearest 78 = .ok (.lmul, 1) := by decide +kernel
theorem dX0_nearest_79 : decode cX0_nearest 79 = .ok (.lload 14, 2) := by decide +kernel
theorem dX0_nearest_81 : decode cX0_nearest 81 = .ok (.lload 14, 2) := by decide +kernel
theorem dX0_nearest_83 : decode cX0_nearest 83 = .ok (.lmul, 1) := by decide +kernel
theorem dX0_nearest_84 : decode cX0_nearest 84 = .ok (.ladd, 1) := by decide +kernel
theorem dX0_nearest_85 : decode cX0_nearest 85 = .ok (.lstore 16, 2) := by decide +kernel
theorem dX0_nearest_87 : decode cX0_nearest 87 = .ok (.lload 10, 2) := by decide +kernel
theorem dX0_nearest_89 : decode cX0_nearest 89 = .ok (.lload 10, 2) := by decide +kernel
theorem dX0_nearest_91 : decode cX0_nearest 91 = .ok (.lmul, 1) := by decide +kernel
theorem dX0_nearest_92 : decode cX0_nearest 92 = .ok (.lstore 18, 2) := by decide +kernel
theorem dX0_nearest_94 : decode cX0_nearest 94 = .ok (.iload 4, 2) := by decide +kernel
theorem dX0_nearest_96 : decode cX0_nearest 96 = .ok (.ifCond .lt 17, 3) := by decide +kernel
theorem dX0_nearest_99 : decode cX0_nearest 99 = .ok (.lload 16, 2) := by decide +kernel
theorem dX0_nearest_101 : decode cX0_nearest 101 = .ok (.lload 7, 2) := by decide +kernel
theorem dX0_nearest_103 : decode cX0_nearest 103 = .ok (.lmul, 1) := by decide +kernel
theorem dX0_nearest_104 : decode cX0_nearest 104 = .ok (.lload 5, 2) := by decide +kernel
theorem dX0_nearest_106 : decode cX0_nearest 106 = .ok (.lload 18, 2) := by decide +kernel
theorem dX0_nearest_108 : decode cX0_nearest 108 = .ok (.lmul, 1) := by decide +kernel
theorem dX0_nearest_109 : decode cX0_nearest 109 = .ok (.lcmp, 1) := by decide +kernel
theorem dX0_nearest_110 : decode cX0_nearest 110 = .ok (.ifCond .ge 15, 3) := by decide +kernel
theorem dX0_nearest_113 : decode cX0_nearest 113 = .ok (.iload 9, 2) := by decide +kernel
theorem dX0_nearest_115 : decode cX0_nearest 115 = .ok (.istore 4, 2) := by decide +kernel
theorem dX0_nearest_117 : decode cX0_nearest 117 = .ok (.lload 16, 2) := by decide +kernel
theorem dX0_nearest_119 : decode cX0_nearest 119 = .ok (.lstore 5, 2) := by decide +kernel
theorem dX0_nearest_121 : decode cX0_nearest 121 = .ok (.lload 18, 2) := by decide +kernel
theorem dX0_nearest_123 : decode cX0_nearest 123 = .ok (.lstore 7, 2) := by decide +kernel
theorem dX0_nearest_125 : decode cX0_nearest 125 = .ok (.iinc 9 1, 3) := by decide +kernel
theorem dX0_nearest_128 : decode cX0_nearest 128 = .ok (.goto (-116), 3) := by decide +kernel
theorem dX0_nearest_131 : decode cX0_nearest 131 = .ok (.iload 4, 2) := by decide +kernel
theorem dX0_nearest_133 : decode cX0_nearest 133 = .ok (.ireturn, 1) := by decide +kernel
def mX0_nearest : MM := (yX0_nearest, cX0_nearest, 20, Option.some Jvm.ClassFile.FieldType.int, { frames := 0, cells := 0, slots := 0, locals := 0 })
def X0_nearest_L12 (σ_ : SS) (u1_ : Int32) (u2_ : Int32) (u3_ : Int32)  : Nat → Int32 → Int64 → Int64 → Int32 → Option Int32 :=
  lp (fun _ _ _ _ => none) fun rec v4_ w5_ w7_ v9_ =>
    if (gI σ_ 33 0) ≤ v9_ then (
      some v4_
      ) else (
      grd (inb v9_ 800) <|
      if (gI σ_ 34 (Int32.toNatClampNeg v9_)) < u3_ then (
        rec v4_ w5_ w7_ (v9_ + (1 : Int32))
        ) else (
        vthen (Int32.toInt64 (gI σ_ 34 (Int32.toNatClampNeg v9_))) fun w2 =>
        vthen ((Int32.toInt64 (gI σ_ 35 (Int32.toNatClampNeg v9_))) - (w2 * (Int32.toInt64 u1_))) fun w3 =>
        vthen ((Int32.toInt64 (gI σ_ 36 (Int32.toNatClampNeg v9_))) - (w2 * (Int32.toInt64 u2_))) fun w4 =>
        vthen ((w3 * w3) + (w4 * w4)) fun w5 =>
        vthen (w2 * w2) fun w6 =>
        vthen (fun (_u : Unit) =>
          rec v9_ w5 w6 (v9_ + (1 : Int32))
          ) fun j113 =>
        if v4_ < 0 then (
          j113 ()
          ) else (
          if 0 ≤ (lg_cmp (w5 * w7_) (w5_ * w6)) then (
            rec v4_ w5_ w7_ (v9_ + (1 : Int32))
            ) else (
            j113 ()
            )
          )
        )
      )

def fX0_nearest (σ0 : SS) (a1 : Int32) (a2 : Int32) (a3 : Int32) : Option Int32 :=
  X0_nearest_L12 σ0 a1 a2 a3
  fuel (-1 : Int32) (0 : Int64) (1 : Int64) (0 : Int32)

set_option maxRecDepth 20000 in
theorem sX0_nearest_L12 {g : GG} {r : Int32} {σ_ : SS} {σ0 : SS} {u1_ : Int32} {u2_ : Int32} {u3_ : Int32}  
    (hw_ : WT σ_)
    (h0_ : σ_ = σ0)
    (n : Nat) : ∀ (v4_ : Int32) (w5_ : Int64) (w7_ : Int64) (v9_ : Int32), X0_nearest_L12 σ_ u1_ u2_ u3_ n v4_ w5_ w7_ v9_ = some r → RR g mX0_nearest (FinR g mX0_nearest (some (.int r)) NF σ0) zF 12 [(0, .ref (ad g 33)), (1, .int u1_), (2, .int u2_), (3, .int u3_), (4, .int v4_), (5, .long w5_), (7, .long w7_), (9, .int v9_)] [] σ_ := by
  unfold X0_nearest_L12
  refine lp_ind (P := fun (rec : Int32 → Int64 → Int64 → Int32 → Option Int32) => ∀ (v4_ : Int32) (w5_ : Int64) (w7_ : Int64) (v9_ : Int32), rec v4_ w5_ w7_ v9_ = some r → RR g mX0_nearest (FinR g mX0_nearest (some (.int r)) NF σ0) zF 12 [(0, .ref (ad g 33)), (1, .int u1_), (2, .int u2_), (3, .int u3_), (4, .int v4_), (5, .long w5_), (7, .long w7_), (9, .int v9_)] [] σ_) ?_ ?_ n
  · intro v4_ w5_ w7_ v9_ hr; cases hr
  intro rec ih v4_ w5_ w7_ v9_ hr
  subst h0_
  refine r_iload (pc := 12) (j := 7) dX0_nearest_12 rfl ?_
  refine r_aload_n (pc := 14) (j := 0) dX0_nearest_14 rfl rfl ?_
  refine gf0_0 (pc := 15) tw_1_183 rfl dX0_nearest_15 ?_
  refine r_icmp_ge (pc := 18) (tgt := 131) dX0_nearest_18 rfl (fun hc => ?_) (fun hc => ?_)
  · replace hr := ite_t hc hr
    refine r_iload (pc := 131) (j := 4) dX0_nearest_131 rfl ?_
    exact l_opi hr (r_iret (pc := 133) (v := v4_) rfl rfl ⟨Nat.le_refl _, Nat.le_refl _⟩ dX0_nearest_133)
  replace hr := ite_f hc hr
  refine r_aload_n (pc := 21) (j := 0) dX0_nearest_21 rfl rfl ?_
  refine gf0_1 (pc := 22) tw_1_185 hw_ dX0_nearest_22 ?_
  refine r_iload (pc := 25) (j := 7) dX0_nearest_25 rfl ?_
  obtain ⟨h1, hr⟩ := grd_inv hr
  refine x_iald (pc := 27) (k := (Int32.toNatClampNeg v9_)) rfl h1 rfl dX0_nearest_27 ?_
  refine r_iload_n (pc := 28) (j := 3) dX0_nearest_28 rfl rfl ?_
  refine r_icmp_lt (pc := 29) (tgt := 125) dX0_nearest_29 rfl (fun hc => ?_) (fun hc => ?_)
  · replace hr := ite_t hc hr
    refine r_iinc (pc := 125) (j := 7) (v := (v9_ + (1 : Int32))) (ls1 := [(9, .int (v9_ + (1 : Int32))), (0, .ref (ad g 33)), (1, .int u1_), (2, .int u2_), (3, .int u3_), (4, .int v4_), (5, .long w5_), (7, .long w7_)]) dX0_nearest_125 rfl rfl (nle rfl) rfl ?_
    refine r_goto (pc := 128) (tgt := 12) dX0_nearest_128 rfl ?_
    exact r_pick (ls1 := [(0, .ref (ad g 33)), (1, .int u1_), (2, .int u2_), (3, .int u3_), (4, .int v4_), (5, .long w5_), (7, .long w7_), (9, .int (v9_ + (1 : Int32)))]) [1, 2, 3, 4, 5, 6, 7, 0] rfl (ih v4_ w5_ w7_ (v9_ + (1 : Int32)) hr)
  replace hr := ite_f hc hr
  refine r_aload_n (pc := 32) (j := 0) dX0_nearest_32 rfl rfl ?_
  refine gf0_1 (pc := 33) tw_1_185 hw_ dX0_nearest_33 ?_
  refine r_iload (pc := 36) (j := 7) dX0_nearest_36 rfl ?_
  refine x_iald (pc := 38) (k := (Int32.toNatClampNeg v9_)) rfl h1 rfl dX0_nearest_38 ?_
  refine r_i2l (pc := 39) dX0_nearest_39 ?_
  refine r_topl fun w2 ew2 => ?_
  replace hr := vthen_inv hr w2 ew2
  refine r_lstore (pc := 40) (ls1 := [(10, .long w2), (0, .ref (ad g 33)), (1, .int u1_), (2, .int u2_), (3, .int u3_), (4, .int v4_), (5, .long w5_), (7, .long w7_), (9, .int v9_)]) dX0_nearest_40 (nle rfl) rfl ?_
  refine r_aload_n (pc := 42) (j := 1) dX0_nearest_42 rfl rfl ?_
  refine gf0_2 (pc := 43) tw_1_188 hw_ dX0_nearest_43 ?_
  refine r_iload (pc := 46) (j := 8) dX0_nearest_46 rfl ?_
  refine x_iald (pc := 48) (k := (Int32.toNatClampNeg v9_)) rfl h1 rfl dX0_nearest_48 ?_
  refine r_i2l (pc := 49) dX0_nearest_49 ?_
  refine r_lload (pc := 50) (j := 0) dX0_nearest_50 rfl ?_
  refine r_iload_n (pc := 52) (j := 2) dX0_nearest_52 rfl rfl ?_
  refine r_i2l (pc := 53) dX0_nearest_53 ?_
  refine r_lmul (pc := 54) dX0_nearest_54 ?_
  refine r_lsub (pc := 55) dX0_nearest_55 ?_
  refine r_topl fun w3 ew3 => ?_
  replace hr := vthen_inv hr w3 ew3
  refine r_lstore (pc := 56) (ls1 := [(12, .long w3), (10, .long w2), (0, .ref (ad g 33)), (1, .int u1_), (2, .int u2_), (3, .int u3_), (4, .int v4_), (5, .long w5_), (7, .long w7_), (9, .int v9_)]) dX0_nearest_56 (nle rfl) rfl ?_
  refine r_aload_n (pc := 58) (j := 2) dX0_nearest_58 rfl rfl ?_
  refine gf0_3 (pc := 59) tw_1_191 hw_ dX0_nearest_59 ?_
  refine r_iload (pc := 62) (j := 9) dX0_nearest_62 rfl ?_
  refine x_iald (pc := 64) (k := (Int32.toNatClampNeg v9_)) rfl h1 rfl dX0_nearest_64 ?_
  refine r_i2l (pc := 65) dX0_nearest_65 ?_
  refine r_lload (pc := 66) (j := 1) dX0_nearest_66 rfl ?_
  refine r_iload_n (pc := 68) (j := 4) dX0_nearest_68 rfl rfl ?_
  refine r_i2l (pc := 69) dX0_nearest_69 ?_
  refine r_lmul (pc := 70) dX0_nearest_70 ?_
  refine r_lsub (pc := 71) dX0_nearest_71 ?_
  refine r_topl fun w4 ew4 => ?_
  replace hr := vthen_inv hr w4 ew4
  refine r_lstore (pc := 72) (ls1 := [(14, .long w4), (12, .long w3), (10, .long w2), (0, .ref (ad g 33)), (1, .int u1_), (2, .int u2_), (3, .int u3_), (4, .int v4_), (5, .long w5_), (7, .long w7_), (9, .int v9_)]) dX0_nearest_72 (nle rfl) rfl ?_
  refine r_lload (pc := 74) (j := 1) dX0_nearest_74 rfl ?_
  refine r_lload (pc := 76) (j := 1) dX0_nearest_76 rfl ?_
  refine r_lmul (pc := 78) dX0_nearest_78 ?_
  refine r_lload (pc := 79) (j := 0) dX0_nearest_79 rfl ?_
  refine r_lload (pc := 81) (j := 0) dX0_nearest_81 rfl ?_
  refine r_lmul (pc := 83) dX0_nearest_83 ?_
  refine r_ladd (pc := 84) dX0_nearest_84 ?_
  refine r_topl fun w5 ew5 => ?_
  replace hr := vthen_inv hr w5 ew5
  refine r_lstore (pc := 85) (ls1 := [(16, .long w5), (14, .long w4), (12, .long w3), (10, .long w2), (0, .ref (ad g 33)), (1, .int u1_), (2, .int u2_), (3, .int u3_), (4, .int v4_), (5, .long w5_), (7, .long w7_), (9, .int v9_)]) dX0_nearest_85 (nle rfl) rfl ?_
  refine r_lload (pc := 87) (j := 3) dX0_nearest_87 rfl ?_
  refine r_lload (pc := 89) (j := 3) dX0_nearest_89 rfl ?_
  refine r_lmul (pc := 91) dX0_nearest_91 ?_
  refine r_topl fun w6 ew6 => ?_
  replace hr := vthen_inv hr w6 ew6
  refine r_lstore (pc := 92) (ls1 := [(18, .long w6), (16, .long w5), (14, .long w4), (12, .long w3), (10, .long w2), (0, .ref (ad g 33)), (1, .int u1_), (2, .int u2_), (3, .int u3_), (4, .int v4_), (5, .long w5_), (7, .long w7_), (9, .int v9_)]) dX0_nearest_92 (nle rfl) rfl ?_
  refine r_iload (pc := 94) (j := 9) dX0_nearest_94 rfl ?_
  obtain ⟨j113, ej113, hr⟩ := vth_ex hr
  have hj113 : j113 () = some r → RR g mX0_nearest (FinR g mX0_nearest (some (.int r)) NF σ_) zF 113 [(0, .ref (ad g 33)), (1, .int u1_), (2, .int u2_), (3, .int u3_), (9, .int v9_), (16, .long w5), (18, .long w6)] [] σ_ := by
    intro  hr
    replace hr := (congrFun ej113 ()).symm.trans hr
    refine r_iload (pc := 113) (j := 4) dX0_nearest_113 rfl ?_
    refine r_istore (pc := 115) (ls1 := [(4, .int v9_), (0, .ref (ad g 33)), (1, .int u1_), (2, .int u2_), (3, .int u3_), (9, .int v9_), (16, .long w5), (18, .long w6)]) dX0_nearest_115 (nle rfl) rfl ?_
    refine r_lload (pc := 117) (j := 6) dX0_nearest_117 rfl ?_
    refine r_lstore (pc := 119) (ls1 := [(5, .long w5), (4, .int v9_), (0, .ref (ad g 33)), (1, .int u1_), (2, .int u2_), (3, .int u3_), (9, .int v9_), (16, .long w5), (18, .long w6)]) dX0_nearest_119 (nle rfl) rfl ?_
    refine r_lload (pc := 121) (j := 8) dX0_nearest_121 rfl ?_
    refine r_lstore (pc := 123) (ls1 := [(7, .long w6), (5, .long w5), (4, .int v9_), (0, .ref (ad g 33)), (1, .int u1_), (2, .int u2_), (3, .int u3_), (9, .int v9_), (16, .long w5), (18, .long w6)]) dX0_nearest_123 (nle rfl) rfl ?_
    refine r_iinc (pc := 125) (j := 7) (v := (v9_ + (1 : Int32))) (ls1 := [(9, .int (v9_ + (1 : Int32))), (7, .long w6), (5, .long w5), (4, .int v9_), (0, .ref (ad g 33)), (1, .int u1_), (2, .int u2_), (3, .int u3_), (16, .long w5), (18, .long w6)]) dX0_nearest_125 rfl rfl (nle rfl) rfl ?_
    refine r_goto (pc := 128) (tgt := 12) dX0_nearest_128 rfl ?_
    exact r_pick (ls1 := [(0, .ref (ad g 33)), (1, .int u1_), (2, .int u2_), (3, .int u3_), (4, .int v9_), (5, .long w5), (7, .long w6), (9, .int (v9_ + (1 : Int32)))]) [4, 5, 6, 7, 3, 2, 1, 0] rfl (ih v9_ w5 w6 (v9_ + (1 : Int32)) hr)
  refine r_if_lt (pc := 96) (tgt := 113) dX0_nearest_96 rfl (fun hc => ?_) (fun hc => ?_)
  · replace hr := ite_t hc hr
    exact r_pick (ls1 := [(0, .ref (ad g 33)), (1, .int u1_), (2, .int u2_), (3, .int u3_), (9, .int v9_), (16, .long w5), (18, .long w6)]) [5, 6, 7, 8, 12, 1, 0] rfl (hj113  hr)
  replace hr := ite_f hc hr
  refine r_lload (pc := 99) (j := 1) dX0_nearest_99 rfl ?_
  refine r_lload (pc := 101) (j := 11) dX0_nearest_101 rfl ?_
  refine r_lmul (pc := 103) dX0_nearest_103 ?_
  refine r_lload (pc := 104) (j := 10) dX0_nearest_104 rfl ?_
  refine r_lload (pc := 106) (j := 0) dX0_nearest_106 rfl ?_
  refine r_lmul (pc := 108) dX0_nearest_108 ?_
  refine r_lcmp (pc := 109) dX0_nearest_109 ?_
  refine r_if_ge (pc := 110) (tgt := 125) dX0_nearest_110 rfl (fun hc => ?_) (fun hc => ?_)
  · replace hr := ite_t hc hr
    refine r_iinc (pc := 125) (j := 12) (v := (v9_ + (1 : Int32))) (ls1 := [(9, .int (v9_ + (1 : Int32))), (18, .long w6), (16, .long w5), (14, .long w4), (12, .long w3), (10, .long w2), (0, .ref (ad g 33)), (1, .int u1_), (2, .int u2_), (3, .int u3_), (4, .int v4_), (5, .long w5_), (7, .long w7_)]) dX0_nearest_125 rfl rfl (nle rfl) rfl ?_
    refine r_goto (pc := 128) (tgt := 12) dX0_nearest_128 rfl ?_
    exact r_pick (ls1 := [(0, .ref (ad g 33)), (1, .int u1_), (2, .int u2_), (3, .int u3_), (4, .int v4_), (5, .long w5_), (7, .long w7_), (9, .int (v9_ + (1 : Int32)))]) [6, 7, 8, 9, 10, 11, 12, 0] rfl (ih v4_ w5_ w7_ (v9_ + (1 : Int32)) hr)
  replace hr := ite_f hc hr
  exact r_pick (ls1 := [(0, .ref (ad g 33)), (1, .int u1_), (2, .int u2_), (3, .int u3_), (9, .int v9_), (16, .long w5), (18, .long w6)]) [5, 6, 7, 8, 12, 1, 0] rfl (hj113  hr)

set_option maxRecDepth 20000 in
theorem sX0_nearest {g : GG} {σ0 : SS} {a1 : Int32} {a2 : Int32} {a3 : Int32} {r : Int32} (hr : fX0_nearest σ0 a1 a2 a3 = some r)  : Ct g mX0_nearest [.ref (ad g 33), .int a1, .int a2, .int a3] NF σ0 (some (.int r)) NF σ0 := by
  refine Ct.of (by decide +kernel) (nle rfl) fun hw0 => ?_
  have hw := hw0 rfl
  unfold fX0_nearest at hr
  change RR g mX0_nearest (FinR g mX0_nearest (some (.int r)) NF σ0) zF 0 [(0, .ref (ad g 33)), (1, .int a1), (2, .int a2), (3, .int a3)] [] σ0
  refine r_iconst (pc := 0) (v := (-1 : Int32)) dX0_nearest_0 rfl ?_
  refine r_istore (pc := 1) (ls1 := [(4, .int (-1 : Int32)), (0, .ref (ad g 33)), (1, .int a1), (2, .int a2), (3, .int a3)]) dX0_nearest_1 (nle rfl) rfl ?_
  refine r_lconst (pc := 3) (v := (0 : Int64)) dX0_nearest_3 rfl ?_
  refine r_lstore (pc := 4) (ls1 := [(5, .long (0 : Int64)), (4, .int (-1 : Int32)), (0, .ref (ad g 33)), (1, .int a1), (2, .int a2), (3, .int a3)]) dX0_nearest_4 (nle rfl) rfl ?_
  refine r_lconst (pc := 6) (v := (1 : Int64)) dX0_nearest_6 rfl ?_
  refine r_lstore (pc := 7) (ls1 := [(7, .long (1 : Int64)), (5, .long (0 : Int64)), (4, .int (-1 : Int32)), (0, .ref (ad g 33)), (1, .int a1), (2, .int a2), (3, .int a3)]) dX0_nearest_7 (nle rfl) rfl ?_
  refine r_iconst (pc := 9) (v := (0 : Int32)) dX0_nearest_9 rfl ?_
  refine r_istore (pc := 10) (ls1 := [(9, .int (0 : Int32)), (7, .long (1 : Int64)), (5, .long (0 : Int64)), (4, .int (-1 : Int32)), (0, .ref (ad g 33)), (1, .int a1), (2, .int a2), (3, .int a3)]) dX0_nearest_10 (nle rfl) rfl ?_
  refine r_pick (ls1 := [(0, .ref (ad g 33)), (1, .int a1), (2, .int a2), (3, .int a3), (4, .int (-1 : Int32)), (5, .long (0 : Int64)), (7, .long (1 : Int64)), (9, .int (0 : Int32))]) [4, 5, 6, 7, 3, 2, 1, 0] rfl ?_
  refine sX0_nearest_L12  hw rfl  fuel (-1 : Int32) (0 : Int64) (1 : Int64) (0 : Int32) hr

theorem kX0_nearest {g : GG} {σ0 : SS} {a1 : Int32} {a2 : Int32} {a3 : Int32} {v : Int32} {M : MM} {F : State → Array Value → List Frame → State → Prop} {pc index : Nat} {ls : List (Nat × Value)} {rest : List Value} (hf : fX0_nearest σ0 a1 a2 a3 = some v)  (hl : Cond.methodLink M.1.cls index yX0_nearest ∈ lw_gt) (hR : mX0_nearest.2.2.2.2.frames + 1 ≤ M.2.2.2.2.frames ∧ 8 + (mX0_nearest.2.2.1 + 11) + mX0_nearest.2.2.2.2.locals ≤ M.2.2.2.2.locals) (hrest : (rest.map fun v => v.category).sum ≤ 8) (hd : decode M.2.1 pc = .ok (.invokevirtual index, 3)) (k : RR g M F zF (pc + 3) ls (.int v :: rest) σ0) : RR g M F zF pc ls (.int a3 :: .int a2 :: .int a1 :: .ref (ad g 33) :: rest) σ0 :=
  r_callV (z := zF) (N := mX0_nearest) (nn := 3) (o1 := some (.int v)) (sX0_nearest hf ) (rfl : shp 33 = (0, 0)) (by decide) (shp_le (rfl : shp 33 = (0, 0)) (nle rfl)) (ci := 0) rfl rfl tw_4_36 tw_1_6 hl tw_4_34 tw_4_35 ⟨by decide, by decide, rfl⟩ hR rfl hrest hd ⟨Nat.zero_le _, Nat.zero_le _⟩ rfl (fun h => k)

