/-! Walks written by a program out of the bytecode: each method as a function over the store, and its contract. -/
theorem dX4_sort_0 : decode cX4_sort 0 = .ok (.iconst 0, 1) := by decide +kernel
theorem dX4_sort_1 : decode cX4_sort 1 = .ok (.istore_n 1, 1) := by decide +kernel
theorem dX4_sort_2 : decode cX4_sort 2 = .ok (.iload_n 1, 1) := by decide +kernel
theorem dX4_sort_3 : decode cX4_sort 3 = .ok (.aload_n 0, 1) := by decide +kernel
theorem dX4_sort_4 : decode cX4_sort 4 = .ok (.getfield 27, 3) := by decide +kernel
theorem dX4_sort_7 : decode cX4_sort 7 = .ok (.if_icmp .ge 64, 3) := by decide +kernel
theorem dX4_sort_10 : decode cX4_sort 10 = .ok (.iload_n 1, 1) := by decide +kernel
theorem dX4_sort_11 : decode cX4_sort 11 = .ok (.istore_n 2, 1) := by decide +kernel
theorem dX4_sort_12 : decode cX4_sort 12 = .ok (.iload_n 2, 1) := by decide +kernel
theorem dX4_sort_13 : decode cX4_sort 13 = .ok (.ifCond .le 45, 3) := by decide +kernel
theorem dX4_sort_16 : decode cX4_sort 16 = .ok (.aload_n 0, 1) := by decide +kernel
theorem dX4_sort_17 : decode cX4_sort 17 = .ok (.getfield 9, 3) := by decide +kernel
theorem dX4_sort_20 : decode cX4_sort 20 = .ok (.aload_n 0, 1) := by decide +kernel
theorem dX4_sort_21 : decode cX4_sort 21 = .ok (.getfield 24, 3) := by decide +kernel
theorem dX4_sort_24 : decode cX4_sort 24 = .ok (.iload_n 2, 1) := by decide +kernel
theorem dX4_sort_25 : decode cX4_sort 25 = .ok (.iconst 1, 1) := by decide +kernel
theorem dX4_sort_26 : decode cX4_sort 26 = .ok (.isub, 1) := by decide +kernel
theorem dX4_sort_27 : decode cX4_sort 27 = .ok (.iaload, 1) := by decide +kernel
theorem dX4_sort_28 : decode cX4_sort 28 = .ok (.iaload, 1) := by decide +kernel
theorem dX4_sort_29 : decode cX4_sort 29 = .ok (.aload_n 0, 1) := by decide +kernel
theorem dX4_sort_30 : decode cX4_sort 30 = .ok (.getfield 9, 3) := by decide +kernel
theorem dX4_sort_33 : decode cX4_sort 33 = .ok (.iload_n 1, 1) := by decide +kernel
theorem dX4_sort_34 : decode cX4_sort 34 = .ok (.iaload, 1) := by decide +kernel
theorem dX4_sort_35 : decode cX4_sort 35 = .ok (.if_icmp .ge 23, 3) := by decide +kernel
theorem dX4_sort_38 : decode cX4_sort 38 = .ok (.aload_n 0, 1) := by decide +kernel
theorem dX4_sort_39 : decode cX4_sort 39 = .ok (.getfield 24, 3) := by decide +kernel
theorem dX4_sort_42 : decode cX4_sort 42 = .ok (.iload_n 2, 1) := by decide +kernel
theorem dX4_sort_43 : decode cX4_sort 43 = .ok (.aload_n 0, 1) := by decide +kernel
theorem dX4_sort_44 : decode cX4_sort 44 = .ok (.getfield 24, 3) := by decide +kernel
theorem dX4_sort_47 : decode cX4_sort 47 = .ok (.iload_n 2, 1) := by decide +kernel
theorem dX4_sort_48 : decode cX4_sort 48 = .ok (.iconst 1, 1) := by decide +kernel
theorem dX4_sort_49 : decode cX4_sort 49 = .ok (.isub, 1) := by decide +kernel
theorem dX4_sort_50 : decode cX4_sort 50 = .ok (.iaload, 1) := by decide +kernel
theorem dX4_sort_51 : decode cX4_sort 51 = .ok (.iastore, 1) := by decide +kernel
theorem dX4_sort_52 : decode cX4_sort 52 = .ok (.iinc 2 (-1), 3) := by decide +kernel
theorem dX4_sort_55 : decode cX4_sort 55 = .ok (.goto (-43), 3) := by decide +kernel
theorem dX4_sort_58 : decode cX4_sort 58 = .ok (.aload_n 0, 1) := by decide +kernel
theorem dX4_sort_59 : decode cX4_sort 59 = .ok (.getfield 24, 3) := by decide +kernel
theorem dX4_sort_62 : decode cX4_sort 62 = .ok (.iload_n 2, 1) := by decide +kernel
theorem dX4_sort_63 : decode cX4_sort 63 = .ok (.iload_n 1, 1) := by decide +kernel
theorem dX4_sort_64 : decode cX4_sort 64 = .ok (.iastore, 1) := by decide +kernel
theorem dX4_sort_65 : decode cX4_sort 65 = .ok (.iinc 1 1, 3) := by decide +kernel
theorem dX4_sort_68 : decode cX4_sort 68 = .ok (.goto (-66), 3) := by decide +kernel
theorem dX4_sort_71 : decode cX4_sort 71 = .ok (.return_, 1) := by decide +kernel
def mX4_sort : MM := (yX4_sort, cX4_sort, 3, none, { frames := 0, cells := 0, slots := 0, locals := 0 })
def X4_sort_L12 (u1_ : Int32) (k58 : Int32 → SS → Option SS) : Nat → Int32 → SS → Option SS :=
  lp (fun _ _ => none) fun rec v2_ σ_ =>
    if v2_ ≤ 0 then (
      k58 v2_ σ_
      ) else (
      grd (inb (v2_ - (1 : Int32)) 16) <|
      grd (inb (gI σ_ 63 (Int32.toNatClampNeg (v2_ - (1 : Int32)))) 16) <|
      grd (inb u1_ 16) <|
      if (gI σ_ 59 (Int32.toNatClampNeg u1_)) ≤ (gI σ_ 59 (Int32.toNatClampNeg (gI σ_ 63 (Int32.toNatClampNeg (v2_ - (1 : Int32)))))) then (
        k58 v2_ σ_
        ) else (
        grd (inb v2_ 16) <|
        vthen (sI σ_ 63 (Int32.toNatClampNeg v2_) (gI σ_ 63 (Int32.toNatClampNeg (v2_ - (1 : Int32))))) fun σ5 =>
        rec (v2_ + (-1 : Int32)) σ5
        )
      )

def X4_sort_L2   : Nat → Int32 → SS → Option SS :=
  lp (fun _ _ => none) fun rec v1_ σ_ =>
    if (gI σ_ 58 0) ≤ v1_ then (
      some σ_
      ) else (
      X4_sort_L12 v1_
      (fun v6 σ7 =>
        grd (inb v6 16) <|
        vthen (sI σ7 63 (Int32.toNatClampNeg v6) v1_) fun σ9 =>
        rec (v1_ + (1 : Int32)) σ9
        )
      fuel v1_ σ_
      )

def fX4_sort (σ : SS)  : Option SS :=
  X4_sort_L2
  fuel (0 : Int32) σ

set_option maxRecDepth 20000 in
theorem sX4_sort_L12 {g : GG} {r : SS} {u1_ : Int32} {k58 : Int32 → SS → Option SS} 
    (hk58 : ∀ (y2 : Int32) (σ_ : SS), k58 y2 σ_ = some r → WT σ_ → RR g mX4_sort (FinR g mX4_sort none NF r) zF 58 [(0, .ref (ad g 58)), (1, .int u1_), (2, .int y2)] [] σ_)
    (n : Nat) : ∀ (v2_ : Int32) (σ_ : SS), X4_sort_L12 u1_ k58 n v2_ σ_ = some r → WT σ_ → RR g mX4_sort (FinR g mX4_sort none NF r) zF 12 [(0, .ref (ad g 58)), (1, .int u1_), (2, .int v2_)] [] σ_ := by
  unfold X4_sort_L12
  refine lp_ind (P := fun (rec : Int32 → SS → Option SS) => ∀ (v2_ : Int32) (σ_ : SS), rec v2_ σ_ = some r → WT σ_ → RR g mX4_sort (FinR g mX4_sort none NF r) zF 12 [(0, .ref (ad g 58)), (1, .int u1_), (2, .int v2_)] [] σ_) ?_ ?_ n
  · intro v2_ σ_ hr; cases hr
  intro rec ih v2_ σ_ hr hw_
  refine r_iload_n (pc := 12) (j := 2) dX4_sort_12 rfl rfl ?_
  refine r_if_le (pc := 13) (tgt := 58) dX4_sort_13 rfl (fun hc => ?_) (fun hc => ?_)
  · replace hr := ite_t hc hr
    exact r_pick (ls1 := [(0, .ref (ad g 58)), (1, .int u1_), (2, .int v2_)]) [0, 1, 2] rfl (hk58 v2_ σ_ hr hw_)
  replace hr := ite_f hc hr
  refine r_aload_n (pc := 16) (j := 0) dX4_sort_16 rfl rfl ?_
  refine gf4_1 (pc := 17) tw_2_80 hw_ dX4_sort_17 ?_
  refine r_aload_n (pc := 20) (j := 0) dX4_sort_20 rfl rfl ?_
  refine gf4_5 (pc := 21) tw_2_87 hw_ dX4_sort_21 ?_
  refine r_iload_n (pc := 24) (j := 2) dX4_sort_24 rfl rfl ?_
  refine r_iconst (pc := 25) (v := (1 : Int32)) dX4_sort_25 rfl ?_
  refine r_isub (pc := 26) dX4_sort_26 ?_
  obtain ⟨h1, hr⟩ := grd_inv hr
  refine x_iald (pc := 27) (k := (Int32.toNatClampNeg (v2_ - (1 : Int32)))) rfl h1 rfl dX4_sort_27 ?_
  obtain ⟨h2, hr⟩ := grd_inv hr
  refine x_iald (pc := 28) (k := (Int32.toNatClampNeg (gI σ_ 63 (Int32.toNatClampNeg (v2_ - (1 : Int32)))))) rfl h2 rfl dX4_sort_28 ?_
  refine r_aload_n (pc := 29) (j := 0) dX4_sort_29 rfl rfl ?_
  refine gf4_1 (pc := 30) tw_2_80 hw_ dX4_sort_30 ?_
  refine r_iload_n (pc := 33) (j := 1) dX4_sort_33 rfl rfl ?_
  obtain ⟨h3, hr⟩ := grd_inv hr
  refine x_iald (pc := 34) (k := (Int32.toNatClampNeg u1_)) rfl h3 rfl dX4_sort_34 ?_
  refine r_icmp_ge (pc := 35) (tgt := 58) dX4_sort_35 rfl (fun hc => ?_) (fun hc => ?_)
  · replace hr := ite_t hc hr
    exact r_pick (ls1 := [(0, .ref (ad g 58)), (1, .int u1_), (2, .int v2_)]) [0, 1, 2] rfl (hk58 v2_ σ_ hr hw_)
  replace hr := ite_f hc hr
  refine r_aload_n (pc := 38) (j := 0) dX4_sort_38 rfl rfl ?_
  refine gf4_5 (pc := 39) tw_2_87 hw_ dX4_sort_39 ?_
  refine r_iload_n (pc := 42) (j := 2) dX4_sort_42 rfl rfl ?_
  refine r_aload_n (pc := 43) (j := 0) dX4_sort_43 rfl rfl ?_
  refine gf4_5 (pc := 44) tw_2_87 hw_ dX4_sort_44 ?_
  refine r_iload_n (pc := 47) (j := 2) dX4_sort_47 rfl rfl ?_
  refine r_iconst (pc := 48) (v := (1 : Int32)) dX4_sort_48 rfl ?_
  refine r_isub (pc := 49) dX4_sort_49 ?_
  refine x_iald (pc := 50) (k := (Int32.toNatClampNeg (v2_ - (1 : Int32)))) rfl h1 rfl dX4_sort_50 ?_
  obtain ⟨h4, hr⟩ := grd_inv hr
  refine x_iast (pc := 51) (j := (Int32.toNatClampNeg v2_)) rfl h4 rfl dX4_sort_51 fun σ5 eσ5 => ?_
  replace hr := vthen_inv hr σ5 eσ5
  have hσ5 := wtI eσ5 hw_
  refine r_iinc (pc := 52) (j := 2) (v := (v2_ + (-1 : Int32))) (ls1 := [(2, .int (v2_ + (-1 : Int32))), (0, .ref (ad g 58)), (1, .int u1_)]) dX4_sort_52 rfl rfl (nle rfl) rfl ?_
  refine r_goto (pc := 55) (tgt := 12) dX4_sort_55 rfl ?_
  exact r_pick (ls1 := [(0, .ref (ad g 58)), (1, .int u1_), (2, .int (v2_ + (-1 : Int32)))]) [1, 2, 0] rfl (ih (v2_ + (-1 : Int32)) σ5 hr hσ5)

set_option maxRecDepth 20000 in
theorem sX4_sort_L2 {g : GG} {r : SS}   
    (n : Nat) : ∀ (v1_ : Int32) (σ_ : SS), X4_sort_L2 n v1_ σ_ = some r → WT σ_ → RR g mX4_sort (FinR g mX4_sort none NF r) zF 2 [(0, .ref (ad g 58)), (1, .int v1_)] [] σ_ := by
  unfold X4_sort_L2
  refine lp_ind (P := fun (rec : Int32 → SS → Option SS) => ∀ (v1_ : Int32) (σ_ : SS), rec v1_ σ_ = some r → WT σ_ → RR g mX4_sort (FinR g mX4_sort none NF r) zF 2 [(0, .ref (ad g 58)), (1, .int v1_)] [] σ_) ?_ ?_ n
  · intro v1_ σ_ hr; cases hr
  intro rec ih v1_ σ_ hr hw_
  refine r_iload_n (pc := 2) (j := 1) dX4_sort_2 rfl rfl ?_
  refine r_aload_n (pc := 3) (j := 0) dX4_sort_3 rfl rfl ?_
  refine gf4_0 (pc := 4) tw_2_78 rfl dX4_sort_4 ?_
  refine r_icmp_ge (pc := 7) (tgt := 71) dX4_sort_7 rfl (fun hc => ?_) (fun hc => ?_)
  · replace hr := ite_t hc hr
    exact l_ov hr (r_vret (pc := 71) rfl rfl ⟨Nat.le_refl _, Nat.le_refl _⟩ dX4_sort_71)
  replace hr := ite_f hc hr
  refine r_iload_n (pc := 10) (j := 1) dX4_sort_10 rfl rfl ?_
  refine r_istore_n (pc := 11) (ls1 := [(2, .int v1_), (0, .ref (ad g 58)), (1, .int v1_)]) dX4_sort_11 rfl (nle rfl) rfl ?_
  refine r_pick (ls1 := [(0, .ref (ad g 58)), (1, .int v1_), (2, .int v1_)]) [1, 2, 0] rfl ?_
  refine sX4_sort_L12    (fun v6 σ7 hr hσ7 => ?_) fuel v1_ σ_ hr hw_
  refine r_aload_n (pc := 58) (j := 0) dX4_sort_58 rfl rfl ?_
  refine gf4_5 (pc := 59) tw_2_87 hσ7 dX4_sort_59 ?_
  refine r_iload_n (pc := 62) (j := 2) dX4_sort_62 rfl rfl ?_
  refine r_iload_n (pc := 63) (j := 1) dX4_sort_63 rfl rfl ?_
  obtain ⟨h8, hr⟩ := grd_inv hr
  refine x_iast (pc := 64) (j := (Int32.toNatClampNeg v6)) rfl h8 rfl dX4_sort_64 fun σ9 eσ9 => ?_
  replace hr := vthen_inv hr σ9 eσ9
  have hσ9 := wtI eσ9 hσ7
  refine r_iinc (pc := 65) (j := 1) (v := (v1_ + (1 : Int32))) (ls1 := [(1, .int (v1_ + (1 : Int32))), (0, .ref (ad g 58)), (2, .int v6)]) dX4_sort_65 rfl rfl (nle rfl) rfl ?_
  refine r_goto (pc := 68) (tgt := 2) dX4_sort_68 rfl ?_
  exact r_pick (ls1 := [(0, .ref (ad g 58)), (1, .int (v1_ + (1 : Int32)))]) [1, 0] rfl (ih (v1_ + (1 : Int32)) σ9 hr hσ9)

set_option maxRecDepth 20000 in
theorem sX4_sort {g : GG} {σ : SS}  {r : SS} (hr : fX4_sort σ = some r)  : Ct g mX4_sort [.ref (ad g 58)] NF σ none NF r := by
  refine Ct.of (by decide +kernel) (nle rfl) fun hw0 => ?_
  have hw := hw0 rfl
  unfold fX4_sort at hr
  change RR g mX4_sort (FinR g mX4_sort none NF r) zF 0 [(0, .ref (ad g 58))] [] σ
  refine r_iconst (pc := 0) (v := (0 : Int32)) dX4_sort_0 rfl ?_
  refine r_istore_n (pc := 1) (ls1 := [(1, .int (0 : Int32)), (0, .ref (ad g 58))]) dX4_sort_1 rfl (nle rfl) rfl ?_
  refine r_pick (ls1 := [(0, .ref (ad g 58)), (1, .int (0 : Int32))]) [1, 0] rfl ?_
  refine sX4_sort_L2     fuel (0 : Int32) σ hr hw

theorem kX4_sort {g : GG} {σ : SS}  {σ2 : SS} {M : MM} {F : State → Array Value → List Frame → State → Prop} {pc index : Nat} {ls : List (Nat × Value)} {rest : List Value} (hf : fX4_sort σ = some σ2)  (hl : Cond.methodLink M.1.cls index yX4_sort ∈ lw_gt) (hR : mX4_sort.2.2.2.2.frames + 1 ≤ M.2.2.2.2.frames ∧ 8 + (mX4_sort.2.2.1 + 11) + mX4_sort.2.2.2.2.locals ≤ M.2.2.2.2.locals) (hrest : (rest.map fun v => v.category).sum ≤ 8) (hd : decode M.2.1 pc = .ok (.invokevirtual index, 3)) (k : WT σ2 → RR g M F zF (pc + 3) ls rest σ2) : RR g M F zF pc ls (.ref (ad g 58) :: rest) σ :=
  r_callV (z := zF) (N := mX4_sort) (nn := 0) (o1 := none) (sX4_sort hf ) (rfl : shp 58 = (4, 0)) (by decide) (shp_le (rfl : shp 58 = (4, 0)) (nle rfl)) (ci := 4) rfl rfl tw_5_65 tw_1_8 hl tw_5_63 tw_5_64 ⟨by decide, by decide, rfl⟩ hR rfl hrest hd ⟨Nat.zero_le _, Nat.zero_le _⟩ rfl (fun h => k (h rfl))

theorem dX4_tellingOf_0 : decode cX4_tellingOf 0 = .ok (.aload_n 0, 1) := by decide +kernel
theorem dX4_tellingOf_1 : decode cX4_tellingOf 1 = .ok (.invokevirtual 57, 3) := by decide +kernel
theorem dX4_tellingOf_4 : decode cX4_tellingOf 4 = .ok (.aload_n 0, 1) := by decide +kernel
theorem dX4_tellingOf_5 : decode cX4_tellingOf 5 = .ok (.getfield 27, 3) := by decide +kernel
theorem dX4_tellingOf_8 : decode cX4_tellingOf 8 = .ok (.iconst 2, 1) := by decide +kernel
theorem dX4_tellingOf_9 : decode cX4_tellingOf 9 = .ok (.idiv, 1) := by decide +kernel
theorem dX4_tellingOf_10 : decode cX4_tellingOf 10 = .ok (.istore_n 3, 1) := by decide +kernel
theorem dX4_tellingOf_11 : decode cX4_tellingOf 11 = .ok (.iconst 0, 1) := by decide +kernel
theorem dX4_tellingOf_12 : decode cX4_tellingOf 12 = .ok (.istore 4, 2) := by decide +kernel
theorem dX4_tellingOf_14 : decode cX4_tellingOf 14 = .ok (.iconst 0, 1) := by decide +kernel
theorem dX4_tellingOf_15 : decode cX4_tellingOf 15 = .ok (.istore 5, 2) := by decide +kernel
theorem dX4_tellingOf_17 : decode cX4_tellingOf 17 = .ok (.iload 5, 2) := by decide +kernel
theorem dX4_tellingOf_19 : decode cX4_tellingOf 19 = .ok (.iload_n 3, 1) := by decide +kernel
theorem dX4_tellingOf_20 : decode cX4_tellingOf 20 = .ok (.if_icmp .ge 54, 3) := by decide +kernel
theorem dX4_tellingOf_23 : decode cX4_tellingOf 23 = .ok (.aload_n 0, 1) := by decide +kernel
theorem dX4_tellingOf_24 : decode cX4_tellingOf 24 = .ok (.aload_n 1, 1) := by decide +kernel
theorem dX4_tellingOf_25 : decode cX4_tellingOf 25 = .ok (.aload_n 0, 1) := by decide +kernel
theorem dX4_tellingOf_26 : decode cX4_tellingOf 26 = .ok (.getfield 24, 3) := by decide +kernel
theorem dX4_tellingOf_29 : decode cX4_tellingOf 29 = .ok (.iload 5, 2) := by decide +kernel
theorem dX4_tellingOf_31 : decode cX4_tellingOf 31 = .ok (.iaload, 1) := by decide +kernel
theorem dX4_tellingOf_32 : decode cX4_tellingOf 32 = .ok (.iload_n 2, 1) := by decide +kernel
theorem dX4_tellingOf_33 : decode cX4_tellingOf 33 = .ok (.invokevirtual 53, 3) := by decide +kernel
theorem dX4_tellingOf_36 : decode cX4_tellingOf 36 = .ok (.ifCond .eq 6, 3) := by decide +kernel
theorem dX4_tellingOf_39 : decode cX4_tellingOf 39 = .ok (.iinc 4 1, 3) := by decide +kernel
theorem dX4_tellingOf_42 : decode cX4_tellingOf 42 = .ok (.aload_n 0, 1) := by decide +kernel
theorem dX4_tellingOf_43 : decode cX4_tellingOf 43 = .ok (.aload_n 1, 1) := by decide +kernel
theorem dX4_tellingOf_44 : decode cX4_tellingOf 44 = .ok (.aload_n 0, 1) := by decide +kernel
theorem dX4_tellingOf_45 : decode cX4_tellingOf 45 = .ok (.getfield 24, 3) := by decide +kernel
theorem dX4_tellingOf_48 : decode cX4_tellingOf 48 = .ok (.aload_n 0, 1) := by decide +kernel
theorem dX4_tellingOf_49 : decode cX4_tellingOf 49 = .ok (.getfield 27, 3) := by decide +kernel
theorem dX4_tellingOf_52 : decode cX4_tellingOf 52 = .ok (.iconst 1, 1) := by decide +kernel
theorem dX4_tellingOf_53 : decode cX4_tellingOf 53 = .ok (.isub, 1) := by decide +kernel
theorem dX4_tellingOf_54 : decode cX4_tellingOf 54 = .ok (.iload 5, 2) := by decide +kernel
theorem dX4_tellingOf_56 : decode cX4_tellingOf 56 = .ok (.isub, 1) := by decide +kernel
theorem dX4_tellingOf_57 : decode cX4_tellingOf 57 = .ok (.iaload, 1) := by decide +kernel
theorem dX4_tellingOf_58 : decode cX4_tellingOf 58 = .ok (.iload_n 2, 1) := by decide +kernel
theorem dX4_tellingOf_59 : decode cX4_tellingOf 59 = .ok (.invokevirtual 53, 3) := by decide +kernel
theorem dX4_tellingOf_62 : decode cX4_tellingOf 62 = .ok (.ifCond .eq 6, 3) := by decide +kernel
theorem dX4_tellingOf_65 : decode cX4_tellingOf 65 = .ok (.iinc 4 (-1), 3) := by decide +kernel
theorem dX4_tellingOf_68 : decode cX4_tellingOf 68 = .ok (.iinc 5 1, 3) := by decide +kernel
theorem dX4_tellingOf_71 : decode cX4_tellingOf 71 = .ok (.goto (-54), 3) := by decide +kernel
theorem dX4_tellingOf_74 : decode cX4_tellingOf 74 = .ok (.iload 4, 2) := by decide +kernel
theorem dX4_tellingOf_76 : decode cX4_tellingOf 76 = .ok (.ireturn, 1) := by decide +kernel
def mX4_tellingOf : MM := (yX4_tellingOf, cX4_tellingOf, 6, Option.some Jvm.ClassFile.FieldType.int, { frames := 2, cells := 0, slots := 0, locals := 46 })
def X4_tellingOf_L17 (σ_ : SS) (o1_ : Nat) (u2_ : Int32) (u3_ : Int32)  : Nat → Int32 → Int32 → Option (Int32 × SS) :=
  lp (fun _ _ => none) fun rec v4_ v5_ =>
    if u3_ ≤ v5_ then (
      some (v4_, σ_)
      ) else (
      grd (inb v5_ 16) <|
      bnd1 (fX4_isRight σ_ o1_ (gI σ_ 63 (Int32.toNatClampNeg v5_)) u2_) fun b5 =>
      vthen (fun (v7 : Int32) =>
        grd (inb (((gI σ_ 58 0) - (1 : Int32)) - v5_) 16) <|
        bnd1 (fX4_isRight σ_ o1_ (gI σ_ 63 (Int32.toNatClampNeg (((gI σ_ 58 0) - (1 : Int32)) - v5_))) u2_) fun b10 =>
        if b10 = true then (
          rec (v7 + (-1 : Int32)) (v5_ + (1 : Int32))
          ) else (
          rec v7 (v5_ + (1 : Int32))
          )
        ) fun j42 =>
      if b5 = true then (
        j42 (v4_ + (1 : Int32))
        ) else (
        j42 v4_
        )
      )

def fX4_tellingOf (σ : SS) (a1 : Nat) (a2 : Int32) : Option (Int32 × SS) :=
  bnd1 (fX4_sort σ) fun σ1 =>
  vthen ((gI σ1 58 0) / (2 : Int32)) fun v2 =>
  X4_tellingOf_L17 σ1 a1 a2 v2
  fuel (0 : Int32) (0 : Int32)

set_option maxRecDepth 20000 in
theorem sX4_tellingOf_L17 {g : GG} {r : Int32 × SS} {σ_ : SS} {o1_ : Nat} {u2_ : Int32} {u3_ : Int32}  (hs1_ : shp o1_ = (1, 0))
    (hw_ : WT σ_)
    (n : Nat) : ∀ (v4_ : Int32) (v5_ : Int32), X4_tellingOf_L17 σ_ o1_ u2_ u3_ n v4_ v5_ = some r → RR g mX4_tellingOf (FinR g mX4_tellingOf (some (.int r.1)) NF r.2) zF 17 [(0, .ref (ad g 58)), (1, .ref (ad g o1_)), (2, .int u2_), (3, .int u3_), (4, .int v4_), (5, .int v5_)] [] σ_ := by
  unfold X4_tellingOf_L17
  refine lp_ind (P := fun (rec : Int32 → Int32 → Option (Int32 × SS)) => ∀ (v4_ : Int32) (v5_ : Int32), rec v4_ v5_ = some r → RR g mX4_tellingOf (FinR g mX4_tellingOf (some (.int r.1)) NF r.2) zF 17 [(0, .ref (ad g 58)), (1, .ref (ad g o1_)), (2, .int u2_), (3, .int u3_), (4, .int v4_), (5, .int v5_)] [] σ_) ?_ ?_ n
  · intro v4_ v5_ hr; cases hr
  intro rec ih v4_ v5_ hr
  refine r_iload (pc := 17) (j := 5) dX4_tellingOf_17 rfl ?_
  refine r_iload_n (pc := 19) (j := 3) dX4_tellingOf_19 rfl rfl ?_
  refine r_icmp_ge (pc := 20) (tgt := 74) dX4_tellingOf_20 rfl (fun hc => ?_) (fun hc => ?_)
  · replace hr := ite_t hc hr
    refine r_iload (pc := 74) (j := 4) dX4_tellingOf_74 rfl ?_
    exact l_osi hr (r_iret (pc := 76) (v := v4_) rfl rfl ⟨Nat.le_refl _, Nat.le_refl _⟩ dX4_tellingOf_76)
  replace hr := ite_f hc hr
  refine r_aload_n (pc := 23) (j := 0) dX4_tellingOf_23 rfl rfl ?_
  refine r_aload_n (pc := 24) (j := 1) dX4_tellingOf_24 rfl rfl ?_
  refine r_aload_n (pc := 25) (j := 0) dX4_tellingOf_25 rfl rfl ?_
  refine gf4_5 (pc := 26) tw_2_87 hw_ dX4_tellingOf_26 ?_
  refine r_iload (pc := 29) (j := 5) dX4_tellingOf_29 rfl ?_
  obtain ⟨h3, hr⟩ := grd_inv hr
  refine x_iald (pc := 31) (k := (Int32.toNatClampNeg v5_)) rfl h3 rfl dX4_tellingOf_31 ?_
  refine r_iload_n (pc := 32) (j := 2) dX4_tellingOf_32 rfl rfl ?_
  obtain ⟨b5, hb5, hr⟩ := bnd1_inv hr
  refine kX4_isRight (pc := 33) hb5 hs1_ tw_5_37 ⟨nle rfl, nle rfl⟩ (nle rfl) dX4_tellingOf_33 ?_
  obtain ⟨j42, ej42, hr⟩ := vth_ex hr
  have hj42 : ∀ (v7 : Int32), j42 v7 = some r → RR g mX4_tellingOf (FinR g mX4_tellingOf (some (.int r.1)) NF r.2) zF 42 [(0, .ref (ad g 58)), (1, .ref (ad g o1_)), (2, .int u2_), (3, .int u3_), (4, .int v7), (5, .int v5_)] [] σ_ := by
    intro v7 hr
    replace hr := (congrFun ej42 v7).symm.trans hr
    refine r_aload_n (pc := 42) (j := 0) dX4_tellingOf_42 rfl rfl ?_
    refine r_aload_n (pc := 43) (j := 1) dX4_tellingOf_43 rfl rfl ?_
    refine r_aload_n (pc := 44) (j := 0) dX4_tellingOf_44 rfl rfl ?_
    refine gf4_5 (pc := 45) tw_2_87 hw_ dX4_tellingOf_45 ?_
    refine r_aload_n (pc := 48) (j := 0) dX4_tellingOf_48 rfl rfl ?_
    refine gf4_0 (pc := 49) tw_2_78 rfl dX4_tellingOf_49 ?_
    refine r_iconst (pc := 52) (v := (1 : Int32)) dX4_tellingOf_52 rfl ?_
    refine r_isub (pc := 53) dX4_tellingOf_53 ?_
    refine r_iload (pc := 54) (j := 5) dX4_tellingOf_54 rfl ?_
    refine r_isub (pc := 56) dX4_tellingOf_56 ?_
    obtain ⟨h8, hr⟩ := grd_inv hr
    refine x_iald (pc := 57) (k := (Int32.toNatClampNeg (((gI σ_ 58 0) - (1 : Int32)) - v5_))) rfl h8 rfl dX4_tellingOf_57 ?_
    refine r_iload_n (pc := 58) (j := 2) dX4_tellingOf_58 rfl rfl ?_
    obtain ⟨b10, hb10, hr⟩ := bnd1_inv hr
    refine kX4_isRight (pc := 59) hb10 hs1_ tw_5_37 ⟨nle rfl, nle rfl⟩ (nle rfl) dX4_tellingOf_59 ?_
    refine r_ifB_eq (pc := 62) (tgt := 68) dX4_tellingOf_62 rfl (fun hc => ?_) (fun hc => ?_)
    · replace hr := ite_f hc hr
      refine r_iinc (pc := 68) (j := 5) (v := (v5_ + (1 : Int32))) (ls1 := [(5, .int (v5_ + (1 : Int32))), (0, .ref (ad g 58)), (1, .ref (ad g o1_)), (2, .int u2_), (3, .int u3_), (4, .int v7)]) dX4_tellingOf_68 rfl rfl (nle rfl) rfl ?_
      refine r_goto (pc := 71) (tgt := 17) dX4_tellingOf_71 rfl ?_
      exact r_pick (ls1 := [(0, .ref (ad g 58)), (1, .ref (ad g o1_)), (2, .int u2_), (3, .int u3_), (4, .int v7), (5, .int (v5_ + (1 : Int32)))]) [1, 2, 3, 4, 5, 0] rfl (ih v7 (v5_ + (1 : Int32)) hr)
    replace hr := ite_t hc hr
    refine r_iinc (pc := 65) (j := 4) (v := (v7 + (-1 : Int32))) (ls1 := [(4, .int (v7 + (-1 : Int32))), (0, .ref (ad g 58)), (1, .ref (ad g o1_)), (2, .int u2_), (3, .int u3_), (5, .int v5_)]) dX4_tellingOf_65 rfl rfl (nle rfl) rfl ?_
    refine r_iinc (pc := 68) (j := 5) (v := (v5_ + (1 : Int32))) (ls1 := [(5, .int (v5_ + (1 : Int32))), (4, .int (v7 + (-1 : Int32))), (0, .ref (ad g 58)), (1, .ref (ad g o1_)), (2, .int u2_), (3, .int u3_)]) dX4_tellingOf_68 rfl rfl (nle rfl) rfl ?_
    refine r_goto (pc := 71) (tgt := 17) dX4_tellingOf_71 rfl ?_
    exact r_pick (ls1 := [(0, .ref (ad g 58)), (1, .ref (ad g o1_)), (2, .int u2_), (3, .int u3_), (4, .int (v7 + (-1 : Int32))), (5, .int (v5_ + (1 : Int32)))]) [2, 3, 4, 5, 1, 0] rfl (ih (v7 + (-1 : Int32)) (v5_ + (1 : Int32)) hr)
  refine r_ifB_eq (pc := 36) (tgt := 42) dX4_tellingOf_36 rfl (fun hc => ?_) (fun hc => ?_)
  · replace hr := ite_f hc hr
    exact r_pick (ls1 := [(0, .ref (ad g 58)), (1, .ref (ad g o1_)), (2, .int u2_), (3, .int u3_), (4, .int v4_), (5, .int v5_)]) [0, 1, 2, 3, 4, 5] rfl (hj42 v4_ hr)
  replace hr := ite_t hc hr
  refine r_iinc (pc := 39) (j := 4) (v := (v4_ + (1 : Int32))) (ls1 := [(4, .int (v4_ + (1 : Int32))), (0, .ref (ad g 58)), (1, .ref (ad g o1_)), (2, .int u2_), (3, .int u3_), (5, .int v5_)]) dX4_tellingOf_39 rfl rfl (nle rfl) rfl ?_
  exact r_pick (ls1 := [(0, .ref (ad g 58)), (1, .ref (ad g o1_)), (2, .int u2_), (3, .int u3_), (4, .int (v4_ + (1 : Int32))), (5, .int v5_)]) [1, 2, 3, 4, 0, 5] rfl (hj42 (v4_ + (1 : Int32)) hr)

set_option maxRecDepth 20000 in
theorem sX4_tellingOf {g : GG} {σ : SS} {a1 : Nat} {a2 : Int32} {r : Int32 × SS} (hr : fX4_tellingOf σ a1 a2 = some r) (hs1 : shp a1 = (1, 0)) : Ct g mX4_tellingOf [.ref (ad g 58), .ref (ad g a1), .int a2] NF σ (some (.int r.1)) NF r.2 := by
  refine Ct.of (by decide +kernel) (nle rfl) fun hw0 => ?_
  have hw := hw0 rfl
  unfold fX4_tellingOf at hr
  change RR g mX4_tellingOf (FinR g mX4_tellingOf (some (.int r.1)) NF r.2) zF 0 [(0, .ref (ad g 58)), (1, .ref (ad g a1)), (2, .int a2)] [] σ
  refine r_aload_n (pc := 0) (j := 0) dX4_tellingOf_0 rfl rfl ?_
  obtain ⟨σ1, eσ1, hr⟩ := bnd1_inv hr
  refine kX4_sort (pc := 1) eσ1 tw_5_62 ⟨nle rfl, nle rfl⟩ (nle rfl) dX4_tellingOf_1 fun hσ1 => ?_
  refine r_aload_n (pc := 4) (j := 0) dX4_tellingOf_4 rfl rfl ?_
  refine gf4_0 (pc := 5) tw_2_78 rfl dX4_tellingOf_5 ?_
  refine r_iconst (pc := 8) (v := (2 : Int32)) dX4_tellingOf_8 rfl ?_
  refine r_idiv (pc := 9) dX4_tellingOf_9 (by decide) ?_
  refine r_topi fun v2 ev2 => ?_
  replace hr := vthen_inv hr v2 ev2
  refine r_istore_n (pc := 10) (ls1 := [(3, .int v2), (0, .ref (ad g 58)), (1, .ref (ad g a1)), (2, .int a2)]) dX4_tellingOf_10 rfl (nle rfl) rfl ?_
  refine r_iconst (pc := 11) (v := (0 : Int32)) dX4_tellingOf_11 rfl ?_
  refine r_istore (pc := 12) (ls1 := [(4, .int (0 : Int32)), (3, .int v2), (0, .ref (ad g 58)), (1, .ref (ad g a1)), (2, .int a2)]) dX4_tellingOf_12 (nle rfl) rfl ?_
  refine r_iconst (pc := 14) (v := (0 : Int32)) dX4_tellingOf_14 rfl ?_
  refine r_istore (pc := 15) (ls1 := [(5, .int (0 : Int32)), (4, .int (0 : Int32)), (3, .int v2), (0, .ref (ad g 58)), (1, .ref (ad g a1)), (2, .int a2)]) dX4_tellingOf_15 (nle rfl) rfl ?_
  refine r_pick (ls1 := [(0, .ref (ad g 58)), (1, .ref (ad g a1)), (2, .int a2), (3, .int v2), (4, .int (0 : Int32)), (5, .int (0 : Int32))]) [3, 4, 5, 2, 1, 0] rfl ?_
  refine sX4_tellingOf_L17 hs1 hσ1   fuel (0 : Int32) (0 : Int32) hr

theorem kX4_tellingOf {g : GG} {σ : SS} {a1 : Nat} {a2 : Int32} {v : Int32} {σ2 : SS} {M : MM} {F : State → Array Value → List Frame → State → Prop} {pc index : Nat} {ls : List (Nat × Value)} {rest : List Value} (hf : fX4_tellingOf σ a1 a2 = some (v, σ2)) (hs1 : shp a1 = (1, 0)) (hl : Cond.methodLink M.1.cls index yX4_tellingOf ∈ lw_gt) (hR : mX4_tellingOf.2.2.2.2.frames + 1 ≤ M.2.2.2.2.frames ∧ 8 + (mX4_tellingOf.2.2.1 + 11) + mX4_tellingOf.2.2.2.2.locals ≤ M.2.2.2.2.locals) (hrest : (rest.map fun v => v.category).sum ≤ 8) (hd : decode M.2.1 pc = .ok (.invokevirtual index, 3)) (k : WT σ2 → RR g M F zF (pc + 3) ls (.int v :: rest) σ2) : RR g M F zF pc ls (.int a2 :: .ref (ad g a1) :: .ref (ad g 58) :: rest) σ :=
  r_callV (z := zF) (N := mX4_tellingOf) (nn := 2) (o1 := some (.int v)) (sX4_tellingOf hf hs1) (rfl : shp 58 = (4, 0)) (by decide) (shp_le (rfl : shp 58 = (4, 0)) (nle rfl)) (ci := 4) rfl rfl tw_5_61 tw_1_8 hl tw_5_59 tw_5_60 ⟨by decide, by decide, rfl⟩ hR rfl hrest hd ⟨Nat.zero_le _, Nat.zero_le _⟩ rfl (fun h => k (h rfl))

theorem dX7_telling_0 : decode cX7_telling 0 = .ok (.aload_n 0, 1) := by decide +kernel
theorem dX7_telling_1 : decode cX7_telling 1 = .ok (.getfield 32, 3) := by decide +kernel
theorem dX7_telling_4 : decode cX7_telling 4 = .ok (.iload_n 1, 1) := by decide +kernel
theorem dX7_telling_5 : decode cX7_telling 5 = .ok (.invokevirtual 121, 3) := by decide +kernel
theorem dX7_telling_8 : decode cX7_telling 8 = .ok (.ifCond .eq 18, 3) := by decide +kernel
theorem dX7_telling_11 : decode cX7_telling 11 = .ok (.aload_n 0, 1) := by decide +kernel
theorem dX7_telling_12 : decode cX7_telling 12 = .ok (.getfield 69, 3) := by decide +kernel
theorem dX7_telling_15 : decode cX7_telling 15 = .ok (.aload_n 0, 1) := by decide +kernel
theorem dX7_telling_16 : decode cX7_telling 16 = .ok (.getfield 32, 3) := by decide +kernel
theorem dX7_telling_19 : decode cX7_telling 19 = .ok (.iload_n 1, 1) := by decide +kernel
theorem dX7_telling_20 : decode cX7_telling 20 = .ok (.invokevirtual 389, 3) := by decide +kernel
theorem dX7_telling_23 : decode cX7_telling 23 = .ok (.goto 6, 3) := by decide +kernel
theorem dX7_telling_26 : decode cX7_telling 26 = .ok (.ldc_w 302, 3) := by decide +kernel
theorem dX7_telling_29 : decode cX7_telling 29 = .ok (.ireturn, 1) := by decide +kernel
def mX7_telling : MM := (yX7_telling, cX7_telling, 2, Option.some Jvm.ClassFile.FieldType.int, { frames := 3, cells := 0, slots := 0, locals := 71 })
def fX7_telling (σ : SS) (a1 : Int32) : Option (Int32 × SS) :=
  if (fX1_hasQuestion σ (gR σ 1 5) a1) = true then (
    bnd (fX4_tellingOf σ (gR σ 1 5) a1) fun v1 σ4 =>
    some (v1, σ4)
    ) else (
    some ((-2147483648 : Int32), σ)
    )

set_option maxRecDepth 20000 in
theorem sX7_telling {g : GG} {σ : SS} {a1 : Int32} {r : Int32 × SS} (hr : fX7_telling σ a1 = some r)  : Ct g mX7_telling [.ref (ad g 1), .int a1] NF σ (some (.int r.1)) NF r.2 := by
  refine Ct.of (by decide +kernel) (nle rfl) fun hw0 => ?_
  have hw := hw0 rfl
  unfold fX7_telling at hr
  change RR g mX7_telling (FinR g mX7_telling (some (.int r.1)) NF r.2) zF 0 [(0, .ref (ad g 1)), (1, .int a1)] [] σ
  refine r_aload_n (pc := 0) (j := 0) dX7_telling_0 rfl rfl ?_
  refine gf7_5 (pc := 1) tw_2_114 hw dX7_telling_1 ?_
  refine r_iload_n (pc := 4) (j := 1) dX7_telling_4 rfl rfl ?_
  refine kX1_hasQuestion (pc := 5) (hf := rfl) (wt_fo hw).1 tw_3_87 ⟨nle rfl, nle rfl⟩ (nle rfl) dX7_telling_5 ?_
  refine r_ifB_eq (pc := 8) (tgt := 26) dX7_telling_8 rfl (fun hc => ?_) (fun hc => ?_)
  · replace hr := ite_f hc hr
    refine r_ldcw (pc := 26) (v := (-2147483648 : Int32)) dX7_telling_26 tw_4_134 ?_
    exact l_osi hr (r_iret (pc := 29) (v := (-2147483648 : Int32)) rfl rfl ⟨Nat.le_refl _, Nat.le_refl _⟩ dX7_telling_29)
  replace hr := ite_t hc hr
  refine r_aload_n (pc := 11) (j := 0) dX7_telling_11 rfl rfl ?_
  refine gf7_13 (pc := 12) tw_2_122 hw dX7_telling_12 ?_
  refine r_aload_n (pc := 15) (j := 0) dX7_telling_15 rfl rfl ?_
  refine gf7_5 (pc := 16) tw_2_114 hw dX7_telling_16 ?_
  refine r_iload_n (pc := 19) (j := 1) dX7_telling_19 rfl rfl ?_
  obtain ⟨v1, σ4, eσ4, hr⟩ := bnd_inv hr
  refine kX4_tellingOf (pc := 20) eσ4 (wt_fo hw).1 tw_5_58 ⟨nle rfl, nle rfl⟩ (nle rfl) dX7_telling_20 fun hσ4 => ?_
  refine r_goto (pc := 23) (tgt := 29) dX7_telling_23 rfl ?_
  exact l_osi hr (r_iret (pc := 29) (v := v1) rfl rfl ⟨Nat.le_refl _, Nat.le_refl _⟩ dX7_telling_29)

theorem kX7_telling {g : GG} {σ : SS} {a1 : Int32} {v : Int32} {σ2 : SS} {M : MM} {F : State → Array Value → List Frame → State → Prop} {pc index : Nat} {ls : List (Nat × Value)} {rest : List Value} (hf : fX7_telling σ a1 = some (v, σ2))  (hl : Cond.methodLink M.1.cls index yX7_telling ∈ lw_gt) (hR : mX7_telling.2.2.2.2.frames + 1 ≤ M.2.2.2.2.frames ∧ 8 + (mX7_telling.2.2.1 + 11) + mX7_telling.2.2.2.2.locals ≤ M.2.2.2.2.locals) (hrest : (rest.map fun v => v.category).sum ≤ 8) (hd : decode M.2.1 pc = .ok (.invokevirtual index, 3)) (k : WT σ2 → RR g M F zF (pc + 3) ls (.int v :: rest) σ2) : RR g M F zF pc ls (.int a1 :: .ref (ad g 1) :: rest) σ :=
  r_callV (z := zF) (N := mX7_telling) (nn := 1) (o1 := some (.int v)) (sX7_telling hf ) (rfl : shp 1 = (7, 0)) (by decide) (shp_le (rfl : shp 1 = (7, 0)) (nle rfl)) (ci := 7) rfl rfl tw_5_57 tw_1_1 hl tw_5_55 tw_5_56 ⟨by decide, by decide, rfl⟩ hR rfl hrest hd ⟨Nat.zero_le _, Nat.zero_le _⟩ rfl (fun h => k (h rfl))

theorem dX8_laysSorted_0 : decode cX8_laysSorted 0 = .ok (.iconst 0, 1) := by decide +kernel
theorem dX8_laysSorted_1 : decode cX8_laysSorted 1 = .ok (.istore_n 1, 1) := by decide +kernel
theorem dX8_laysSorted_2 : decode cX8_laysSorted 2 = .ok (.iload_n 1, 1) := by decide +kernel
theorem dX8_laysSorted_3 : decode cX8_laysSorted 3 = .ok (.aload_n 0, 1) := by decide +kernel
theorem dX8_laysSorted_4 : decode cX8_laysSorted 4 = .ok (.getfield 259, 3) := by decide +kernel
theorem dX8_laysSorted_7 : decode cX8_laysSorted 7 = .ok (.if_icmp .ge 65, 3) := by decide +kernel
theorem dX8_laysSorted_10 : decode cX8_laysSorted 10 = .ok (.iload_n 1, 1) := by decide +kernel
theorem dX8_laysSorted_11 : decode cX8_laysSorted 11 = .ok (.istore_n 2, 1) := by decide +kernel
theorem dX8_laysSorted_12 : decode cX8_laysSorted 12 = .ok (.iload_n 2, 1) := by decide +kernel
theorem dX8_laysSorted_13 : decode cX8_laysSorted 13 = .ok (.ifCond .le 46, 3) := by decide +kernel
theorem dX8_laysSorted_16 : decode cX8_laysSorted 16 = .ok (.aload_n 0, 1) := by decide +kernel
theorem dX8_laysSorted_17 : decode cX8_laysSorted 17 = .ok (.getfield 117, 3) := by decide +kernel
theorem dX8_laysSorted_20 : decode cX8_laysSorted 20 = .ok (.aload_n 0, 1) := by decide +kernel
theorem dX8_laysSorted_21 : decode cX8_laysSorted 21 = .ok (.getfield 129, 3) := by decide +kernel
theorem dX8_laysSorted_24 : decode cX8_laysSorted 24 = .ok (.iload_n 2, 1) := by decide +kernel
theorem dX8_laysSorted_25 : decode cX8_laysSorted 25 = .ok (.iconst 1, 1) := by decide +kernel
theorem dX8_laysSorted_26 : decode cX8_laysSorted 26 = .ok (.isub, 1) := by decide +kernel
theorem dX8_laysSorted_27 : decode cX8_laysSorted 27 = .ok (.iaload, 1) := by decide +kernel
theorem dX8_laysSorted_28 : decode cX8_laysSorted 28 = .ok (.iaload, 1) := by decide +kernel
theorem dX8_laysSorted_29 : decode cX8_laysSorted 29 = .ok (.aload_n 0, 1) := by decide +kernel
theorem dX8_laysSorted_30 : decode cX8_laysSorted 30 = .ok (.getfield 117, 3) := by decide +kernel
theorem dX8_laysSorted_33 : decode cX8_laysSorted 33 = .ok (.iload_n 1, 1) := by decide +kernel
theorem dX8_laysSorted_34 : decode cX8_laysSorted 34 = .ok (.iaload, 1) := by decide +kernel
theorem dX8_laysSorted_35 : decode cX8_laysSorted 35 = .ok (.if_icmp .ge 24, 3) := by decide +kernel
theorem dX8_laysSorted_38 : decode cX8_laysSorted 38 = .ok (.aload_n 0, 1) := by decide +kernel
theorem dX8_laysSorted_39 : decode cX8_laysSorted 39 = .ok (.getfield 129, 3) := by decide +kernel
theorem dX8_laysSorted_42 : decode cX8_laysSorted 42 = .ok (.iload_n 2, 1) := by decide +kernel
theorem dX8_laysSorted_43 : decode cX8_laysSorted 43 = .ok (.aload_n 0, 1) := by decide +kernel
theorem dX8_laysSorted_44 : decode cX8_laysSorted 44 = .ok (.getfield 129, 3) := by decide +kernel
theorem dX8_laysSorted_47 : decode cX8_laysSorted 47 = .ok (.iload_n 2, 1) := by decide +kernel
theorem dX8_laysSorted_48 : decode cX8_laysSorted 48 = .ok (.iconst 1, 1) := by decide +kernel
theorem dX8_laysSorted_49 : decode cX8_laysSorted 49 = .ok (.isub, 1) := by decide +kernel
theorem dX8_laysSorted_50 : decode cX8_laysSorted 50 = .ok (.iaload, 1) := by decide +kernel
theorem dX8_laysSorted_51 : decode cX8_laysSorted 51 = .ok (.iastore, 1) := by decide +kernel
theorem dX8_laysSorted_52 : decode cX8_laysSorted 52 = .ok (.iload_n 2, 1) := by decide +kernel
theorem dX8_laysSorted_53 : decode cX8_laysSorted 53 = .ok (.iconst 1, 1) := by decide +kernel
theorem dX8_laysSorted_54 : decode cX8_laysSorted 54 = .ok (.isub, 1) := by decide +kernel
theorem dX8_laysSorted_55 : decode cX8_laysSorted 55 = .ok (.istore_n 2, 1) := by decide +kernel
theorem dX8_laysSorted_56 : decode cX8_laysSorted 56 = .ok (.goto (-44), 3) := by decide +kernel
theorem dX8_laysSorted_59 : decode cX8_laysSorted 59 = .ok (.aload_n 0, 1) := by decide +kernel
theorem dX8_laysSorted_60 : decode cX8_laysSorted 60 = .ok (.getfield 129, 3) := by decide +kernel
theorem dX8_laysSorted_63 : decode cX8_laysSorted 63 = .ok (.iload_n 2, 1) := by decide +kernel
theorem dX8_laysSorted_64 : decode cX8_laysSorted 64 = .ok (.iload_n 1, 1) := by decide +kernel
theorem dX8_laysSorted_65 : decode cX8_laysSorted 65 = .ok (.iastore, 1) := by decide +kernel
theorem dX8_laysSorted_66 : decode cX8_laysSorted 66 = .ok (.iinc 1 1, 3) := by decide +kernel
theorem dX8_laysSorted_69 : decode cX8_laysSorted 69 = .ok (.goto (-67), 3) := by decide +kernel
theorem dX8_laysSorted_72 : decode cX8_laysSorted 72 = .ok (.return_, 1) := by decide +kernel
def mX8_laysSorted : MM := (yX8_laysSorted, cX8_laysSorted, 3, none, { frames := 0, cells := 0, slots := 0, locals := 0 })
def X8_laysSorted_L12 (u1_ : Int32) (k59 : Int32 → SS → Option SS) : Nat → Int32 → SS → Option SS :=
  lp (fun _ _ => none) fun rec v2_ σ_ =>
    if v2_ ≤ 0 then (
      k59 v2_ σ_
      ) else (
      grd (inb (v2_ - (1 : Int32)) 16) <|
      grd (inb (gI σ_ 113 (Int32.toNatClampNeg (v2_ - (1 : Int32)))) 16) <|
      grd (inb u1_ 16) <|
      if (gI σ_ 109 (Int32.toNatClampNeg u1_)) ≤ (gI σ_ 109 (Int32.toNatClampNeg (gI σ_ 113 (Int32.toNatClampNeg (v2_ - (1 : Int32)))))) then (
        k59 v2_ σ_
        ) else (
        grd (inb v2_ 16) <|
        vthen (sI σ_ 113 (Int32.toNatClampNeg v2_) (gI σ_ 113 (Int32.toNatClampNeg (v2_ - (1 : Int32))))) fun σ5 =>
        vthen (v2_ - (1 : Int32)) fun v6 =>
        rec v6 σ5
        )
      )

def X8_laysSorted_L2   : Nat → Int32 → SS → Option SS :=
  lp (fun _ _ => none) fun rec v1_ σ_ =>
    if (gI σ_ 73 65) ≤ v1_ then (
      some σ_
      ) else (
      X8_laysSorted_L12 v1_
      (fun v7 σ8 =>
        grd (inb v7 16) <|
        vthen (sI σ8 113 (Int32.toNatClampNeg v7) v1_) fun σ10 =>
        rec (v1_ + (1 : Int32)) σ10
        )
      fuel v1_ σ_
      )

def fX8_laysSorted (σ : SS)  : Option SS :=
  X8_laysSorted_L2
  fuel (0 : Int32) σ

set_option maxRecDepth 20000 in
theorem sX8_laysSorted_L12 {g : GG} {r : SS} {u1_ : Int32} {k59 : Int32 → SS → Option SS} 
    (hk59 : ∀ (y2 : Int32) (σ_ : SS), k59 y2 σ_ = some r → WT σ_ → RR g mX8_laysSorted (FinR g mX8_laysSorted none NF r) zF 59 [(0, .ref (ad g 73)), (1, .int u1_), (2, .int y2)] [] σ_)
    (n : Nat) : ∀ (v2_ : Int32) (σ_ : SS), X8_laysSorted_L12 u1_ k59 n v2_ σ_ = some r → WT σ_ → RR g mX8_laysSorted (FinR g mX8_laysSorted none NF r) zF 12 [(0, .ref (ad g 73)), (1, .int u1_), (2, .int v2_)] [] σ_ := by
  unfold X8_laysSorted_L12
  refine lp_ind (P := fun (rec : Int32 → SS → Option SS) => ∀ (v2_ : Int32) (σ_ : SS), rec v2_ σ_ = some r → WT σ_ → RR g mX8_laysSorted (FinR g mX8_laysSorted none NF r) zF 12 [(0, .ref (ad g 73)), (1, .int u1_), (2, .int v2_)] [] σ_) ?_ ?_ n
  · intro v2_ σ_ hr; cases hr
  intro rec ih v2_ σ_ hr hw_
  refine r_iload_n (pc := 12) (j := 2) dX8_laysSorted_12 rfl rfl ?_
  refine r_if_le (pc := 13) (tgt := 59) dX8_laysSorted_13 rfl (fun hc => ?_) (fun hc => ?_)
  · replace hr := ite_t hc hr
    exact r_pick (ls1 := [(0, .ref (ad g 73)), (1, .int u1_), (2, .int v2_)]) [0, 1, 2] rfl (hk59 v2_ σ_ hr hw_)
  replace hr := ite_f hc hr
  refine r_aload_n (pc := 16) (j := 0) dX8_laysSorted_16 rfl rfl ?_
  refine gf8_60 (pc := 17) tw_5_154 hw_ dX8_laysSorted_17 ?_
  refine r_aload_n (pc := 20) (j := 0) dX8_laysSorted_20 rfl rfl ?_
  refine gf8_64 (pc := 21) tw_5_158 hw_ dX8_laysSorted_21 ?_
  refine r_iload_n (pc := 24) (j := 2) dX8_laysSorted_24 rfl rfl ?_
  refine r_iconst (pc := 25) (v := (1 : Int32)) dX8_laysSorted_25 rfl ?_
  refine r_isub (pc := 26) dX8_laysSorted_26 ?_
  obtain ⟨h1, hr⟩ := grd_inv hr
  refine x_iald (pc := 27) (k := (Int32.toNatClampNeg (v2_ - (1 : Int32)))) rfl h1 rfl dX8_laysSorted_27 ?_
  obtain ⟨h2, hr⟩ := grd_inv hr
  refine x_iald (pc := 28) (k := (Int32.toNatClampNeg (gI σ_ 113 (Int32.toNatClampNeg (v2_ - (1 : Int32)))))) rfl h2 rfl dX8_laysSorted_28 ?_
  refine r_aload_n (pc := 29) (j := 0) dX8_laysSorted_29 rfl rfl ?_
  refine gf8_60 (pc := 30) tw_5_154 hw_ dX8_laysSorted_30 ?_
  refine r_iload_n (pc := 33) (j := 1) dX8_laysSorted_33 rfl rfl ?_
  obtain ⟨h3, hr⟩ := grd_inv hr
  refine x_iald (pc := 34) (k := (Int32.toNatClampNeg u1_)) rfl h3 rfl dX8_laysSorted_34 ?_
  refine r_icmp_ge (pc := 35) (tgt := 59) dX8_laysSorted_35 rfl (fun hc => ?_) (fun hc => ?_)
  · replace hr := ite_t hc hr
    exact r_pick (ls1 := [(0, .ref (ad g 73)), (1, .int u1_), (2, .int v2_)]) [0, 1, 2] rfl (hk59 v2_ σ_ hr hw_)
  replace hr := ite_f hc hr
  refine r_aload_n (pc := 38) (j := 0) dX8_laysSorted_38 rfl rfl ?_
  refine gf8_64 (pc := 39) tw_5_158 hw_ dX8_laysSorted_39 ?_
  refine r_iload_n (pc := 42) (j := 2) dX8_laysSorted_42 rfl rfl ?_
  refine r_aload_n (pc := 43) (j := 0) dX8_laysSorted_43 rfl rfl ?_
  refine gf8_64 (pc := 44) tw_5_158 hw_ dX8_laysSorted_44 ?_
  refine r_iload_n (pc := 47) (j := 2) dX8_laysSorted_47 rfl rfl ?_
  refine r_iconst (pc := 48) (v := (1 : Int32)) dX8_laysSorted_48 rfl ?_
  refine r_isub (pc := 49) dX8_laysSorted_49 ?_
  refine x_iald (pc := 50) (k := (Int32.toNatClampNeg (v2_ - (1 : Int32)))) rfl h1 rfl dX8_laysSorted_50 ?_
  obtain ⟨h4, hr⟩ := grd_inv hr
  refine x_iast (pc := 51) (j := (Int32.toNatClampNeg v2_)) rfl h4 rfl dX8_laysSorted_51 fun σ5 eσ5 => ?_
  replace hr := vthen_inv hr σ5 eσ5
  have hσ5 := wtI eσ5 hw_
  refine r_iload_n (pc := 52) (j := 2) dX8_laysSorted_52 rfl rfl ?_
  refine r_iconst (pc := 53) (v := (1 : Int32)) dX8_laysSorted_53 rfl ?_
  refine r_isub (pc := 54) dX8_laysSorted_54 ?_
  refine r_topi fun v6 ev6 => ?_
  replace hr := vthen_inv hr v6 ev6
  refine r_istore_n (pc := 55) (ls1 := [(2, .int v6), (0, .ref (ad g 73)), (1, .int u1_)]) dX8_laysSorted_55 rfl (nle rfl) rfl ?_
  refine r_goto (pc := 56) (tgt := 12) dX8_laysSorted_56 rfl ?_
  exact r_pick (ls1 := [(0, .ref (ad g 73)), (1, .int u1_), (2, .int v6)]) [1, 2, 0] rfl (ih v6 σ5 hr hσ5)

set_option maxRecDepth 20000 in
theorem sX8_laysSorted_L2 {g : GG} {r : SS}   
    (n : Nat) : ∀ (v1_ : Int32) (σ_ : SS), X8_laysSorted_L2 n v1_ σ_ = some r → WT σ_ → RR g mX8_laysSorted (FinR g mX8_laysSorted none NF r) zF 2 [(0, .ref (ad g 73)), (1, .int v1_)] [] σ_ := by
  unfold X8_laysSorted_L2
  refine lp_ind (P := fun (rec : Int32 → SS → Option SS) => ∀ (v1_ : Int32) (σ_ : SS), rec v1_ σ_ = some r → WT σ_ → RR g mX8_laysSorted (FinR g mX8_laysSorted none NF r) zF 2 [(0, .ref (ad g 73)), (1, .int v1_)] [] σ_) ?_ ?_ n
  · intro v1_ σ_ hr; cases hr
  intro rec ih v1_ σ_ hr hw_
  refine r_iload_n (pc := 2) (j := 1) dX8_laysSorted_2 rfl rfl ?_
  refine r_aload_n (pc := 3) (j := 0) dX8_laysSorted_3 rfl rfl ?_
  refine gf8_65 (pc := 4) tw_5_159 rfl dX8_laysSorted_4 ?_
  refine r_icmp_ge (pc := 7) (tgt := 72) dX8_laysSorted_7 rfl (fun hc => ?_) (fun hc => ?_)
  · replace hr := ite_t hc hr
    exact l_ov hr (r_vret (pc := 72) rfl rfl ⟨Nat.le_refl _, Nat.le_refl _⟩ dX8_laysSorted_72)
  replace hr := ite_f hc hr
  refine r_iload_n (pc := 10) (j := 1) dX8_laysSorted_10 rfl rfl ?_
  refine r_istore_n (pc := 11) (ls1 := [(2, .int v1_), (0, .ref (ad g 73)), (1, .int v1_)]) dX8_laysSorted_11 rfl (nle rfl) rfl ?_
  refine r_pick (ls1 := [(0, .ref (ad g 73)), (1, .int v1_), (2, .int v1_)]) [1, 2, 0] rfl ?_
  refine sX8_laysSorted_L12    (fun v7 σ8 hr hσ8 => ?_) fuel v1_ σ_ hr hw_
  refine r_aload_n (pc := 59) (j := 0) dX8_laysSorted_59 rfl rfl ?_
  refine gf8_64 (pc := 60) tw_5_158 hσ8 dX8_laysSorted_60 ?_
  refine r_iload_n (pc := 63) (j := 2) dX8_laysSorted_63 rfl rfl ?_
  refine r_iload_n (pc := 64) (j := 1) dX8_laysSorted_64 rfl rfl ?_
  obtain ⟨h9, hr⟩ := grd_inv hr
  refine x_iast (pc := 65) (j := (Int32.toNatClampNeg v7)) rfl h9 rfl dX8_laysSorted_65 fun σ10 eσ10 => ?_
  replace hr := vthen_inv hr σ10 eσ10
  have hσ10 := wtI eσ10 hσ8
  refine r_iinc (pc := 66) (j := 1) (v := (v1_ + (1 : Int32))) (ls1 := [(1, .int (v1_ + (1 : Int32))), (0, .ref (ad g 73)), (2, .int v7)]) dX8_laysSorted_66 rfl rfl (nle rfl) rfl ?_
  refine r_goto (pc := 69) (tgt := 2) dX8_laysSorted_69 rfl ?_
  exact r_pick (ls1 := [(0, .ref (ad g 73)), (1, .int (v1_ + (1 : Int32)))]) [1, 0] rfl (ih (v1_ + (1 : Int32)) σ10 hr hσ10)

set_option maxRecDepth 20000 in
theorem sX8_laysSorted {g : GG} {σ : SS}  {r : SS} (hr : fX8_laysSorted σ = some r)  : Ct g mX8_laysSorted [.ref (ad g 73)] NF σ none NF r := by
  refine Ct.of (by decide +kernel) (nle rfl) fun hw0 => ?_
  have hw := hw0 rfl
  unfold fX8_laysSorted at hr
  change RR g mX8_laysSorted (FinR g mX8_laysSorted none NF r) zF 0 [(0, .ref (ad g 73))] [] σ
  refine r_iconst (pc := 0) (v := (0 : Int32)) dX8_laysSorted_0 rfl ?_
  refine r_istore_n (pc := 1) (ls1 := [(1, .int (0 : Int32)), (0, .ref (ad g 73))]) dX8_laysSorted_1 rfl (nle rfl) rfl ?_
  refine r_pick (ls1 := [(0, .ref (ad g 73)), (1, .int (0 : Int32))]) [1, 0] rfl ?_
  refine sX8_laysSorted_L2     fuel (0 : Int32) σ hr hw

theorem kX8_laysSorted {g : GG} {σ : SS}  {σ2 : SS} {M : MM} {F : State → Array Value → List Frame → State → Prop} {pc index : Nat} {ls : List (Nat × Value)} {rest : List Value} (hf : fX8_laysSorted σ = some σ2)  (hl : Cond.methodLink M.1.cls index yX8_laysSorted ∈ lw_gt) (hR : mX8_laysSorted.2.2.2.2.frames + 1 ≤ M.2.2.2.2.frames ∧ 8 + (mX8_laysSorted.2.2.1 + 11) + mX8_laysSorted.2.2.2.2.locals ≤ M.2.2.2.2.locals) (hrest : (rest.map fun v => v.category).sum ≤ 8) (hd : decode M.2.1 pc = .ok (.invokevirtual index, 3)) (k : WT σ2 → RR g M F zF (pc + 3) ls rest σ2) : RR g M F zF pc ls (.ref (ad g 73) :: rest) σ :=
  r_callV (z := zF) (N := mX8_laysSorted) (nn := 0) (o1 := none) (sX8_laysSorted hf ) (rfl : shp 73 = (8, 0)) (by decide) (shp_le (rfl : shp 73 = (8, 0)) (nle rfl)) (ci := 8) rfl rfl tw_7_210 tw_1_10 hl tw_7_209 tp_85 ⟨by decide, by decide, rfl⟩ hR rfl hrest hd ⟨Nat.zero_le _, Nat.zero_le _⟩ rfl (fun h => k (h rfl))

theorem dX8_telling_0 : decode cX8_telling 0 = .ok (.aload_n 0, 1) := by decide +kernel
theorem dX8_telling_1 : decode cX8_telling 1 = .ok (.iload_n 1, 1) := by decide +kernel
theorem dX8_telling_2 : decode cX8_telling 2 = .ok (.invokevirtual 269, 3) := by decide +kernel
theorem dX8_telling_5 : decode cX8_telling 5 = .ok (.ifCond .ne 7, 3) := by decide +kernel
theorem dX8_telling_8 : decode cX8_telling 8 = .ok (.ldc_w 400, 3) := by decide +kernel
theorem dX8_telling_11 : decode cX8_telling 11 = .ok (.ireturn, 1) := by decide +kernel
theorem dX8_telling_12 : decode cX8_telling 12 = .ok (.aload_n 0, 1) := by decide +kernel
theorem dX8_telling_13 : decode cX8_telling 13 = .ok (.invokevirtual 424, 3) := by decide +kernel
theorem dX8_telling_16 : decode cX8_telling 16 = .ok (.iconst 0, 1) := by decide +kernel
theorem dX8_telling_17 : decode cX8_telling 17 = .ok (.istore_n 2, 1) := by decide +kernel
theorem dX8_telling_18 : decode cX8_telling 18 = .ok (.iconst 0, 1) := by decide +kernel
theorem dX8_telling_19 : decode cX8_telling 19 = .ok (.istore_n 3, 1) := by decide +kernel
theorem dX8_telling_20 : decode cX8_telling 20 = .ok (.iload_n 3, 1) := by decide +kernel
theorem dX8_telling_21 : decode cX8_telling 21 = .ok (.aload_n 0, 1) := by decide +kernel
theorem dX8_telling_22 : decode cX8_telling 22 = .ok (.getfield 259, 3) := by decide +kernel
theorem dX8_telling_25 : decode cX8_telling 25 = .ok (.iconst 2, 1) := by decide +kernel
theorem dX8_telling_26 : decode cX8_telling 26 = .ok (.idiv, 1) := by decide +kernel
theorem dX8_telling_27 : decode cX8_telling 27 = .ok (.if_icmp .ge 58, 3) := by decide +kernel
theorem dX8_telling_30 : decode cX8_telling 30 = .ok (.iload_n 2, 1) := by decide +kernel
theorem dX8_telling_31 : decode cX8_telling 31 = .ok (.aload_n 0, 1) := by decide +kernel
theorem dX8_telling_32 : decode cX8_telling 32 = .ok (.aload_n 0, 1) := by decide +kernel
theorem dX8_telling_33 : decode cX8_telling 33 = .ok (.getfield 129, 3) := by decide +kernel
theorem dX8_telling_36 : decode cX8_telling 36 = .ok (.iload_n 3, 1) := by decide +kernel
theorem dX8_telling_37 : decode cX8_telling 37 = .ok (.iaload, 1) := by decide +kernel
theorem dX8_telling_38 : decode cX8_telling 38 = .ok (.iload_n 1, 1) := by decide +kernel
theorem dX8_telling_39 : decode cX8_telling 39 = .ok (.invokevirtual 418, 3) := by decide +kernel
theorem dX8_telling_42 : decode cX8_telling 42 = .ok (.ifCond .eq 7, 3) := by decide +kernel
theorem dX8_telling_45 : decode cX8_telling 45 = .ok (.iconst 1, 1) := by decide +kernel
theorem dX8_telling_46 : decode cX8_telling 46 = .ok (.goto 4, 3) := by decide +kernel
theorem dX8_telling_49 : decode cX8_telling 49 = .ok (.iconst 0, 1) := by decide +kernel
theorem dX8_telling_50 : decode cX8_telling 50 = .ok (.iadd, 1) := by decide +kernel
theorem dX8_telling_51 : decode cX8_telling 51 = .ok (.aload_n 0, 1) := by decide +kernel
theorem dX8_telling_52 : decode cX8_telling 52 = .ok (.aload_n 0, 1) := by decide +kernel
theorem dX8_telling_53 : decode cX8_telling 53 = .ok (.getfield 129, 3) := by decide +kernel
theorem dX8_telling_56 : decode cX8_telling 56 = .ok (.aload_n 0, 1) := by decide +kernel
theorem dX8_telling_57 : decode cX8_telling 57 = .ok (.getfield 259, 3) := by decide +kernel
theorem dX8_telling_60 : decode cX8_telling 60 = .ok (.iconst 1, 1) := by decide +kernel
theorem dX8_telling_61 : decode cX8_telling 61 = .ok (.isub, 1) := by decide +kernel
theorem dX8_telling_62 : decode cX8_telling 62 = .ok (.iload_n 3, 1) := by decide +kernel
theorem dX8_telling_63 : decode cX8_telling 63 = .ok (.isub, 1) := by decide +kernel
theorem dX8_telling_64 : decode cX8_telling 64 = .ok (.iaload, 1) := by decide +kernel
theorem dX8_telling_65 : decode cX8_telling 65 = .ok (.iload_n 1, 1) := by decide +kernel
theorem dX8_telling_66 : decode cX8_telling 66 = .ok (.invokevirtual 418, 3) := by decide +kernel
theorem dX8_telling_69 : decode cX8_telling 69 = .ok (.ifCond .eq 7, 3) := by decide +kernel
theorem dX8_telling_72 : decode cX8_telling 72 = .ok (.iconst 1, 1) := by decide +kernel
theorem dX8_telling_73 : decode cX8_telling 73 = .ok (.goto 4, 3) := by decide +kernel
theorem dX8_telling_76 : decode cX8_telling 76 = .ok (.iconst 0, 1) := by decide +kernel
theorem dX8_telling_77 : decode cX8_telling 77 = .ok (.isub, 1) := by decide +kernel
theorem dX8_telling_78 : decode cX8_telling 78 = .ok (.istore_n 2, 1) := by decide +kernel
theorem dX8_telling_79 : decode cX8_telling 79 = .ok (.iinc 3 1, 3) := by decide +kernel
theorem dX8_telling_82 : decode cX8_telling 82 = .ok (.goto (-62), 3) := by decide +kernel
theorem dX8_telling_85 : decode cX8_telling 85 = .ok (.iload_n 2, 1) := by decide +kernel
theorem dX8_telling_86 : decode cX8_telling 86 = .ok (.ireturn, 1) := by decide +kernel
def mX8_telling : MM := (yX8_telling, cX8_telling, 4, Option.some Jvm.ClassFile.FieldType.int, { frames := 3, cells := 0, slots := 0, locals := 62 })
def X8_telling_L20 (σ_ : SS) (u1_ : Int32)  : Nat → Int32 → Int32 → Option (Int32 × SS) :=
  lp (fun _ _ => none) fun rec v2_ v3_ =>
    if ((gI σ_ 73 65) / (2 : Int32)) ≤ v3_ then (
      some (v2_, σ_)
      ) else (
      grd (inb v3_ 16) <|
      bnd1 (fX8_isRight σ_ (gI σ_ 113 (Int32.toNatClampNeg v3_)) u1_) fun b7 =>
      vthen (fun (s9 : Int32) =>
        grd (inb (((gI σ_ 73 65) - (1 : Int32)) - v3_) 16) <|
        bnd1 (fX8_isRight σ_ (gI σ_ 113 (Int32.toNatClampNeg (((gI σ_ 73 65) - (1 : Int32)) - v3_))) u1_) fun b12 =>
        if b12 = true then (
          vthen ((v2_ + s9) - (1 : Int32)) fun v15 =>
          rec v15 (v3_ + (1 : Int32))
          ) else (
          vthen ((v2_ + s9) - (0 : Int32)) fun v14 =>
          rec v14 (v3_ + (1 : Int32))
          )
        ) fun j50 =>
      if b7 = true then (
        j50 (1 : Int32)
        ) else (
        j50 (0 : Int32)
        )
      )

def fX8_telling (σ : SS) (a1 : Int32) : Option (Int32 × SS) :=
  bnd1 (fX8_isQuestion σ a1) fun b2 =>
  if b2 = true then (
    bnd1 (fX8_laysSorted σ) fun σ4 =>
    X8_telling_L20 σ4 a1
    fuel (0 : Int32) (0 : Int32)
    ) else (
    some ((-2147483648 : Int32), σ)
    )

set_option maxRecDepth 20000 in
theorem sX8_telling_L20 {g : GG} {r : Int32 × SS} {σ_ : SS} {u1_ : Int32}  
    (hw_ : WT σ_)
    (n : Nat) : ∀ (v2_ : Int32) (v3_ : Int32), X8_telling_L20 σ_ u1_ n v2_ v3_ = some r → RR g mX8_telling (FinR g mX8_telling (some (.int r.1)) NF r.2) zF 20 [(0, .ref (ad g 73)), (1, .int u1_), (2, .int v2_), (3, .int v3_)] [] σ_ := by
  unfold X8_telling_L20
  refine lp_ind (P := fun (rec : Int32 → Int32 → Option (Int32 × SS)) => ∀ (v2_ : Int32) (v3_ : Int32), rec v2_ v3_ = some r → RR g mX8_telling (FinR g mX8_telling (some (.int r.1)) NF r.2) zF 20 [(0, .ref (ad g 73)), (1, .int u1_), (2, .int v2_), (3, .int v3_)] [] σ_) ?_ ?_ n
  · intro v2_ v3_ hr; cases hr
  intro rec ih v2_ v3_ hr
  refine r_iload_n (pc := 20) (j := 3) dX8_telling_20 rfl rfl ?_
  refine r_aload_n (pc := 21) (j := 0) dX8_telling_21 rfl rfl ?_
  refine gf8_65 (pc := 22) tw_5_159 rfl dX8_telling_22 ?_
  refine r_iconst (pc := 25) (v := (2 : Int32)) dX8_telling_25 rfl ?_
  refine r_idiv (pc := 26) dX8_telling_26 (by decide) ?_
  refine r_icmp_ge (pc := 27) (tgt := 85) dX8_telling_27 rfl (fun hc => ?_) (fun hc => ?_)
  · replace hr := ite_t hc hr
    refine r_iload_n (pc := 85) (j := 2) dX8_telling_85 rfl rfl ?_
    exact l_osi hr (r_iret (pc := 86) (v := v2_) rfl rfl ⟨Nat.le_refl _, Nat.le_refl _⟩ dX8_telling_86)
  replace hr := ite_f hc hr
  refine r_iload_n (pc := 30) (j := 2) dX8_telling_30 rfl rfl ?_
  refine r_aload_n (pc := 31) (j := 0) dX8_telling_31 rfl rfl ?_
  refine r_aload_n (pc := 32) (j := 0) dX8_telling_32 rfl rfl ?_
  refine gf8_64 (pc := 33) tw_5_158 hw_ dX8_telling_33 ?_
  refine r_iload_n (pc := 36) (j := 3) dX8_telling_36 rfl rfl ?_
  obtain ⟨h5, hr⟩ := grd_inv hr
  refine x_iald (pc := 37) (k := (Int32.toNatClampNeg v3_)) rfl h5 rfl dX8_telling_37 ?_
  refine r_iload_n (pc := 38) (j := 1) dX8_telling_38 rfl rfl ?_
  obtain ⟨b7, hb7, hr⟩ := bnd1_inv hr
  refine kX8_isRight (pc := 39) hb7 tw_7_191 ⟨nle rfl, nle rfl⟩ (nle rfl) dX8_telling_39 ?_
  obtain ⟨j50, ej50, hr⟩ := vth_ex hr
  have hj50 : ∀ (s9 : Int32), j50 s9 = some r → RR g mX8_telling (FinR g mX8_telling (some (.int r.1)) NF r.2) zF 50 [(0, .ref (ad g 73)), (1, .int u1_), (3, .int v3_)] [.int s9, .int v2_] σ_ := by
    intro s9 hr
    replace hr := (congrFun ej50 s9).symm.trans hr
    refine r_iadd (pc := 50) dX8_telling_50 ?_
    refine r_aload_n (pc := 51) (j := 0) dX8_telling_51 rfl rfl ?_
    refine r_aload_n (pc := 52) (j := 0) dX8_telling_52 rfl rfl ?_
    refine gf8_64 (pc := 53) tw_5_158 hw_ dX8_telling_53 ?_
    refine r_aload_n (pc := 56) (j := 0) dX8_telling_56 rfl rfl ?_
    refine gf8_65 (pc := 57) tw_5_159 rfl dX8_telling_57 ?_
    refine r_iconst (pc := 60) (v := (1 : Int32)) dX8_telling_60 rfl ?_
    refine r_isub (pc := 61) dX8_telling_61 ?_
    refine r_iload_n (pc := 62) (j := 2) dX8_telling_62 rfl rfl ?_
    refine r_isub (pc := 63) dX8_telling_63 ?_
    obtain ⟨h10, hr⟩ := grd_inv hr
    refine x_iald (pc := 64) (k := (Int32.toNatClampNeg (((gI σ_ 73 65) - (1 : Int32)) - v3_))) rfl h10 rfl dX8_telling_64 ?_
    refine r_iload_n (pc := 65) (j := 1) dX8_telling_65 rfl rfl ?_
    obtain ⟨b12, hb12, hr⟩ := bnd1_inv hr
    refine kX8_isRight (pc := 66) hb12 tw_7_191 ⟨nle rfl, nle rfl⟩ (nle rfl) dX8_telling_66 ?_
    refine r_ifB_eq (pc := 69) (tgt := 76) dX8_telling_69 rfl (fun hc => ?_) (fun hc => ?_)
    · replace hr := ite_f hc hr
      refine r_iconst (pc := 76) (v := (0 : Int32)) dX8_telling_76 rfl ?_
      refine r_isub (pc := 77) dX8_telling_77 ?_
      refine r_topi fun v14 ev14 => ?_
      replace hr := vthen_inv hr v14 ev14
      refine r_istore_n (pc := 78) (ls1 := [(2, .int v14), (0, .ref (ad g 73)), (1, .int u1_), (3, .int v3_)]) dX8_telling_78 rfl (nle rfl) rfl ?_
      refine r_iinc (pc := 79) (j := 3) (v := (v3_ + (1 : Int32))) (ls1 := [(3, .int (v3_ + (1 : Int32))), (2, .int v14), (0, .ref (ad g 73)), (1, .int u1_)]) dX8_telling_79 rfl rfl (nle rfl) rfl ?_
      refine r_goto (pc := 82) (tgt := 20) dX8_telling_82 rfl ?_
      exact r_pick (ls1 := [(0, .ref (ad g 73)), (1, .int u1_), (2, .int v14), (3, .int (v3_ + (1 : Int32)))]) [2, 3, 1, 0] rfl (ih v14 (v3_ + (1 : Int32)) hr)
    replace hr := ite_t hc hr
    refine r_iconst (pc := 72) (v := (1 : Int32)) dX8_telling_72 rfl ?_
    refine r_goto (pc := 73) (tgt := 77) dX8_telling_73 rfl ?_
    refine r_isub (pc := 77) dX8_telling_77 ?_
    refine r_topi fun v15 ev15 => ?_
    replace hr := vthen_inv hr v15 ev15
    refine r_istore_n (pc := 78) (ls1 := [(2, .int v15), (0, .ref (ad g 73)), (1, .int u1_), (3, .int v3_)]) dX8_telling_78 rfl (nle rfl) rfl ?_
    refine r_iinc (pc := 79) (j := 3) (v := (v3_ + (1 : Int32))) (ls1 := [(3, .int (v3_ + (1 : Int32))), (2, .int v15), (0, .ref (ad g 73)), (1, .int u1_)]) dX8_telling_79 rfl rfl (nle rfl) rfl ?_
    refine r_goto (pc := 82) (tgt := 20) dX8_telling_82 rfl ?_
    exact r_pick (ls1 := [(0, .ref (ad g 73)), (1, .int u1_), (2, .int v15), (3, .int (v3_ + (1 : Int32)))]) [2, 3, 1, 0] rfl (ih v15 (v3_ + (1 : Int32)) hr)
  refine r_ifB_eq (pc := 42) (tgt := 49) dX8_telling_42 rfl (fun hc => ?_) (fun hc => ?_)
  · replace hr := ite_f hc hr
    refine r_iconst (pc := 49) (v := (0 : Int32)) dX8_telling_49 rfl ?_
    exact r_pick (ls1 := [(0, .ref (ad g 73)), (1, .int u1_), (3, .int v3_)]) [0, 1, 3] rfl (hj50 (0 : Int32) hr)
  replace hr := ite_t hc hr
  refine r_iconst (pc := 45) (v := (1 : Int32)) dX8_telling_45 rfl ?_
  refine r_goto (pc := 46) (tgt := 50) dX8_telling_46 rfl ?_
  exact r_pick (ls1 := [(0, .ref (ad g 73)), (1, .int u1_), (3, .int v3_)]) [0, 1, 3] rfl (hj50 (1 : Int32) hr)

set_option maxRecDepth 20000 in
theorem sX8_telling {g : GG} {σ : SS} {a1 : Int32} {r : Int32 × SS} (hr : fX8_telling σ a1 = some r)  : Ct g mX8_telling [.ref (ad g 73), .int a1] NF σ (some (.int r.1)) NF r.2 := by
  refine Ct.of (by decide +kernel) (nle rfl) fun hw0 => ?_
  have hw := hw0 rfl
  unfold fX8_telling at hr
  change RR g mX8_telling (FinR g mX8_telling (some (.int r.1)) NF r.2) zF 0 [(0, .ref (ad g 73)), (1, .int a1)] [] σ
  refine r_aload_n (pc := 0) (j := 0) dX8_telling_0 rfl rfl ?_
  refine r_iload_n (pc := 1) (j := 1) dX8_telling_1 rfl rfl ?_
  obtain ⟨b2, hb2, hr⟩ := bnd1_inv hr
  refine kX8_isQuestion (pc := 2) hb2 tw_6_141 ⟨nle rfl, nle rfl⟩ (nle rfl) dX8_telling_2 ?_
  refine r_ifB_ne (pc := 5) (tgt := 12) dX8_telling_5 rfl (fun hc => ?_) (fun hc => ?_)
  · replace hr := ite_t hc hr
    refine r_aload_n (pc := 12) (j := 0) dX8_telling_12 rfl rfl ?_
    obtain ⟨σ4, eσ4, hr⟩ := bnd1_inv hr
    refine kX8_laysSorted (pc := 13) eσ4 tw_7_207 ⟨nle rfl, nle rfl⟩ (nle rfl) dX8_telling_13 fun hσ4 => ?_
    refine r_iconst (pc := 16) (v := (0 : Int32)) dX8_telling_16 rfl ?_
    refine r_istore_n (pc := 17) (ls1 := [(2, .int (0 : Int32)), (0, .ref (ad g 73)), (1, .int a1)]) dX8_telling_17 rfl (nle rfl) rfl ?_
    refine r_iconst (pc := 18) (v := (0 : Int32)) dX8_telling_18 rfl ?_
    refine r_istore_n (pc := 19) (ls1 := [(3, .int (0 : Int32)), (2, .int (0 : Int32)), (0, .ref (ad g 73)), (1, .int a1)]) dX8_telling_19 rfl (nle rfl) rfl ?_
    refine r_pick (ls1 := [(0, .ref (ad g 73)), (1, .int a1), (2, .int (0 : Int32)), (3, .int (0 : Int32))]) [2, 3, 1, 0] rfl ?_
    refine sX8_telling_L20  hσ4   fuel (0 : Int32) (0 : Int32) hr
  replace hr := ite_f hc hr
  refine r_ldcw (pc := 8) (v := (-2147483648 : Int32)) dX8_telling_8 tw_7_106 ?_
  exact l_osi hr (r_iret (pc := 11) (v := (-2147483648 : Int32)) rfl rfl ⟨Nat.le_refl _, Nat.le_refl _⟩ dX8_telling_11)

theorem kX8_telling {g : GG} {σ : SS} {a1 : Int32} {v : Int32} {σ2 : SS} {M : MM} {F : State → Array Value → List Frame → State → Prop} {pc index : Nat} {ls : List (Nat × Value)} {rest : List Value} (hf : fX8_telling σ a1 = some (v, σ2))  (hl : Cond.methodLink M.1.cls index yX8_telling ∈ lw_gt) (hR : mX8_telling.2.2.2.2.frames + 1 ≤ M.2.2.2.2.frames ∧ 8 + (mX8_telling.2.2.1 + 11) + mX8_telling.2.2.2.2.locals ≤ M.2.2.2.2.locals) (hrest : (rest.map fun v => v.category).sum ≤ 8) (hd : decode M.2.1 pc = .ok (.invokevirtual index, 3)) (k : WT σ2 → RR g M F zF (pc + 3) ls (.int v :: rest) σ2) : RR g M F zF pc ls (.int a1 :: .ref (ad g 73) :: rest) σ :=
  r_callV (z := zF) (N := mX8_telling) (nn := 1) (o1 := some (.int v)) (sX8_telling hf ) (rfl : shp 73 = (8, 0)) (by decide) (shp_le (rfl : shp 73 = (8, 0)) (nle rfl)) (ci := 8) rfl rfl tw_7_206 tw_1_10 hl tw_7_204 tw_7_205 ⟨by decide, by decide, rfl⟩ hR rfl hrest hd ⟨Nat.zero_le _, Nat.zero_le _⟩ rfl (fun h => k (h rfl))

theorem dX4_allGains_0 : decode cX4_allGains 0 = .ok (.iconst 0, 1) := by decide +kernel
theorem dX4_allGains_1 : decode cX4_allGains 1 = .ok (.istore_n 1, 1) := by decide +kernel
theorem dX4_allGains_2 : decode cX4_allGains 2 = .ok (.iconst 0, 1) := by decide +kernel
theorem dX4_allGains_3 : decode cX4_allGains 3 = .ok (.istore_n 2, 1) := by decide +kernel
theorem dX4_allGains_4 : decode cX4_allGains 4 = .ok (.iload_n 2, 1) := by decide +kernel
theorem dX4_allGains_5 : decode cX4_allGains 5 = .ok (.aload_n 0, 1) := by decide +kernel
theorem dX4_allGains_6 : decode cX4_allGains 6 = .ok (.getfield 27, 3) := by decide +kernel
theorem dX4_allGains_9 : decode cX4_allGains 9 = .ok (.if_icmp .ge 18, 3) := by decide +kernel
theorem dX4_allGains_12 : decode cX4_allGains 12 = .ok (.iload_n 1, 1) := by decide +kernel
theorem dX4_allGains_13 : decode cX4_allGains 13 = .ok (.aload_n 0, 1) := by decide +kernel
theorem dX4_allGains_14 : decode cX4_allGains 14 = .ok (.getfield 9, 3) := by decide +kernel
theorem dX4_allGains_17 : decode cX4_allGains 17 = .ok (.iload_n 2, 1) := by decide +kernel
theorem dX4_allGains_18 : decode cX4_allGains 18 = .ok (.iaload, 1) := by decide +kernel
theorem dX4_allGains_19 : decode cX4_allGains 19 = .ok (.iadd, 1) := by decide +kernel
theorem dX4_allGains_20 : decode cX4_allGains 20 = .ok (.istore_n 1, 1) := by decide +kernel
theorem dX4_allGains_21 : decode cX4_allGains 21 = .ok (.iinc 2 1, 3) := by decide +kernel
theorem dX4_allGains_24 : decode cX4_allGains 24 = .ok (.goto (-20), 3) := by decide +kernel
theorem dX4_allGains_27 : decode cX4_allGains 27 = .ok (.iload_n 1, 1) := by decide +kernel
theorem dX4_allGains_28 : decode cX4_allGains 28 = .ok (.ireturn, 1) := by decide +kernel
def mX4_allGains : MM := (yX4_allGains, cX4_allGains, 3, Option.some Jvm.ClassFile.FieldType.int, { frames := 0, cells := 0, slots := 0, locals := 0 })
def X4_allGains_L4 (σ_ : SS)   : Nat → Int32 → Int32 → Option Int32 :=
  lp (fun _ _ => none) fun rec v1_ v2_ =>
    if (gI σ_ 58 0) ≤ v2_ then (
      some v1_
      ) else (
      grd (inb v2_ 16) <|
      vthen (v1_ + (gI σ_ 59 (Int32.toNatClampNeg v2_))) fun v2 =>
      rec v2 (v2_ + (1 : Int32))
      )

def fX4_allGains (σ0 : SS)  : Option Int32 :=
  X4_allGains_L4 σ0
  fuel (0 : Int32) (0 : Int32)

set_option maxRecDepth 20000 in
theorem sX4_allGains_L4 {g : GG} {r : Int32} {σ_ : SS} {σ0 : SS}   
    (hw_ : WT σ_)
    (h0_ : σ_ = σ0)
    (n : Nat) : ∀ (v1_ : Int32) (v2_ : Int32), X4_allGains_L4 σ_ n v1_ v2_ = some r → RR g mX4_allGains (FinR g mX4_allGains (some (.int r)) NF σ0) zF 4 [(0, .ref (ad g 58)), (1, .int v1_), (2, .int v2_)] [] σ_ := by
  unfold X4_allGains_L4
  refine lp_ind (P := fun (rec : Int32 → Int32 → Option Int32) => ∀ (v1_ : Int32) (v2_ : Int32), rec v1_ v2_ = some r → RR g mX4_allGains (FinR g mX4_allGains (some (.int r)) NF σ0) zF 4 [(0, .ref (ad g 58)), (1, .int v1_), (2, .int v2_)] [] σ_) ?_ ?_ n
  · intro v1_ v2_ hr; cases hr
  intro rec ih v1_ v2_ hr
  subst h0_
  refine r_iload_n (pc := 4) (j := 2) dX4_allGains_4 rfl rfl ?_
  refine r_aload_n (pc := 5) (j := 0) dX4_allGains_5 rfl rfl ?_
  refine gf4_0 (pc := 6) tw_2_78 rfl dX4_allGains_6 ?_
  refine r_icmp_ge (pc := 9) (tgt := 27) dX4_allGains_9 rfl (fun hc => ?_) (fun hc => ?_)
  · replace hr := ite_t hc hr
    refine r_iload_n (pc := 27) (j := 1) dX4_allGains_27 rfl rfl ?_
    exact l_opi hr (r_iret (pc := 28) (v := v1_) rfl rfl ⟨Nat.le_refl _, Nat.le_refl _⟩ dX4_allGains_28)
  replace hr := ite_f hc hr
  refine r_iload_n (pc := 12) (j := 1) dX4_allGains_12 rfl rfl ?_
  refine r_aload_n (pc := 13) (j := 0) dX4_allGains_13 rfl rfl ?_
  refine gf4_1 (pc := 14) tw_2_80 hw_ dX4_allGains_14 ?_
  refine r_iload_n (pc := 17) (j := 2) dX4_allGains_17 rfl rfl ?_
  obtain ⟨h1, hr⟩ := grd_inv hr
  refine x_iald (pc := 18) (k := (Int32.toNatClampNeg v2_)) rfl h1 rfl dX4_allGains_18 ?_
  refine r_iadd (pc := 19) dX4_allGains_19 ?_
  refine r_topi fun v2 ev2 => ?_
  replace hr := vthen_inv hr v2 ev2
  refine r_istore_n (pc := 20) (ls1 := [(1, .int v2), (0, .ref (ad g 58)), (2, .int v2_)]) dX4_allGains_20 rfl (nle rfl) rfl ?_
  refine r_iinc (pc := 21) (j := 2) (v := (v2_ + (1 : Int32))) (ls1 := [(2, .int (v2_ + (1 : Int32))), (1, .int v2), (0, .ref (ad g 58))]) dX4_allGains_21 rfl rfl (nle rfl) rfl ?_
  refine r_goto (pc := 24) (tgt := 4) dX4_allGains_24 rfl ?_
  exact r_pick (ls1 := [(0, .ref (ad g 58)), (1, .int v2), (2, .int (v2_ + (1 : Int32)))]) [2, 1, 0] rfl (ih v2 (v2_ + (1 : Int32)) hr)

set_option maxRecDepth 20000 in
theorem sX4_allGains {g : GG} {σ0 : SS}  {r : Int32} (hr : fX4_allGains σ0 = some r)  : Ct g mX4_allGains [.ref (ad g 58)] NF σ0 (some (.int r)) NF σ0 := by
  refine Ct.of (by decide +kernel) (nle rfl) fun hw0 => ?_
  have hw := hw0 rfl
  unfold fX4_allGains at hr
  change RR g mX4_allGains (FinR g mX4_allGains (some (.int r)) NF σ0) zF 0 [(0, .ref (ad g 58))] [] σ0
  refine r_iconst (pc := 0) (v := (0 : Int32)) dX4_allGains_0 rfl ?_
  refine r_istore_n (pc := 1) (ls1 := [(1, .int (0 : Int32)), (0, .ref (ad g 58))]) dX4_allGains_1 rfl (nle rfl) rfl ?_
  refine r_iconst (pc := 2) (v := (0 : Int32)) dX4_allGains_2 rfl ?_
  refine r_istore_n (pc := 3) (ls1 := [(2, .int (0 : Int32)), (1, .int (0 : Int32)), (0, .ref (ad g 58))]) dX4_allGains_3 rfl (nle rfl) rfl ?_
  refine r_pick (ls1 := [(0, .ref (ad g 58)), (1, .int (0 : Int32)), (2, .int (0 : Int32))]) [2, 1, 0] rfl ?_
  refine sX4_allGains_L4  hw rfl  fuel (0 : Int32) (0 : Int32) hr

theorem kX4_allGains {g : GG} {σ0 : SS}  {v : Int32} {M : MM} {F : State → Array Value → List Frame → State → Prop} {pc index : Nat} {ls : List (Nat × Value)} {rest : List Value} (hf : fX4_allGains σ0 = some v)  (hl : Cond.methodLink M.1.cls index yX4_allGains ∈ lw_gt) (hR : mX4_allGains.2.2.2.2.frames + 1 ≤ M.2.2.2.2.frames ∧ 8 + (mX4_allGains.2.2.1 + 11) + mX4_allGains.2.2.2.2.locals ≤ M.2.2.2.2.locals) (hrest : (rest.map fun v => v.category).sum ≤ 8) (hd : decode M.2.1 pc = .ok (.invokevirtual index, 3)) (k : RR g M F zF (pc + 3) ls (.int v :: rest) σ0) : RR g M F zF pc ls (.ref (ad g 58) :: rest) σ0 :=
  r_callV (z := zF) (N := mX4_allGains) (nn := 0) (o1 := some (.int v)) (sX4_allGains hf ) (rfl : shp 58 = (4, 0)) (by decide) (shp_le (rfl : shp 58 = (4, 0)) (nle rfl)) (ci := 4) rfl rfl tw_5_74 tw_1_8 hl tw_5_72 tw_5_73 ⟨by decide, by decide, rfl⟩ hR rfl hrest hd ⟨Nat.zero_le _, Nat.zero_le _⟩ rfl (fun h => k)

theorem dX7_points_0 : decode cX7_points 0 = .ok (.aload_n 0, 1) := by decide +kernel
theorem dX7_points_1 : decode cX7_points 1 = .ok (.getfield 69, 3) := by decide +kernel
theorem dX7_points_4 : decode cX7_points 4 = .ok (.getfield 94, 3) := by decide +kernel
theorem dX7_points_7 : decode cX7_points 7 = .ok (.ifCond .eq 12, 3) := by decide +kernel
theorem dX7_points_10 : decode cX7_points 10 = .ok (.iload_n 1, 1) := by decide +kernel
theorem dX7_points_11 : decode cX7_points 11 = .ok (.ifCond .lt 8, 3) := by decide +kernel
theorem dX7_points_14 : decode cX7_points 14 = .ok (.iload_n 1, 1) := by decide +kernel
theorem dX7_points_15 : decode cX7_points 15 = .ok (.iconst 3, 1) := by decide +kernel
theorem dX7_points_16 : decode cX7_points 16 = .ok (.if_icmp .le 7, 3) := by decide +kernel
theorem dX7_points_19 : decode cX7_points 19 = .ok (.ldc_w 302, 3) := by decide +kernel
theorem dX7_points_22 : decode cX7_points 22 = .ok (.ireturn, 1) := by decide +kernel
theorem dX7_points_23 : decode cX7_points 23 = .ok (.aload_n 0, 1) := by decide +kernel
theorem dX7_points_24 : decode cX7_points 24 = .ok (.getfield 69, 3) := by decide +kernel
theorem dX7_points_27 : decode cX7_points 27 = .ok (.invokevirtual 392, 3) := by decide +kernel
theorem dX7_points_30 : decode cX7_points 30 = .ok (.iload_n 1, 1) := by decide +kernel
theorem dX7_points_31 : decode cX7_points 31 = .ok (.tableswitch 77 0 2 #[25, 33, 51], 25) := by decide +kernel
theorem dX7_points_56 : decode cX7_points 56 = .ok (.aload_n 0, 1) := by decide +kernel
theorem dX7_points_57 : decode cX7_points 57 = .ok (.getfield 69, 3) := by decide +kernel
theorem dX7_points_60 : decode cX7_points 60 = .ok (.invokevirtual 395, 3) := by decide +kernel
theorem dX7_points_63 : decode cX7_points 63 = .ok (.ireturn, 1) := by decide +kernel
theorem dX7_points_64 : decode cX7_points 64 = .ok (.aload_n 0, 1) := by decide +kernel
theorem dX7_points_65 : decode cX7_points 65 = .ok (.getfield 69, 3) := by decide +kernel
theorem dX7_points_68 : decode cX7_points 68 = .ok (.getfield 367, 3) := by decide +kernel
theorem dX7_points_71 : decode cX7_points 71 = .ok (.aload_n 0, 1) := by decide +kernel
theorem dX7_points_72 : decode cX7_points 72 = .ok (.getfield 69, 3) := by decide +kernel
theorem dX7_points_75 : decode cX7_points 75 = .ok (.getfield 397, 3) := by decide +kernel
theorem dX7_points_78 : decode cX7_points 78 = .ok (.iconst 0, 1) := by decide +kernel
theorem dX7_points_79 : decode cX7_points 79 = .ok (.iaload, 1) := by decide +kernel
theorem dX7_points_80 : decode cX7_points 80 = .ok (.iaload, 1) := by decide +kernel
theorem dX7_points_81 : decode cX7_points 81 = .ok (.ireturn, 1) := by decide +kernel
theorem dX7_points_82 : decode cX7_points 82 = .ok (.aload_n 0, 1) := by decide +kernel
theorem dX7_points_83 : decode cX7_points 83 = .ok (.getfield 69, 3) := by decide +kernel
theorem dX7_points_86 : decode cX7_points 86 = .ok (.getfield 367, 3) := by decide +kernel
theorem dX7_points_89 : decode cX7_points 89 = .ok (.aload_n 0, 1) := by decide +kernel
theorem dX7_points_90 : decode cX7_points 90 = .ok (.getfield 69, 3) := by decide +kernel
theorem dX7_points_93 : decode cX7_points 93 = .ok (.getfield 397, 3) := by decide +kernel
theorem dX7_points_96 : decode cX7_points 96 = .ok (.aload_n 0, 1) := by decide +kernel
theorem dX7_points_97 : decode cX7_points 97 = .ok (.getfield 69, 3) := by decide +kernel
theorem dX7_points_100 : decode cX7_points 100 = .ok (.getfield 94, 3) := by decide +kernel
theorem dX7_points_103 : decode cX7_points 103 = .ok (.iconst 1, 1) := by decide +kernel
theorem dX7_points_104 : decode cX7_points 104 = .ok (.isub, 1) := by decide +kernel
theorem dX7_points_105 : decode cX7_points 105 = .ok (.iaload, 1) := by decide +kernel
theorem dX7_points_106 : decode cX7_points 106 = .ok (.iaload, 1) := by decide +kernel
theorem dX7_points_107 : decode cX7_points 107 = .ok (.ireturn, 1) := by decide +kernel
theorem dX7_points_108 : decode cX7_points 108 = .ok (.aload_n 0, 1) := by decide +kernel
theorem dX7_points_109 : decode cX7_points 109 = .ok (.getfield 69, 3) := by decide +kernel
theorem dX7_points_112 : decode cX7_points 112 = .ok (.getfield 367, 3) := by decide +kernel
theorem dX7_points_115 : decode cX7_points 115 = .ok (.aload_n 0, 1) := by decide +kernel
theorem dX7_points_116 : decode cX7_points 116 = .ok (.getfield 69, 3) := by decide +kernel
theorem dX7_points_119 : decode cX7_points 119 = .ok (.getfield 397, 3) := by decide +kernel
theorem dX7_points_122 : decode cX7_points 122 = .ok (.aload_n 0, 1) := by decide +kernel
theorem dX7_points_123 : decode cX7_points 123 = .ok (.getfield 69, 3) := by decide +kernel
theorem dX7_points_126 : decode cX7_points 126 = .ok (.getfield 94, 3) := by decide +kernel
theorem dX7_points_129 : decode cX7_points 129 = .ok (.iconst 2, 1) := by decide +kernel
theorem dX7_points_130 : decode cX7_points 130 = .ok (.idiv, 1) := by decide +kernel
theorem dX7_points_131 : decode cX7_points 131 = .ok (.iaload, 1) := by decide +kernel
theorem dX7_points_132 : decode cX7_points 132 = .ok (.iaload, 1) := by decide +kernel
theorem dX7_points_133 : decode cX7_points 133 = .ok (.ireturn, 1) := by decide +kernel
def mX7_points : MM := (yX7_points, cX7_points, 2, Option.some Jvm.ClassFile.FieldType.int, { frames := 1, cells := 0, slots := 0, locals := 22 })
def fX7_points (σ : SS) (a1 : Int32) : Option (Int32 × SS) :=
  if (gI σ 58 0) = 0 then (
    some ((-2147483648 : Int32), σ)
    ) else (
    if a1 < 0 then (
      some ((-2147483648 : Int32), σ)
      ) else (
      if a1 ≤ (3 : Int32) then (
        bnd1 (fX4_sort σ) fun σ1 =>
        if a1 = (0 : Int32) then (
          bnd1 (fX4_allGains σ1) fun v2 =>
          some (v2, σ1)
          ) else
        if a1 = (1 : Int32) then (
          grd (inb (gI σ1 63 0) 16) <|
          some ((gI σ1 59 (Int32.toNatClampNeg (gI σ1 63 0))), σ1)
          ) else
        if a1 = (2 : Int32) then (
          grd (inb ((gI σ1 58 0) - (1 : Int32)) 16) <|
          grd (inb (gI σ1 63 (Int32.toNatClampNeg ((gI σ1 58 0) - (1 : Int32)))) 16) <|
          some ((gI σ1 59 (Int32.toNatClampNeg (gI σ1 63 (Int32.toNatClampNeg ((gI σ1 58 0) - (1 : Int32)))))), σ1)
          ) else
        grd (inb ((gI σ1 58 0) / (2 : Int32)) 16) <|
        grd (inb (gI σ1 63 (Int32.toNatClampNeg ((gI σ1 58 0) / (2 : Int32)))) 16) <|
        some ((gI σ1 59 (Int32.toNatClampNeg (gI σ1 63 (Int32.toNatClampNeg ((gI σ1 58 0) / (2 : Int32)))))), σ1)
        ) else (
        some ((-2147483648 : Int32), σ)
        )
      )
    )

set_option maxRecDepth 20000 in
theorem sX7_points {g : GG} {σ : SS} {a1 : Int32} {r : Int32 × SS} (hr : fX7_points σ a1 = some r)  : Ct g mX7_points [.ref (ad g 1), .int a1] NF σ (some (.int r.1)) NF r.2 := by
  refine Ct.of (by decide +kernel) (nle rfl) fun hw0 => ?_
  have hw := hw0 rfl
  unfold fX7_points at hr
  change RR g mX7_points (FinR g mX7_points (some (.int r.1)) NF r.2) zF 0 [(0, .ref (ad g 1)), (1, .int a1)] [] σ
  refine r_aload_n (pc := 0) (j := 0) dX7_points_0 rfl rfl ?_
  refine gf7_13 (pc := 1) tw_2_122 hw dX7_points_1 ?_
  refine gf4_0 (pc := 4) tw_2_79 rfl dX7_points_4 ?_
  refine r_if_eq (pc := 7) (tgt := 19) dX7_points_7 rfl (fun hc => ?_) (fun hc => ?_)
  · replace hr := ite_t hc hr
    refine r_ldcw (pc := 19) (v := (-2147483648 : Int32)) dX7_points_19 tw_4_134 ?_
    exact l_osi hr (r_iret (pc := 22) (v := (-2147483648 : Int32)) rfl rfl ⟨Nat.le_refl _, Nat.le_refl _⟩ dX7_points_22)
  replace hr := ite_f hc hr
  refine r_iload_n (pc := 10) (j := 1) dX7_points_10 rfl rfl ?_
  refine r_if_lt (pc := 11) (tgt := 19) dX7_points_11 rfl (fun hc => ?_) (fun hc => ?_)
  · replace hr := ite_t hc hr
    refine r_ldcw (pc := 19) (v := (-2147483648 : Int32)) dX7_points_19 tw_4_134 ?_
    exact l_osi hr (r_iret (pc := 22) (v := (-2147483648 : Int32)) rfl rfl ⟨Nat.le_refl _, Nat.le_refl _⟩ dX7_points_22)
  replace hr := ite_f hc hr
  refine r_iload_n (pc := 14) (j := 1) dX7_points_14 rfl rfl ?_
  refine r_iconst (pc := 15) (v := (3 : Int32)) dX7_points_15 rfl ?_
  refine r_icmp_le (pc := 16) (tgt := 23) dX7_points_16 rfl (fun hc => ?_) (fun hc => ?_)
  · replace hr := ite_t hc hr
    refine r_aload_n (pc := 23) (j := 0) dX7_points_23 rfl rfl ?_
    refine gf7_13 (pc := 24) tw_2_122 hw dX7_points_24 ?_
    obtain ⟨σ1, eσ1, hr⟩ := bnd1_inv hr
    refine kX4_sort (pc := 27) eσ1 tw_5_70 ⟨nle rfl, nle rfl⟩ (nle rfl) dX7_points_27 fun hσ1 => ?_
    refine r_iload_n (pc := 30) (j := 1) dX7_points_30 rfl rfl ?_
    by_cases hc0 : a1 = (0 : Int32)
    · replace hr := ite_t hc0 hr
      refine r_tabIn (pc := 31) (off := 25) (tgt := 56) dX7_points_31 (by rw [hc0]; decide) (by rw [hc0]; decide) (by rw [hc0]; rfl) rfl ?_
      refine r_aload_n (pc := 56) (j := 0) dX7_points_56 rfl rfl ?_
      refine gf7_13 (pc := 57) tw_2_122 hσ1 dX7_points_57 ?_
      obtain ⟨v2, hv2, hr⟩ := bnd1_inv hr
      refine kX4_allGains (pc := 60) hv2 tw_5_71 ⟨nle rfl, nle rfl⟩ (nle rfl) dX7_points_60 ?_
      exact l_osi hr (r_iret (pc := 63) (v := v2) rfl rfl ⟨Nat.le_refl _, Nat.le_refl _⟩ dX7_points_63)
    replace hr := ite_f hc0 hr
    by_cases hc1 : a1 = (1 : Int32)
    · replace hr := ite_t hc1 hr
      refine r_tabIn (pc := 31) (off := 33) (tgt := 64) dX7_points_31 (by rw [hc1]; decide) (by rw [hc1]; decide) (by rw [hc1]; rfl) rfl ?_
      refine r_aload_n (pc := 64) (j := 0) dX7_points_64 rfl rfl ?_
      refine gf7_13 (pc := 65) tw_2_122 hσ1 dX7_points_65 ?_
      refine gf4_1 (pc := 68) tw_2_81 hσ1 dX7_points_68 ?_
      refine r_aload_n (pc := 71) (j := 0) dX7_points_71 rfl rfl ?_
      refine gf7_13 (pc := 72) tw_2_122 hσ1 dX7_points_72 ?_
      refine gf4_5 (pc := 75) tw_2_88 hσ1 dX7_points_75 ?_
      refine r_iconst (pc := 78) (v := (0 : Int32)) dX7_points_78 rfl ?_
      refine x_iald (pc := 79) (k := 0) rfl (by decide) rfl dX7_points_79 ?_
      obtain ⟨h5, hr⟩ := grd_inv hr
      refine x_iald (pc := 80) (k := (Int32.toNatClampNeg (gI σ1 63 0))) rfl h5 rfl dX7_points_80 ?_
      exact l_osi hr (r_iret (pc := 81) (v := (gI σ1 59 (Int32.toNatClampNeg (gI σ1 63 0)))) rfl rfl ⟨Nat.le_refl _, Nat.le_refl _⟩ dX7_points_81)
    replace hr := ite_f hc1 hr
    by_cases hc2 : a1 = (2 : Int32)
    · replace hr := ite_t hc2 hr
      refine r_tabIn (pc := 31) (off := 51) (tgt := 82) dX7_points_31 (by rw [hc2]; decide) (by rw [hc2]; decide) (by rw [hc2]; rfl) rfl ?_
      refine r_aload_n (pc := 82) (j := 0) dX7_points_82 rfl rfl ?_
      refine gf7_13 (pc := 83) tw_2_122 hσ1 dX7_points_83 ?_
      refine gf4_1 (pc := 86) tw_2_81 hσ1 dX7_points_86 ?_
      refine r_aload_n (pc := 89) (j := 0) dX7_points_89 rfl rfl ?_
      refine gf7_13 (pc := 90) tw_2_122 hσ1 dX7_points_90 ?_
      refine gf4_5 (pc := 93) tw_2_88 hσ1 dX7_points_93 ?_
      refine r_aload_n (pc := 96) (j := 0) dX7_points_96 rfl rfl ?_
      refine gf7_13 (pc := 97) tw_2_122 hσ1 dX7_points_97 ?_
      refine gf4_0 (pc := 100) tw_2_79 rfl dX7_points_100 ?_
      refine r_iconst (pc := 103) (v := (1 : Int32)) dX7_points_103 rfl ?_
      refine r_isub (pc := 104) dX7_points_104 ?_
      obtain ⟨h6, hr⟩ := grd_inv hr
      refine x_iald (pc := 105) (k := (Int32.toNatClampNeg ((gI σ1 58 0) - (1 : Int32)))) rfl h6 rfl dX7_points_105 ?_
      obtain ⟨h7, hr⟩ := grd_inv hr
      refine x_iald (pc := 106) (k := (Int32.toNatClampNeg (gI σ1 63 (Int32.toNatClampNeg ((gI σ1 58 0) - (1 : Int32)))))) rfl h7 rfl dX7_points_106 ?_
      exact l_osi hr (r_iret (pc := 107) (v := (gI σ1 59 (Int32.toNatClampNeg (gI σ1 63 (Int32.toNatClampNeg ((gI σ1 58 0) - (1 : Int32))))))) rfl rfl ⟨Nat.le_refl _, Nat.le_refl _⟩ dX7_points_107)
    replace hr := ite_f hc2 hr
    refine r_tabOut (pc := 31) (tgt := 108) dX7_points_31 (tab_out (by decide) (by decide) fun k h1 h2 => ?_) rfl ?_
    · rcases (show k = 0 ∨ k = 1 ∨ k = 2 by omega) with rfl | rfl | rfl
      · exact hc0
      · exact hc1
      · exact hc2
    refine r_aload_n (pc := 108) (j := 0) dX7_points_108 rfl rfl ?_
    refine gf7_13 (pc := 109) tw_2_122 hσ1 dX7_points_109 ?_
    refine gf4_1 (pc := 112) tw_2_81 hσ1 dX7_points_112 ?_
    refine r_aload_n (pc := 115) (j := 0) dX7_points_115 rfl rfl ?_
    refine gf7_13 (pc := 116) tw_2_122 hσ1 dX7_points_116 ?_
    refine gf4_5 (pc := 119) tw_2_88 hσ1 dX7_points_119 ?_
    refine r_aload_n (pc := 122) (j := 0) dX7_points_122 rfl rfl ?_
    refine gf7_13 (pc := 123) tw_2_122 hσ1 dX7_points_123 ?_
    refine gf4_0 (pc := 126) tw_2_79 rfl dX7_points_126 ?_
    refine r_iconst (pc := 129) (v := (2 : Int32)) dX7_points_129 rfl ?_
    refine r_idiv (pc := 130) dX7_points_130 (by decide) ?_
    obtain ⟨h8, hr⟩ := grd_inv hr
    refine x_iald (pc := 131) (k := (Int32.toNatClampNeg ((gI σ1 58 0) / (2 : Int32)))) rfl h8 rfl dX7_points_131 ?_
    obtain ⟨h9, hr⟩ := grd_inv hr
    refine x_iald (pc := 132) (k := (Int32.toNatClampNeg (gI σ1 63 (Int32.toNatClampNeg ((gI σ1 58 0) / (2 : Int32)))))) rfl h9 rfl dX7_points_132 ?_
    exact l_osi hr (r_iret (pc := 133) (v := (gI σ1 59 (Int32.toNatClampNeg (gI σ1 63 (Int32.toNatClampNeg ((gI σ1 58 0) / (2 : Int32))))))) rfl rfl ⟨Nat.le_refl _, Nat.le_refl _⟩ dX7_points_133)
  replace hr := ite_f hc hr
  refine r_ldcw (pc := 19) (v := (-2147483648 : Int32)) dX7_points_19 tw_4_134 ?_
  exact l_osi hr (r_iret (pc := 22) (v := (-2147483648 : Int32)) rfl rfl ⟨Nat.le_refl _, Nat.le_refl _⟩ dX7_points_22)

theorem kX7_points {g : GG} {σ : SS} {a1 : Int32} {v : Int32} {σ2 : SS} {M : MM} {F : State → Array Value → List Frame → State → Prop} {pc index : Nat} {ls : List (Nat × Value)} {rest : List Value} (hf : fX7_points σ a1 = some (v, σ2))  (hl : Cond.methodLink M.1.cls index yX7_points ∈ lw_gt) (hR : mX7_points.2.2.2.2.frames + 1 ≤ M.2.2.2.2.frames ∧ 8 + (mX7_points.2.2.1 + 11) + mX7_points.2.2.2.2.locals ≤ M.2.2.2.2.locals) (hrest : (rest.map fun v => v.category).sum ≤ 8) (hd : decode M.2.1 pc = .ok (.invokevirtual index, 3)) (k : WT σ2 → RR g M F zF (pc + 3) ls (.int v :: rest) σ2) : RR g M F zF pc ls (.int a1 :: .ref (ad g 1) :: rest) σ :=
  r_callV (z := zF) (N := mX7_points) (nn := 1) (o1 := some (.int v)) (sX7_points hf ) (rfl : shp 1 = (7, 0)) (by decide) (shp_le (rfl : shp 1 = (7, 0)) (nle rfl)) (ci := 7) rfl rfl tw_5_69 tw_1_1 hl tw_5_67 tw_5_68 ⟨by decide, by decide, rfl⟩ hR rfl hrest hd ⟨Nat.zero_le _, Nat.zero_le _⟩ rfl (fun h => k (h rfl))

theorem dX8_points_0 : decode cX8_points 0 = .ok (.aload_n 0, 1) := by decide +kernel
theorem dX8_points_1 : decode cX8_points 1 = .ok (.getfield 259, 3) := by decide +kernel
theorem dX8_points_4 : decode cX8_points 4 = .ok (.ifCond .eq 12, 3) := by decide +kernel
theorem dX8_points_7 : decode cX8_points 7 = .ok (.iload_n 1, 1) := by decide +kernel
theorem dX8_points_8 : decode cX8_points 8 = .ok (.iconst 0, 1) := by decide +kernel
theorem dX8_points_9 : decode cX8_points 9 = .ok (.iconst 3, 1) := by decide +kernel
theorem dX8_points_10 : decode cX8_points 10 = .ok (.invokestatic 165, 3) := by decide +kernel
theorem dX8_points_13 : decode cX8_points 13 = .ok (.ifCond .ne 7, 3) := by decide +kernel
theorem dX8_points_16 : decode cX8_points 16 = .ok (.ldc_w 400, 3) := by decide +kernel
theorem dX8_points_19 : decode cX8_points 19 = .ok (.ireturn, 1) := by decide +kernel
theorem dX8_points_20 : decode cX8_points 20 = .ok (.aload_n 0, 1) := by decide +kernel
theorem dX8_points_21 : decode cX8_points 21 = .ok (.invokevirtual 424, 3) := by decide +kernel
theorem dX8_points_24 : decode cX8_points 24 = .ok (.iload_n 1, 1) := by decide +kernel
theorem dX8_points_25 : decode cX8_points 25 = .ok (.ifCond .le 43, 3) := by decide +kernel
theorem dX8_points_28 : decode cX8_points 28 = .ok (.aload_n 0, 1) := by decide +kernel
theorem dX8_points_29 : decode cX8_points 29 = .ok (.getfield 117, 3) := by decide +kernel
theorem dX8_points_32 : decode cX8_points 32 = .ok (.aload_n 0, 1) := by decide +kernel
theorem dX8_points_33 : decode cX8_points 33 = .ok (.getfield 129, 3) := by decide +kernel
theorem dX8_points_36 : decode cX8_points 36 = .ok (.iload_n 1, 1) := by decide +kernel
theorem dX8_points_37 : decode cX8_points 37 = .ok (.iconst 1, 1) := by decide +kernel
theorem dX8_points_38 : decode cX8_points 38 = .ok (.if_icmp .ne 7, 3) := by decide +kernel
theorem dX8_points_41 : decode cX8_points 41 = .ok (.iconst 0, 1) := by decide +kernel
theorem dX8_points_42 : decode cX8_points 42 = .ok (.goto 23, 3) := by decide +kernel
theorem dX8_points_45 : decode cX8_points 45 = .ok (.iload_n 1, 1) := by decide +kernel
theorem dX8_points_46 : decode cX8_points 46 = .ok (.iconst 2, 1) := by decide +kernel
theorem dX8_points_47 : decode cX8_points 47 = .ok (.if_icmp .ne 12, 3) := by decide +kernel
theorem dX8_points_50 : decode cX8_points 50 = .ok (.aload_n 0, 1) := by decide +kernel
theorem dX8_points_51 : decode cX8_points 51 = .ok (.getfield 259, 3) := by decide +kernel
theorem dX8_points_54 : decode cX8_points 54 = .ok (.iconst 1, 1) := by decide +kernel
theorem dX8_points_55 : decode cX8_points 55 = .ok (.isub, 1) := by decide +kernel
theorem dX8_points_56 : decode cX8_points 56 = .ok (.goto 9, 3) := by decide +kernel
theorem dX8_points_59 : decode cX8_points 59 = .ok (.aload_n 0, 1) := by decide +kernel
theorem dX8_points_60 : decode cX8_points 60 = .ok (.getfield 259, 3) := by decide +kernel
theorem dX8_points_63 : decode cX8_points 63 = .ok (.iconst 2, 1) := by decide +kernel
theorem dX8_points_64 : decode cX8_points 64 = .ok (.idiv, 1) := by decide +kernel
theorem dX8_points_65 : decode cX8_points 65 = .ok (.iaload, 1) := by decide +kernel
theorem dX8_points_66 : decode cX8_points 66 = .ok (.iaload, 1) := by decide +kernel
theorem dX8_points_67 : decode cX8_points 67 = .ok (.ireturn, 1) := by decide +kernel
theorem dX8_points_68 : decode cX8_points 68 = .ok (.iconst 0, 1) := by decide +kernel
theorem dX8_points_69 : decode cX8_points 69 = .ok (.istore_n 2, 1) := by decide +kernel
theorem dX8_points_70 : decode cX8_points 70 = .ok (.iconst 0, 1) := by decide +kernel
theorem dX8_points_71 : decode cX8_points 71 = .ok (.istore_n 3, 1) := by decide +kernel
theorem dX8_points_72 : decode cX8_points 72 = .ok (.iload_n 3, 1) := by decide +kernel
theorem dX8_points_73 : decode cX8_points 73 = .ok (.aload_n 0, 1) := by decide +kernel
theorem dX8_points_74 : decode cX8_points 74 = .ok (.getfield 259, 3) := by decide +kernel
theorem dX8_points_77 : decode cX8_points 77 = .ok (.if_icmp .ge 18, 3) := by decide +kernel
theorem dX8_points_80 : decode cX8_points 80 = .ok (.iload_n 2, 1) := by decide +kernel
theorem dX8_points_81 : decode cX8_points 81 = .ok (.aload_n 0, 1) := by decide +kernel
theorem dX8_points_82 : decode cX8_points 82 = .ok (.getfield 117, 3) := by decide +kernel
theorem dX8_points_85 : decode cX8_points 85 = .ok (.iload_n 3, 1) := by decide +kernel
theorem dX8_points_86 : decode cX8_points 86 = .ok (.iaload, 1) := by decide +kernel
theorem dX8_points_87 : decode cX8_points 87 = .ok (.iadd, 1) := by decide +kernel
theorem dX8_points_88 : decode cX8_points 88 = .ok (.istore_n 2, 1) := by decide +kernel
theorem dX8_points_89 : decode cX8_points 89 = .ok (.iinc 3 1, 3) := by decide +kernel
theorem dX8_points_92 : decode cX8_points 92 = .ok (.goto (-20), 3) := by decide +kernel
theorem dX8_points_95 : decode cX8_points 95 = .ok (.iload_n 2, 1) := by decide +kernel
theorem dX8_points_96 : decode cX8_points 96 = .ok (.ireturn, 1) := by decide +kernel
def mX8_points : MM := (yX8_points, cX8_points, 4, Option.some Jvm.ClassFile.FieldType.int, { frames := 1, cells := 0, slots := 0, locals := 22 })
def X8_points_L72 (σ_ : SS)   : Nat → Int32 → Int32 → Option (Int32 × SS) :=
  lp (fun _ _ => none) fun rec v2_ v3_ =>
    if (gI σ_ 73 65) ≤ v3_ then (
      some (v2_, σ_)
      ) else (
      grd (inb v3_ 16) <|
      vthen (v2_ + (gI σ_ 109 (Int32.toNatClampNeg v3_))) fun v3 =>
      rec v3 (v3_ + (1 : Int32))
      )

def fX8_points (σ : SS) (a1 : Int32) : Option (Int32 × SS) :=
  if (gI σ 73 65) = 0 then (
    some ((-2147483648 : Int32), σ)
    ) else (
    if (fX8_in σ a1 (0 : Int32) (3 : Int32)) = true then (
      bnd1 (fX8_laysSorted σ) fun σ1 =>
      if a1 ≤ 0 then (
        X8_points_L72 σ1
        fuel (0 : Int32) (0 : Int32)
        ) else (
        vthen (fun (s4 : Int32) =>
          grd (inb s4 16) <|
          grd (inb (gI σ1 113 (Int32.toNatClampNeg s4)) 16) <|
          some ((gI σ1 109 (Int32.toNatClampNeg (gI σ1 113 (Int32.toNatClampNeg s4)))), σ1)
          ) fun j65 =>
        if a1 = (1 : Int32) then (
          j65 (0 : Int32)
          ) else (
          if a1 = (2 : Int32) then (
            j65 ((gI σ1 73 65) - (1 : Int32))
            ) else (
            j65 ((gI σ1 73 65) / (2 : Int32))
            )
          )
        )
      ) else (
      some ((-2147483648 : Int32), σ)
      )
    )

set_option maxRecDepth 20000 in
theorem sX8_points_L72 {g : GG} {r : Int32 × SS} {σ_ : SS}   
    (hw_ : WT σ_)
    (n : Nat) : ∀ (v2_ : Int32) (v3_ : Int32), X8_points_L72 σ_ n v2_ v3_ = some r → RR g mX8_points (FinR g mX8_points (some (.int r.1)) NF r.2) zF 72 [(0, .ref (ad g 73)), (2, .int v2_), (3, .int v3_)] [] σ_ := by
  unfold X8_points_L72
  refine lp_ind (P := fun (rec : Int32 → Int32 → Option (Int32 × SS)) => ∀ (v2_ : Int32) (v3_ : Int32), rec v2_ v3_ = some r → RR g mX8_points (FinR g mX8_points (some (.int r.1)) NF r.2) zF 72 [(0, .ref (ad g 73)), (2, .int v2_), (3, .int v3_)] [] σ_) ?_ ?_ n
  · intro v2_ v3_ hr; cases hr
  intro rec ih v2_ v3_ hr
  refine r_iload_n (pc := 72) (j := 2) dX8_points_72 rfl rfl ?_
  refine r_aload_n (pc := 73) (j := 0) dX8_points_73 rfl rfl ?_
  refine gf8_65 (pc := 74) tw_5_159 rfl dX8_points_74 ?_
  refine r_icmp_ge (pc := 77) (tgt := 95) dX8_points_77 rfl (fun hc => ?_) (fun hc => ?_)
  · replace hr := ite_t hc hr
    refine r_iload_n (pc := 95) (j := 1) dX8_points_95 rfl rfl ?_
    exact l_osi hr (r_iret (pc := 96) (v := v2_) rfl rfl ⟨Nat.le_refl _, Nat.le_refl _⟩ dX8_points_96)
  replace hr := ite_f hc hr
  refine r_iload_n (pc := 80) (j := 1) dX8_points_80 rfl rfl ?_
  refine r_aload_n (pc := 81) (j := 0) dX8_points_81 rfl rfl ?_
  refine gf8_60 (pc := 82) tw_5_154 hw_ dX8_points_82 ?_
  refine r_iload_n (pc := 85) (j := 2) dX8_points_85 rfl rfl ?_
  obtain ⟨h2, hr⟩ := grd_inv hr
  refine x_iald (pc := 86) (k := (Int32.toNatClampNeg v3_)) rfl h2 rfl dX8_points_86 ?_
  refine r_iadd (pc := 87) dX8_points_87 ?_
  refine r_topi fun v3 ev3 => ?_
  replace hr := vthen_inv hr v3 ev3
  refine r_istore_n (pc := 88) (ls1 := [(2, .int v3), (0, .ref (ad g 73)), (3, .int v3_)]) dX8_points_88 rfl (nle rfl) rfl ?_
  refine r_iinc (pc := 89) (j := 2) (v := (v3_ + (1 : Int32))) (ls1 := [(3, .int (v3_ + (1 : Int32))), (2, .int v3), (0, .ref (ad g 73))]) dX8_points_89 rfl rfl (nle rfl) rfl ?_
  refine r_goto (pc := 92) (tgt := 72) dX8_points_92 rfl ?_
  exact r_pick (ls1 := [(0, .ref (ad g 73)), (2, .int v3), (3, .int (v3_ + (1 : Int32)))]) [2, 1, 0] rfl (ih v3 (v3_ + (1 : Int32)) hr)

set_option maxRecDepth 20000 in
theorem sX8_points {g : GG} {σ : SS} {a1 : Int32} {r : Int32 × SS} (hr : fX8_points σ a1 = some r)  : Ct g mX8_points [.ref (ad g 73), .int a1] NF σ (some (.int r.1)) NF r.2 := by
  refine Ct.of (by decide +kernel) (nle rfl) fun hw0 => ?_
  have hw := hw0 rfl
  unfold fX8_points at hr
  change RR g mX8_points (FinR g mX8_points (some (.int r.1)) NF r.2) zF 0 [(0, .ref (ad g 73)), (1, .int a1)] [] σ
  refine r_aload_n (pc := 0) (j := 0) dX8_points_0 rfl rfl ?_
  refine gf8_65 (pc := 1) tw_5_159 rfl dX8_points_1 ?_
  refine r_if_eq (pc := 4) (tgt := 16) dX8_points_4 rfl (fun hc => ?_) (fun hc => ?_)
  · replace hr := ite_t hc hr
    refine r_ldcw (pc := 16) (v := (-2147483648 : Int32)) dX8_points_16 tw_7_106 ?_
    exact l_osi hr (r_iret (pc := 19) (v := (-2147483648 : Int32)) rfl rfl ⟨Nat.le_refl _, Nat.le_refl _⟩ dX8_points_19)
  replace hr := ite_f hc hr
  refine r_iload_n (pc := 7) (j := 1) dX8_points_7 rfl rfl ?_
  refine r_iconst (pc := 8) (v := (0 : Int32)) dX8_points_8 rfl ?_
  refine r_iconst (pc := 9) (v := (3 : Int32)) dX8_points_9 rfl ?_
  refine kX8_in (pc := 10) (hf := rfl) tw_6_65 ⟨nle rfl, nle rfl⟩ (nle rfl) dX8_points_10 ?_
  refine r_ifB_ne (pc := 13) (tgt := 20) dX8_points_13 rfl (fun hc => ?_) (fun hc => ?_)
  · replace hr := ite_t hc hr
    refine r_aload_n (pc := 20) (j := 0) dX8_points_20 rfl rfl ?_
    obtain ⟨σ1, eσ1, hr⟩ := bnd1_inv hr
    refine kX8_laysSorted (pc := 21) eσ1 tw_7_207 ⟨nle rfl, nle rfl⟩ (nle rfl) dX8_points_21 fun hσ1 => ?_
    refine r_iload_n (pc := 24) (j := 1) dX8_points_24 rfl rfl ?_
    refine r_if_le (pc := 25) (tgt := 68) dX8_points_25 rfl (fun hc => ?_) (fun hc => ?_)
    · replace hr := ite_t hc hr
      refine r_iconst (pc := 68) (v := (0 : Int32)) dX8_points_68 rfl ?_
      refine r_istore_n (pc := 69) (ls1 := [(2, .int (0 : Int32)), (0, .ref (ad g 73)), (1, .int a1)]) dX8_points_69 rfl (nle rfl) rfl ?_
      refine r_iconst (pc := 70) (v := (0 : Int32)) dX8_points_70 rfl ?_
      refine r_istore_n (pc := 71) (ls1 := [(3, .int (0 : Int32)), (2, .int (0 : Int32)), (0, .ref (ad g 73)), (1, .int a1)]) dX8_points_71 rfl (nle rfl) rfl ?_
      refine r_pick (ls1 := [(0, .ref (ad g 73)), (2, .int (0 : Int32)), (3, .int (0 : Int32))]) [2, 1, 0] rfl ?_
      refine sX8_points_L72  hσ1   fuel (0 : Int32) (0 : Int32) hr
    replace hr := ite_f hc hr
    refine r_aload_n (pc := 28) (j := 0) dX8_points_28 rfl rfl ?_
    refine gf8_60 (pc := 29) tw_5_154 hσ1 dX8_points_29 ?_
    refine r_aload_n (pc := 32) (j := 0) dX8_points_32 rfl rfl ?_
    refine gf8_64 (pc := 33) tw_5_158 hσ1 dX8_points_33 ?_
    refine r_iload_n (pc := 36) (j := 1) dX8_points_36 rfl rfl ?_
    refine r_iconst (pc := 37) (v := (1 : Int32)) dX8_points_37 rfl ?_
    obtain ⟨j65, ej65, hr⟩ := vth_ex hr
    have hj65 : ∀ (s4 : Int32), j65 s4 = some r → RR g mX8_points (FinR g mX8_points (some (.int r.1)) NF r.2) zF 65 [] [.int s4, .ref (ad g 113), .ref (ad g 109)] σ1 := by
      intro s4 hr
      replace hr := (congrFun ej65 s4).symm.trans hr
      obtain ⟨h5, hr⟩ := grd_inv hr
      refine x_iald (pc := 65) (k := (Int32.toNatClampNeg s4)) rfl h5 rfl dX8_points_65 ?_
      obtain ⟨h6, hr⟩ := grd_inv hr
      refine x_iald (pc := 66) (k := (Int32.toNatClampNeg (gI σ1 113 (Int32.toNatClampNeg s4)))) rfl h6 rfl dX8_points_66 ?_
      exact l_osi hr (r_iret (pc := 67) (v := (gI σ1 109 (Int32.toNatClampNeg (gI σ1 113 (Int32.toNatClampNeg s4))))) rfl rfl ⟨Nat.le_refl _, Nat.le_refl _⟩ dX8_points_67)
    refine r_icmp_ne (pc := 38) (tgt := 45) dX8_points_38 rfl (fun hc => ?_) (fun hc => ?_)
    · replace hr := ite_f hc hr
      refine r_iload_n (pc := 45) (j := 1) dX8_points_45 rfl rfl ?_
      refine r_iconst (pc := 46) (v := (2 : Int32)) dX8_points_46 rfl ?_
      refine r_icmp_ne (pc := 47) (tgt := 59) dX8_points_47 rfl (fun hc => ?_) (fun hc => ?_)
      · replace hr := ite_f hc hr
        refine r_aload_n (pc := 59) (j := 0) dX8_points_59 rfl rfl ?_
        refine gf8_65 (pc := 60) tw_5_159 rfl dX8_points_60 ?_
        refine r_iconst (pc := 63) (v := (2 : Int32)) dX8_points_63 rfl ?_
        refine r_idiv (pc := 64) dX8_points_64 (by decide) ?_
        exact r_pick (ls1 := []) [] rfl (hj65 ((gI σ1 73 65) / (2 : Int32)) hr)
      replace hr := ite_t hc hr
      refine r_aload_n (pc := 50) (j := 0) dX8_points_50 rfl rfl ?_
      refine gf8_65 (pc := 51) tw_5_159 rfl dX8_points_51 ?_
      refine r_iconst (pc := 54) (v := (1 : Int32)) dX8_points_54 rfl ?_
      refine r_isub (pc := 55) dX8_points_55 ?_
      refine r_goto (pc := 56) (tgt := 65) dX8_points_56 rfl ?_
      exact r_pick (ls1 := []) [] rfl (hj65 ((gI σ1 73 65) - (1 : Int32)) hr)
    replace hr := ite_t hc hr
    refine r_iconst (pc := 41) (v := (0 : Int32)) dX8_points_41 rfl ?_
    refine r_goto (pc := 42) (tgt := 65) dX8_points_42 rfl ?_
    exact r_pick (ls1 := []) [] rfl (hj65 (0 : Int32) hr)
  replace hr := ite_f hc hr
  refine r_ldcw (pc := 16) (v := (-2147483648 : Int32)) dX8_points_16 tw_7_106 ?_
  exact l_osi hr (r_iret (pc := 19) (v := (-2147483648 : Int32)) rfl rfl ⟨Nat.le_refl _, Nat.le_refl _⟩ dX8_points_19)

theorem kX8_points {g : GG} {σ : SS} {a1 : Int32} {v : Int32} {σ2 : SS} {M : MM} {F : State → Array Value → List Frame → State → Prop} {pc index : Nat} {ls : List (Nat × Value)} {rest : List Value} (hf : fX8_points σ a1 = some (v, σ2))  (hl : Cond.methodLink M.1.cls index yX8_points ∈ lw_gt) (hR : mX8_points.2.2.2.2.frames + 1 ≤ M.2.2.2.2.frames ∧ 8 + (mX8_points.2.2.1 + 11) + mX8_points.2.2.2.2.locals ≤ M.2.2.2.2.locals) (hrest : (rest.map fun v => v.category).sum ≤ 8) (hd : decode M.2.1 pc = .ok (.invokevirtual index, 3)) (k : WT σ2 → RR g M F zF (pc + 3) ls (.int v :: rest) σ2) : RR g M F zF pc ls (.int a1 :: .ref (ad g 73) :: rest) σ :=
  r_callV (z := zF) (N := mX8_points) (nn := 1) (o1 := some (.int v)) (sX8_points hf ) (rfl : shp 73 = (8, 0)) (by decide) (shp_le (rfl : shp 73 = (8, 0)) (nle rfl)) (ci := 8) rfl rfl tw_7_214 tw_1_10 hl tw_7_212 tw_7_213 ⟨by decide, by decide, rfl⟩ hR rfl hrest hd ⟨Nat.zero_le _, Nat.zero_le _⟩ rfl (fun h => k (h rfl))

theorem dX4_remove_0 : decode cX4_remove 0 = .ok (.iload_n 1, 1) := by decide +kernel
theorem dX4_remove_1 : decode cX4_remove 1 = .ok (.istore_n 2, 1) := by decide +kernel
theorem dX4_remove_2 : decode cX4_remove 2 = .ok (.iload_n 2, 1) := by decide +kernel
theorem dX4_remove_3 : decode cX4_remove 3 = .ok (.iconst 1, 1) := by decide +kernel
theorem dX4_remove_4 : decode cX4_remove 4 = .ok (.iadd, 1) := by decide +kernel
theorem dX4_remove_5 : decode cX4_remove 5 = .ok (.aload_n 0, 1) := by decide +kernel
theorem dX4_remove_6 : decode cX4_remove 6 = .ok (.getfield 27, 3) := by decide +kernel
theorem dX4_remove_9 : decode cX4_remove 9 = .ok (.if_icmp .ge 89, 3) := by decide +kernel
theorem dX4_remove_12 : decode cX4_remove 12 = .ok (.aload_n 0, 1) := by decide +kernel
theorem dX4_remove_13 : decode cX4_remove 13 = .ok (.getfield 9, 3) := by decide +kernel
theorem dX4_remove_16 : decode cX4_remove 16 = .ok (.iload_n 2, 1) := by decide +kernel
theorem dX4_remove_17 : decode cX4_remove 17 = .ok (.aload_n 0, 1) := by decide +kernel
theorem dX4_remove_18 : decode cX4_remove 18 = .ok (.getfield 9, 3) := by decide +kernel
theorem dX4_remove_21 : decode cX4_remove 21 = .ok (.iload_n 2, 1) := by decide +kernel
theorem dX4_remove_22 : decode cX4_remove 22 = .ok (.iconst 1, 1) := by decide +kernel
theorem dX4_remove_23 : decode cX4_remove 23 = .ok (.iadd, 1) := by decide +kernel
theorem dX4_remove_24 : decode cX4_remove 24 = .ok (.iaload, 1) := by decide +kernel
theorem dX4_remove_25 : decode cX4_remove 25 = .ok (.iastore, 1) := by decide +kernel
theorem dX4_remove_26 : decode cX4_remove 26 = .ok (.aload_n 0, 1) := by decide +kernel
theorem dX4_remove_27 : decode cX4_remove 27 = .ok (.getfield 15, 3) := by decide +kernel
theorem dX4_remove_30 : decode cX4_remove 30 = .ok (.iload_n 2, 1) := by decide +kernel
theorem dX4_remove_31 : decode cX4_remove 31 = .ok (.aload_n 0, 1) := by decide +kernel
theorem dX4_remove_32 : decode cX4_remove 32 = .ok (.getfield 15, 3) := by decide +kernel
theorem dX4_remove_35 : decode cX4_remove 35 = .ok (.iload_n 2, 1) := by decide +kernel
theorem dX4_remove_36 : decode cX4_remove 36 = .ok (.iconst 1, 1) := by decide +kernel
theorem dX4_remove_37 : decode cX4_remove 37 = .ok (.iadd, 1) := by decide +kernel
theorem dX4_remove_38 : decode cX4_remove 38 = .ok (.iaload, 1) := by decide +kernel
theorem dX4_remove_39 : decode cX4_remove 39 = .ok (.iastore, 1) := by decide +kernel
theorem dX4_remove_40 : decode cX4_remove 40 = .ok (.aload_n 0, 1) := by decide +kernel
theorem dX4_remove_41 : decode cX4_remove 41 = .ok (.getfield 18, 3) := by decide +kernel
theorem dX4_remove_44 : decode cX4_remove 44 = .ok (.iload_n 2, 1) := by decide +kernel
theorem dX4_remove_45 : decode cX4_remove 45 = .ok (.aload_n 0, 1) := by decide +kernel
theorem dX4_remove_46 : decode cX4_remove 46 = .ok (.getfield 18, 3) := by decide +kernel
theorem dX4_remove_49 : decode cX4_remove 49 = .ok (.iload_n 2, 1) := by decide +kernel
theorem dX4_remove_50 : decode cX4_remove 50 = .ok (.iconst 1, 1) := by decide +kernel
theorem dX4_remove_51 : decode cX4_remove 51 = .ok (.iadd, 1) := by decide +kernel
theorem dX4_remove_52 : decode cX4_remove 52 = .ok (.iaload, 1) := by decide +kernel
theorem dX4_remove_53 : decode cX4_remove 53 = .ok (.iastore, 1) := by decide +kernel
theorem dX4_remove_54 : decode cX4_remove 54 = .ok (.iconst 0, 1) := by decide +kernel
theorem dX4_remove_55 : decode cX4_remove 55 = .ok (.istore_n 3, 1) := by decide +kernel
theorem dX4_remove_56 : decode cX4_remove 56 = .ok (.iload_n 3, 1) := by decide +kernel
theorem dX4_remove_57 : decode cX4_remove 57 = .ok (.bipush 12, 2) := by decide +kernel
theorem dX4_remove_59 : decode cX4_remove 59 = .ok (.if_icmp .ge 33, 3) := by decide +kernel
theorem dX4_remove_62 : decode cX4_remove 62 = .ok (.aload_n 0, 1) := by decide +kernel
theorem dX4_remove_63 : decode cX4_remove 63 = .ok (.getfield 21, 3) := by decide +kernel
theorem dX4_remove_66 : decode cX4_remove 66 = .ok (.iload_n 2, 1) := by decide +kernel
theorem dX4_remove_67 : decode cX4_remove 67 = .ok (.bipush 12, 2) := by decide +kernel
theorem dX4_remove_69 : decode cX4_remove 69 = .ok (.imul, 1) := by decide +kernel
theorem dX4_remove_70 : decode cX4_remove 70 = .ok (.iload_n 3, 1) := by decide +kernel
theorem dX4_remove_71 : decode cX4_remove 71 = .ok (.iadd, 1) := by decide +kernel
theorem dX4_remove_72 : decode cX4_remove 72 = .ok (.aload_n 0, 1) := by decide +kernel
theorem dX4_remove_73 : decode cX4_remove 73 = .ok (.getfield 21, 3) := by decide +kernel
theorem dX4_remove_76 : decode cX4_remove 76 = .ok (.iload_n 2, 1) := by decide +kernel
theorem dX4_remove_77 : decode cX4_remove 77 = .ok (.iconst 1, 1) := by decide +kernel
theorem dX4_remove_78 : decode cX4_remove 78 = .ok (.iadd, 1) := by decide +kernel
theorem dX4_remove_79 : decode cX4_remove 79 = .ok (.bipush 12, 2) := by decide +kernel
theorem dX4_remove_81 : decode cX4_remove 81 = .ok (.imul, 1) := by decide +kernel
theorem dX4_remove_82 : decode cX4_remove 82 = .ok (.iload_n 3, 1) := by decide +kernel
theorem dX4_remove_83 : decode cX4_remove 83 = .ok (.iadd, 1) := by decide +kernel
theorem dX4_remove_84 : decode cX4_remove 84 = .ok (.iaload, 1) := by decide +kernel
theorem dX4_remove_85 : decode cX4_remove 85 = .ok (.iastore, 1) := by decide +kernel
theorem dX4_remove_86 : decode cX4_remove 86 = .ok (.iinc 3 1, 3) := by decide +kernel
theorem dX4_remove_89 : decode cX4_remove 89 = .ok (.goto (-33), 3) := by decide +kernel
theorem dX4_remove_92 : decode cX4_remove 92 = .ok (.iinc 2 1, 3) := by decide +kernel
theorem dX4_remove_95 : decode cX4_remove 95 = .ok (.goto (-93), 3) := by decide +kernel
theorem dX4_remove_98 : decode cX4_remove 98 = .ok (.aload_n 0, 1) := by decide +kernel
theorem dX4_remove_99 : decode cX4_remove 99 = .ok (.dup, 1) := by decide +kernel
theorem dX4_remove_100 : decode cX4_remove 100 = .ok (.getfield 27, 3) := by decide +kernel
theorem dX4_remove_103 : decode cX4_remove 103 = .ok (.iconst 1, 1) := by decide +kernel
theorem dX4_remove_104 : decode cX4_remove 104 = .ok (.isub, 1) := by decide +kernel
theorem dX4_remove_105 : decode cX4_remove 105 = .ok (.putfield 27, 3) := by decide +kernel
theorem dX4_remove_108 : decode cX4_remove 108 = .ok (.return_, 1) := by decide +kernel
def mX4_remove : MM := (yX4_remove, cX4_remove, 4, none, { frames := 0, cells := 0, slots := 0, locals := 0 })
def X4_remove_L56 (u2_ : Int32) (k92 : SS → Option SS) : Nat → Int32 → SS → Option SS :=
  lp (fun _ _ => none) fun rec v3_ σ_ =>
    if (12 : Int32) ≤ v3_ then (
      k92 σ_
      ) else (
      grd (inb (((u2_ + (1 : Int32)) * (12 : Int32)) + v3_) 192) <|
      grd (inb ((u2_ * (12 : Int32)) + v3_) 192) <|
      vthen (sI σ_ 62 (Int32.toNatClampNeg ((u2_ * (12 : Int32)) + v3_)) (gI σ_ 62 (Int32.toNatClampNeg (((u2_ + (1 : Int32)) * (12 : Int32)) + v3_)))) fun σ9 =>
      rec (v3_ + (1 : Int32)) σ9
      )

def X4_remove_L2   : Nat → Int32 → SS → Option SS :=
  lp (fun _ _ => none) fun rec v2_ σ_ =>
    if (gI σ_ 58 0) ≤ (v2_ + (1 : Int32)) then (
      vthen (sI σ_ 58 0 ((gI σ_ 58 0) - (1 : Int32))) fun σ1 =>
      some σ1
      ) else (
      grd (inb (v2_ + (1 : Int32)) 16) <|
      grd (inb v2_ 16) <|
      vthen (sI σ_ 59 (Int32.toNatClampNeg v2_) (gI σ_ 59 (Int32.toNatClampNeg (v2_ + (1 : Int32))))) fun σ4 =>
      vthen (sI σ4 60 (Int32.toNatClampNeg v2_) (gI σ4 60 (Int32.toNatClampNeg (v2_ + (1 : Int32))))) fun σ5 =>
      vthen (sI σ5 61 (Int32.toNatClampNeg v2_) (gI σ5 61 (Int32.toNatClampNeg (v2_ + (1 : Int32))))) fun σ6 =>
      X4_remove_L56 v2_
      (fun σ10 =>
        rec (v2_ + (1 : Int32)) σ10
        )
      fuel (0 : Int32) σ6
      )

def fX4_remove (σ : SS) (a1 : Int32) : Option SS :=
  X4_remove_L2
  fuel a1 σ

set_option maxRecDepth 20000 in
theorem sX4_remove_L56 {g : GG} {r : SS} {u2_ : Int32} {k92 : SS → Option SS} 
    (hk92 : ∀ (σ_ : SS), k92 σ_ = some r → WT σ_ → RR g mX4_remove (FinR g mX4_remove none NF r) zF 92 [(0, .ref (ad g 58)), (2, .int u2_)] [] σ_)
    (n : Nat) : ∀ (v3_ : Int32) (σ_ : SS), X4_remove_L56 u2_ k92 n v3_ σ_ = some r → WT σ_ → RR g mX4_remove (FinR g mX4_remove none NF r) zF 56 [(0, .ref (ad g 58)), (2, .int u2_), (3, .int v3_)] [] σ_ := by
  unfold X4_remove_L56
  refine lp_ind (P := fun (rec : Int32 → SS → Option SS) => ∀ (v3_ : Int32) (σ_ : SS), rec v3_ σ_ = some r → WT σ_ → RR g mX4_remove (FinR g mX4_remove none NF r) zF 56 [(0, .ref (ad g 58)), (2, .int u2_), (3, .int v3_)] [] σ_) ?_ ?_ n
  · intro v3_ σ_ hr; cases hr
  intro rec ih v3_ σ_ hr hw_
  refine r_iload_n (pc := 56) (j := 2) dX4_remove_56 rfl rfl ?_
  refine r_bipush (pc := 57) (v := (12 : Int32)) dX4_remove_57 rfl ?_
  refine r_icmp_ge (pc := 59) (tgt := 92) dX4_remove_59 rfl (fun hc => ?_) (fun hc => ?_)
  · replace hr := ite_t hc hr
    exact r_pick (ls1 := [(0, .ref (ad g 58)), (2, .int u2_)]) [0, 1] rfl (hk92 σ_ hr hw_)
  replace hr := ite_f hc hr
  refine r_aload_n (pc := 62) (j := 0) dX4_remove_62 rfl rfl ?_
  refine gf4_4 (pc := 63) tw_2_86 hw_ dX4_remove_63 ?_
  refine r_iload_n (pc := 66) (j := 1) dX4_remove_66 rfl rfl ?_
  refine r_bipush (pc := 67) (v := (12 : Int32)) dX4_remove_67 rfl ?_
  refine r_imul (pc := 69) dX4_remove_69 ?_
  refine r_iload_n (pc := 70) (j := 2) dX4_remove_70 rfl rfl ?_
  refine r_iadd (pc := 71) dX4_remove_71 ?_
  refine r_aload_n (pc := 72) (j := 0) dX4_remove_72 rfl rfl ?_
  refine gf4_4 (pc := 73) tw_2_86 hw_ dX4_remove_73 ?_
  refine r_iload_n (pc := 76) (j := 1) dX4_remove_76 rfl rfl ?_
  refine r_iconst (pc := 77) (v := (1 : Int32)) dX4_remove_77 rfl ?_
  refine r_iadd (pc := 78) dX4_remove_78 ?_
  refine r_bipush (pc := 79) (v := (12 : Int32)) dX4_remove_79 rfl ?_
  refine r_imul (pc := 81) dX4_remove_81 ?_
  refine r_iload_n (pc := 82) (j := 2) dX4_remove_82 rfl rfl ?_
  refine r_iadd (pc := 83) dX4_remove_83 ?_
  obtain ⟨h7, hr⟩ := grd_inv hr
  refine x_iald (pc := 84) (k := (Int32.toNatClampNeg (((u2_ + (1 : Int32)) * (12 : Int32)) + v3_))) rfl h7 rfl dX4_remove_84 ?_
  obtain ⟨h8, hr⟩ := grd_inv hr
  refine x_iast (pc := 85) (j := (Int32.toNatClampNeg ((u2_ * (12 : Int32)) + v3_))) rfl h8 rfl dX4_remove_85 fun σ9 eσ9 => ?_
  replace hr := vthen_inv hr σ9 eσ9
  have hσ9 := wtI eσ9 hw_
  refine r_iinc (pc := 86) (j := 2) (v := (v3_ + (1 : Int32))) (ls1 := [(3, .int (v3_ + (1 : Int32))), (0, .ref (ad g 58)), (2, .int u2_)]) dX4_remove_86 rfl rfl (nle rfl) rfl ?_
  refine r_goto (pc := 89) (tgt := 56) dX4_remove_89 rfl ?_
  exact r_pick (ls1 := [(0, .ref (ad g 58)), (2, .int u2_), (3, .int (v3_ + (1 : Int32)))]) [1, 2, 0] rfl (ih (v3_ + (1 : Int32)) σ9 hr hσ9)

set_option maxRecDepth 20000 in
theorem sX4_remove_L2 {g : GG} {r : SS}   
    (n : Nat) : ∀ (v2_ : Int32) (σ_ : SS), X4_remove_L2 n v2_ σ_ = some r → WT σ_ → RR g mX4_remove (FinR g mX4_remove none NF r) zF 2 [(0, .ref (ad g 58)), (2, .int v2_)] [] σ_ := by
  unfold X4_remove_L2
  refine lp_ind (P := fun (rec : Int32 → SS → Option SS) => ∀ (v2_ : Int32) (σ_ : SS), rec v2_ σ_ = some r → WT σ_ → RR g mX4_remove (FinR g mX4_remove none NF r) zF 2 [(0, .ref (ad g 58)), (2, .int v2_)] [] σ_) ?_ ?_ n
  · intro v2_ σ_ hr; cases hr
  intro rec ih v2_ σ_ hr hw_
  refine r_iload_n (pc := 2) (j := 1) dX4_remove_2 rfl rfl ?_
  refine r_iconst (pc := 3) (v := (1 : Int32)) dX4_remove_3 rfl ?_
  refine r_iadd (pc := 4) dX4_remove_4 ?_
  refine r_aload_n (pc := 5) (j := 0) dX4_remove_5 rfl rfl ?_
  refine gf4_0 (pc := 6) tw_2_78 rfl dX4_remove_6 ?_
  refine r_icmp_ge (pc := 9) (tgt := 98) dX4_remove_9 rfl (fun hc => ?_) (fun hc => ?_)
  · replace hr := ite_t hc hr
    refine r_aload_n (pc := 98) (j := 0) dX4_remove_98 rfl rfl ?_
    refine r_dup (pc := 99) dX4_remove_99 rfl ?_
    refine gf4_0 (pc := 100) tw_2_78 rfl dX4_remove_100 ?_
    refine r_iconst (pc := 103) (v := (1 : Int32)) dX4_remove_103 rfl ?_
    refine r_isub (pc := 104) dX4_remove_104 ?_
    refine pf4_0 (pc := 105) tw_2_78 rfl dX4_remove_105 fun σ1 eσ1 => ?_
    replace hr := vthen_inv hr σ1 eσ1
    have hσ1 := wtI eσ1 hw_
    exact l_ov hr (r_vret (pc := 108) rfl rfl ⟨Nat.le_refl _, Nat.le_refl _⟩ dX4_remove_108)
  replace hr := ite_f hc hr
  refine r_aload_n (pc := 12) (j := 0) dX4_remove_12 rfl rfl ?_
  refine gf4_1 (pc := 13) tw_2_80 hw_ dX4_remove_13 ?_
  refine r_iload_n (pc := 16) (j := 1) dX4_remove_16 rfl rfl ?_
  refine r_aload_n (pc := 17) (j := 0) dX4_remove_17 rfl rfl ?_
  refine gf4_1 (pc := 18) tw_2_80 hw_ dX4_remove_18 ?_
  refine r_iload_n (pc := 21) (j := 1) dX4_remove_21 rfl rfl ?_
  refine r_iconst (pc := 22) (v := (1 : Int32)) dX4_remove_22 rfl ?_
  refine r_iadd (pc := 23) dX4_remove_23 ?_
  obtain ⟨h2, hr⟩ := grd_inv hr
  refine x_iald (pc := 24) (k := (Int32.toNatClampNeg (v2_ + (1 : Int32)))) rfl h2 rfl dX4_remove_24 ?_
  obtain ⟨h3, hr⟩ := grd_inv hr
  refine x_iast (pc := 25) (j := (Int32.toNatClampNeg v2_)) rfl h3 rfl dX4_remove_25 fun σ4 eσ4 => ?_
  replace hr := vthen_inv hr σ4 eσ4
  have hσ4 := wtI eσ4 hw_
  refine r_aload_n (pc := 26) (j := 0) dX4_remove_26 rfl rfl ?_
  refine gf4_2 (pc := 27) tw_2_82 hσ4 dX4_remove_27 ?_
  refine r_iload_n (pc := 30) (j := 1) dX4_remove_30 rfl rfl ?_
  refine r_aload_n (pc := 31) (j := 0) dX4_remove_31 rfl rfl ?_
  refine gf4_2 (pc := 32) tw_2_82 hσ4 dX4_remove_32 ?_
  refine r_iload_n (pc := 35) (j := 1) dX4_remove_35 rfl rfl ?_
  refine r_iconst (pc := 36) (v := (1 : Int32)) dX4_remove_36 rfl ?_
  refine r_iadd (pc := 37) dX4_remove_37 ?_
  refine x_iald (pc := 38) (k := (Int32.toNatClampNeg (v2_ + (1 : Int32)))) rfl h2 rfl dX4_remove_38 ?_
  refine x_iast (pc := 39) (j := (Int32.toNatClampNeg v2_)) rfl h3 rfl dX4_remove_39 fun σ5 eσ5 => ?_
  replace hr := vthen_inv hr σ5 eσ5
  have hσ5 := wtI eσ5 hσ4
  refine r_aload_n (pc := 40) (j := 0) dX4_remove_40 rfl rfl ?_
  refine gf4_3 (pc := 41) tw_2_84 hσ5 dX4_remove_41 ?_
  refine r_iload_n (pc := 44) (j := 1) dX4_remove_44 rfl rfl ?_
  refine r_aload_n (pc := 45) (j := 0) dX4_remove_45 rfl rfl ?_
  refine gf4_3 (pc := 46) tw_2_84 hσ5 dX4_remove_46 ?_
  refine r_iload_n (pc := 49) (j := 1) dX4_remove_49 rfl rfl ?_
  refine r_iconst (pc := 50) (v := (1 : Int32)) dX4_remove_50 rfl ?_
  refine r_iadd (pc := 51) dX4_remove_51 ?_
  refine x_iald (pc := 52) (k := (Int32.toNatClampNeg (v2_ + (1 : Int32)))) rfl h2 rfl dX4_remove_52 ?_
  refine x_iast (pc := 53) (j := (Int32.toNatClampNeg v2_)) rfl h3 rfl dX4_remove_53 fun σ6 eσ6 => ?_
  replace hr := vthen_inv hr σ6 eσ6
  have hσ6 := wtI eσ6 hσ5
  refine r_iconst (pc := 54) (v := (0 : Int32)) dX4_remove_54 rfl ?_
  refine r_istore_n (pc := 55) (ls1 := [(3, .int (0 : Int32)), (0, .ref (ad g 58)), (2, .int v2_)]) dX4_remove_55 rfl (nle rfl) rfl ?_
  refine r_pick (ls1 := [(0, .ref (ad g 58)), (2, .int v2_), (3, .int (0 : Int32))]) [1, 2, 0] rfl ?_
  refine sX4_remove_L56    (fun σ10 hr hσ10 => ?_) fuel (0 : Int32) σ6 hr hσ6
  refine r_iinc (pc := 92) (j := 1) (v := (v2_ + (1 : Int32))) (ls1 := [(2, .int (v2_ + (1 : Int32))), (0, .ref (ad g 58))]) dX4_remove_92 rfl rfl (nle rfl) rfl ?_
  refine r_goto (pc := 95) (tgt := 2) dX4_remove_95 rfl ?_
  exact r_pick (ls1 := [(0, .ref (ad g 58)), (2, .int (v2_ + (1 : Int32)))]) [1, 0] rfl (ih (v2_ + (1 : Int32)) σ10 hr hσ10)

set_option maxRecDepth 20000 in
theorem sX4_remove {g : GG} {σ : SS} {a1 : Int32} {r : SS} (hr : fX4_remove σ a1 = some r)  : Ct g mX4_remove [.ref (ad g 58), .int a1] NF σ none NF r := by
  refine Ct.of (by decide +kernel) (nle rfl) fun hw0 => ?_
  have hw := hw0 rfl
  unfold fX4_remove at hr
  change RR g mX4_remove (FinR g mX4_remove none NF r) zF 0 [(0, .ref (ad g 58)), (1, .int a1)] [] σ
  refine r_iload_n (pc := 0) (j := 1) dX4_remove_0 rfl rfl ?_
  refine r_istore_n (pc := 1) (ls1 := [(2, .int a1), (0, .ref (ad g 58)), (1, .int a1)]) dX4_remove_1 rfl (nle rfl) rfl ?_
  refine r_pick (ls1 := [(0, .ref (ad g 58)), (2, .int a1)]) [1, 0] rfl ?_
  refine sX4_remove_L2     fuel a1 σ hr hw

theorem kX4_remove {g : GG} {σ : SS} {a1 : Int32} {σ2 : SS} {M : MM} {F : State → Array Value → List Frame → State → Prop} {pc index : Nat} {ls : List (Nat × Value)} {rest : List Value} (hf : fX4_remove σ a1 = some σ2)  (hl : Cond.methodLink M.1.cls index yX4_remove ∈ lw_gt) (hR : mX4_remove.2.2.2.2.frames + 1 ≤ M.2.2.2.2.frames ∧ 8 + (mX4_remove.2.2.1 + 11) + mX4_remove.2.2.2.2.locals ≤ M.2.2.2.2.locals) (hrest : (rest.map fun v => v.category).sum ≤ 8) (hd : decode M.2.1 pc = .ok (.invokevirtual index, 3)) (k : WT σ2 → RR g M F zF (pc + 3) ls rest σ2) : RR g M F zF pc ls (.int a1 :: .ref (ad g 58) :: rest) σ :=
  r_callV (z := zF) (N := mX4_remove) (nn := 1) (o1 := none) (sX4_remove hf ) (rfl : shp 58 = (4, 0)) (by decide) (shp_le (rfl : shp 58 = (4, 0)) (nle rfl)) (ci := 4) rfl rfl tw_5_82 tw_1_8 hl tw_5_80 tw_5_81 ⟨by decide, by decide, rfl⟩ hR rfl hrest hd ⟨Nat.zero_le _, Nat.zero_le _⟩ rfl (fun h => k (h rfl))

theorem dX7_take_0 : decode cX7_take 0 = .ok (.aload_n 0, 1) := by decide +kernel
theorem dX7_take_1 : decode cX7_take 1 = .ok (.getfield 69, 3) := by decide +kernel
theorem dX7_take_4 : decode cX7_take 4 = .ok (.iload_n 1, 1) := by decide +kernel
theorem dX7_take_5 : decode cX7_take 5 = .ok (.invokevirtual 364, 3) := by decide +kernel
theorem dX7_take_8 : decode cX7_take 8 = .ok (.ifCond .ne 5, 3) := by decide +kernel
theorem dX7_take_11 : decode cX7_take 11 = .ok (.iconst (-1), 1) := by decide +kernel
theorem dX7_take_12 : decode cX7_take 12 = .ok (.ireturn, 1) := by decide +kernel
theorem dX7_take_13 : decode cX7_take 13 = .ok (.aload_n 0, 1) := by decide +kernel
theorem dX7_take_14 : decode cX7_take 14 = .ok (.getfield 69, 3) := by decide +kernel
theorem dX7_take_17 : decode cX7_take 17 = .ok (.iload_n 1, 1) := by decide +kernel
theorem dX7_take_18 : decode cX7_take 18 = .ok (.invokevirtual 400, 3) := by decide +kernel
theorem dX7_take_21 : decode cX7_take 21 = .ok (.aload_n 0, 1) := by decide +kernel
theorem dX7_take_22 : decode cX7_take 22 = .ok (.getfield 69, 3) := by decide +kernel
theorem dX7_take_25 : decode cX7_take 25 = .ok (.getfield 94, 3) := by decide +kernel
theorem dX7_take_28 : decode cX7_take 28 = .ok (.ireturn, 1) := by decide +kernel
def mX7_take : MM := (yX7_take, cX7_take, 2, Option.some Jvm.ClassFile.FieldType.int, { frames := 1, cells := 0, slots := 0, locals := 23 })
def fX7_take (σ : SS) (a1 : Int32) : Option (Int32 × SS) :=
  if (fX4_hasSheet σ a1) = true then (
    bnd1 (fX4_remove σ a1) fun σ1 =>
    some ((gI σ1 58 0), σ1)
    ) else (
    some ((-1 : Int32), σ)
    )

set_option maxRecDepth 20000 in
theorem sX7_take {g : GG} {σ : SS} {a1 : Int32} {r : Int32 × SS} (hr : fX7_take σ a1 = some r)  : Ct g mX7_take [.ref (ad g 1), .int a1] NF σ (some (.int r.1)) NF r.2 := by
  refine Ct.of (by decide +kernel) (nle rfl) fun hw0 => ?_
  have hw := hw0 rfl
  unfold fX7_take at hr
  change RR g mX7_take (FinR g mX7_take (some (.int r.1)) NF r.2) zF 0 [(0, .ref (ad g 1)), (1, .int a1)] [] σ
  refine r_aload_n (pc := 0) (j := 0) dX7_take_0 rfl rfl ?_
  refine gf7_13 (pc := 1) tw_2_122 hw dX7_take_1 ?_
  refine r_iload_n (pc := 4) (j := 1) dX7_take_4 rfl rfl ?_
  refine kX4_hasSheet (pc := 5) (hf := rfl) tw_5_17 ⟨nle rfl, nle rfl⟩ (nle rfl) dX7_take_5 ?_
  refine r_ifB_ne (pc := 8) (tgt := 13) dX7_take_8 rfl (fun hc => ?_) (fun hc => ?_)
  · replace hr := ite_t hc hr
    refine r_aload_n (pc := 13) (j := 0) dX7_take_13 rfl rfl ?_
    refine gf7_13 (pc := 14) tw_2_122 hw dX7_take_14 ?_
    refine r_iload_n (pc := 17) (j := 1) dX7_take_17 rfl rfl ?_
    obtain ⟨σ1, eσ1, hr⟩ := bnd1_inv hr
    refine kX4_remove (pc := 18) eσ1 tw_5_79 ⟨nle rfl, nle rfl⟩ (nle rfl) dX7_take_18 fun hσ1 => ?_
    refine r_aload_n (pc := 21) (j := 0) dX7_take_21 rfl rfl ?_
    refine gf7_13 (pc := 22) tw_2_122 hσ1 dX7_take_22 ?_
    refine gf4_0 (pc := 25) tw_2_79 rfl dX7_take_25 ?_
    exact l_osi hr (r_iret (pc := 28) (v := (gI σ1 58 0)) rfl rfl ⟨Nat.le_refl _, Nat.le_refl _⟩ dX7_take_28)
  replace hr := ite_f hc hr
  refine r_iconst (pc := 11) (v := (-1 : Int32)) dX7_take_11 rfl ?_
  exact l_osi hr (r_iret (pc := 12) (v := (-1 : Int32)) rfl rfl ⟨Nat.le_refl _, Nat.le_refl _⟩ dX7_take_12)

theorem kX7_take {g : GG} {σ : SS} {a1 : Int32} {v : Int32} {σ2 : SS} {M : MM} {F : State → Array Value → List Frame → State → Prop} {pc index : Nat} {ls : List (Nat × Value)} {rest : List Value} (hf : fX7_take σ a1 = some (v, σ2))  (hl : Cond.methodLink M.1.cls index yX7_take ∈ lw_gt) (hR : mX7_take.2.2.2.2.frames + 1 ≤ M.2.2.2.2.frames ∧ 8 + (mX7_take.2.2.1 + 11) + mX7_take.2.2.2.2.locals ≤ M.2.2.2.2.locals) (hrest : (rest.map fun v => v.category).sum ≤ 8) (hd : decode M.2.1 pc = .ok (.invokevirtual index, 3)) (k : WT σ2 → RR g M F zF (pc + 3) ls (.int v :: rest) σ2) : RR g M F zF pc ls (.int a1 :: .ref (ad g 1) :: rest) σ :=
  r_callV (z := zF) (N := mX7_take) (nn := 1) (o1 := some (.int v)) (sX7_take hf ) (rfl : shp 1 = (7, 0)) (by decide) (shp_le (rfl : shp 1 = (7, 0)) (nle rfl)) (ci := 7) rfl rfl tw_5_78 tw_1_1 hl tw_5_76 tw_5_77 ⟨by decide, by decide, rfl⟩ hR rfl hrest hd ⟨Nat.zero_le _, Nat.zero_le _⟩ rfl (fun h => k (h rfl))

theorem dX8_take_0 : decode cX8_take 0 = .ok (.iload_n 1, 1) := by decide +kernel
theorem dX8_take_1 : decode cX8_take 1 = .ok (.iconst 0, 1) := by decide +kernel
theorem dX8_take_2 : decode cX8_take 2 = .ok (.aload_n 0, 1) := by decide +kernel
theorem dX8_take_3 : decode cX8_take 3 = .ok (.getfield 259, 3) := by decide +kernel
theorem dX8_take_6 : decode cX8_take 6 = .ok (.iconst 1, 1) := by decide +kernel
theorem dX8_take_7 : decode cX8_take 7 = .ok (.isub, 1) := by decide +kernel
theorem dX8_take_8 : decode cX8_take 8 = .ok (.invokestatic 165, 3) := by decide +kernel
theorem dX8_take_11 : decode cX8_take 11 = .ok (.ifCond .ne 5, 3) := by decide +kernel
theorem dX8_take_14 : decode cX8_take 14 = .ok (.iconst (-1), 1) := by decide +kernel
theorem dX8_take_15 : decode cX8_take 15 = .ok (.ireturn, 1) := by decide +kernel
theorem dX8_take_16 : decode cX8_take 16 = .ok (.aload_n 0, 1) := by decide +kernel
theorem dX8_take_17 : decode cX8_take 17 = .ok (.aload_n 0, 1) := by decide +kernel
theorem dX8_take_18 : decode cX8_take 18 = .ok (.getfield 259, 3) := by decide +kernel
theorem dX8_take_21 : decode cX8_take 21 = .ok (.iconst 1, 1) := by decide +kernel
theorem dX8_take_22 : decode cX8_take 22 = .ok (.isub, 1) := by decide +kernel
theorem dX8_take_23 : decode cX8_take 23 = .ok (.putfield 259, 3) := by decide +kernel
theorem dX8_take_26 : decode cX8_take 26 = .ok (.iload_n 1, 1) := by decide +kernel
theorem dX8_take_27 : decode cX8_take 27 = .ok (.istore_n 2, 1) := by decide +kernel
theorem dX8_take_28 : decode cX8_take 28 = .ok (.iload_n 2, 1) := by decide +kernel
theorem dX8_take_29 : decode cX8_take 29 = .ok (.aload_n 0, 1) := by decide +kernel
theorem dX8_take_30 : decode cX8_take 30 = .ok (.getfield 259, 3) := by decide +kernel
theorem dX8_take_33 : decode cX8_take 33 = .ok (.if_icmp .ge 90, 3) := by decide +kernel
theorem dX8_take_36 : decode cX8_take 36 = .ok (.aload_n 0, 1) := by decide +kernel
theorem dX8_take_37 : decode cX8_take 37 = .ok (.getfield 117, 3) := by decide +kernel
theorem dX8_take_40 : decode cX8_take 40 = .ok (.iload_n 2, 1) := by decide +kernel
theorem dX8_take_41 : decode cX8_take 41 = .ok (.aload_n 0, 1) := by decide +kernel
theorem dX8_take_42 : decode cX8_take 42 = .ok (.getfield 117, 3) := by decide +kernel
theorem dX8_take_45 : decode cX8_take 45 = .ok (.iload_n 2, 1) := by decide +kernel
theorem dX8_take_46 : decode cX8_take 46 = .ok (.iconst 1, 1) := by decide +kernel
theorem dX8_take_47 : decode cX8_take 47 = .ok (.iadd, 1) := by decide +kernel
theorem dX8_take_48 : decode cX8_take 48 = .ok (.iaload, 1) := by decide +kernel
theorem dX8_take_49 : decode cX8_take 49 = .ok (.iastore, 1) := by decide +kernel
theorem dX8_take_50 : decode cX8_take 50 = .ok (.aload_n 0, 1) := by decide +kernel
theorem dX8_take_51 : decode cX8_take 51 = .ok (.getfield 120, 3) := by decide +kernel
theorem dX8_take_54 : decode cX8_take 54 = .ok (.iload_n 2, 1) := by decide +kernel
theorem dX8_take_55 : decode cX8_take 55 = .ok (.aload_n 0, 1) := by decide +kernel
theorem dX8_take_56 : decode cX8_take 56 = .ok (.getfield 120, 3) := by decide +kernel
theorem dX8_take_59 : decode cX8_take 59 = .ok (.iload_n 2, 1) := by decide +kernel
theorem dX8_take_60 : decode cX8_take 60 = .ok (.iconst 1, 1) := by decide +kernel
theorem dX8_take_61 : decode cX8_take 61 = .ok (.iadd, 1) := by decide +kernel
theorem dX8_take_62 : decode cX8_take 62 = .ok (.iaload, 1) := by decide +kernel
theorem dX8_take_63 : decode cX8_take 63 = .ok (.iastore, 1) := by decide +kernel
theorem dX8_take_64 : decode cX8_take 64 = .ok (.aload_n 0, 1) := by decide +kernel
theorem dX8_take_65 : decode cX8_take 65 = .ok (.getfield 123, 3) := by decide +kernel
theorem dX8_take_68 : decode cX8_take 68 = .ok (.iload_n 2, 1) := by decide +kernel
theorem dX8_take_69 : decode cX8_take 69 = .ok (.aload_n 0, 1) := by decide +kernel
theorem dX8_take_70 : decode cX8_take 70 = .ok (.getfield 123, 3) := by decide +kernel
theorem dX8_take_73 : decode cX8_take 73 = .ok (.iload_n 2, 1) := by decide +kernel
theorem dX8_take_74 : decode cX8_take 74 = .ok (.iconst 1, 1) := by decide +kernel
theorem dX8_take_75 : decode cX8_take 75 = .ok (.iadd, 1) := by decide +kernel
theorem dX8_take_76 : decode cX8_take 76 = .ok (.iaload, 1) := by decide +kernel
theorem dX8_take_77 : decode cX8_take 77 = .ok (.iastore, 1) := by decide +kernel
theorem dX8_take_78 : decode cX8_take 78 = .ok (.iconst 0, 1) := by decide +kernel
theorem dX8_take_79 : decode cX8_take 79 = .ok (.istore_n 3, 1) := by decide +kernel
theorem dX8_take_80 : decode cX8_take 80 = .ok (.iload_n 3, 1) := by decide +kernel
theorem dX8_take_81 : decode cX8_take 81 = .ok (.bipush 12, 2) := by decide +kernel
theorem dX8_take_83 : decode cX8_take 83 = .ok (.if_icmp .ge 34, 3) := by decide +kernel
theorem dX8_take_86 : decode cX8_take 86 = .ok (.aload_n 0, 1) := by decide +kernel
theorem dX8_take_87 : decode cX8_take 87 = .ok (.getfield 126, 3) := by decide +kernel
theorem dX8_take_90 : decode cX8_take 90 = .ok (.bipush 12, 2) := by decide +kernel
theorem dX8_take_92 : decode cX8_take 92 = .ok (.iload_n 2, 1) := by decide +kernel
theorem dX8_take_93 : decode cX8_take 93 = .ok (.imul, 1) := by decide +kernel
theorem dX8_take_94 : decode cX8_take 94 = .ok (.iload_n 3, 1) := by decide +kernel
theorem dX8_take_95 : decode cX8_take 95 = .ok (.iadd, 1) := by decide +kernel
theorem dX8_take_96 : decode cX8_take 96 = .ok (.aload_n 0, 1) := by decide +kernel
theorem dX8_take_97 : decode cX8_take 97 = .ok (.getfield 126, 3) := by decide +kernel
theorem dX8_take_100 : decode cX8_take 100 = .ok (.bipush 12, 2) := by decide +kernel
theorem dX8_take_102 : decode cX8_take 102 = .ok (.iload_n 2, 1) := by decide +kernel
theorem dX8_take_103 : decode cX8_take 103 = .ok (.imul, 1) := by decide +kernel
theorem dX8_take_104 : decode cX8_take 104 = .ok (.bipush 12, 2) := by decide +kernel
theorem dX8_take_106 : decode cX8_take 106 = .ok (.iadd, 1) := by decide +kernel
theorem dX8_take_107 : decode cX8_take 107 = .ok (.iload_n 3, 1) := by decide +kernel
theorem dX8_take_108 : decode cX8_take 108 = .ok (.iadd, 1) := by decide +kernel
theorem dX8_take_109 : decode cX8_take 109 = .ok (.iaload, 1) := by decide +kernel
theorem dX8_take_110 : decode cX8_take 110 = .ok (.iastore, 1) := by decide +kernel
theorem dX8_take_111 : decode cX8_take 111 = .ok (.iinc 3 1, 3) := by decide +kernel
theorem dX8_take_114 : decode cX8_take 114 = .ok (.goto (-34), 3) := by decide +kernel
theorem dX8_take_117 : decode cX8_take 117 = .ok (.iinc 2 1, 3) := by decide +kernel
theorem dX8_take_120 : decode cX8_take 120 = .ok (.goto (-92), 3) := by decide +kernel
theorem dX8_take_123 : decode cX8_take 123 = .ok (.aload_n 0, 1) := by decide +kernel
theorem dX8_take_124 : decode cX8_take 124 = .ok (.getfield 259, 3) := by decide +kernel
theorem dX8_take_127 : decode cX8_take 127 = .ok (.ireturn, 1) := by decide +kernel
def mX8_take : MM := (yX8_take, cX8_take, 4, Option.some Jvm.ClassFile.FieldType.int, { frames := 1, cells := 0, slots := 0, locals := 22 })
def X8_take_L80 (u2_ : Int32) (k117 : SS → Option (Int32 × SS)) : Nat → Int32 → SS → Option (Int32 × SS) :=
  lp (fun _ _ => none) fun rec v3_ σ_ =>
    if (12 : Int32) ≤ v3_ then (
      k117 σ_
      ) else (
      grd (inb ((((12 : Int32) * u2_) + (12 : Int32)) + v3_) 192) <|
      grd (inb (((12 : Int32) * u2_) + v3_) 192) <|
      vthen (sI σ_ 112 (Int32.toNatClampNeg (((12 : Int32) * u2_) + v3_)) (gI σ_ 112 (Int32.toNatClampNeg ((((12 : Int32) * u2_) + (12 : Int32)) + v3_)))) fun σ9 =>
      rec (v3_ + (1 : Int32)) σ9
      )

def X8_take_L28   : Nat → Int32 → SS → Option (Int32 × SS) :=
  lp (fun _ _ => none) fun rec v2_ σ_ =>
    if (gI σ_ 73 65) ≤ v2_ then (
      some ((gI σ_ 73 65), σ_)
      ) else (
      grd (inb (v2_ + (1 : Int32)) 16) <|
      grd (inb v2_ 16) <|
      vthen (sI σ_ 109 (Int32.toNatClampNeg v2_) (gI σ_ 109 (Int32.toNatClampNeg (v2_ + (1 : Int32))))) fun σ4 =>
      vthen (sI σ4 110 (Int32.toNatClampNeg v2_) (gI σ4 110 (Int32.toNatClampNeg (v2_ + (1 : Int32))))) fun σ5 =>
      vthen (sI σ5 111 (Int32.toNatClampNeg v2_) (gI σ5 111 (Int32.toNatClampNeg (v2_ + (1 : Int32))))) fun σ6 =>
      X8_take_L80 v2_
      (fun σ10 =>
        rec (v2_ + (1 : Int32)) σ10
        )
      fuel (0 : Int32) σ6
      )

def fX8_take (σ : SS) (a1 : Int32) : Option (Int32 × SS) :=
  if (fX8_in σ a1 (0 : Int32) ((gI σ 73 65) - (1 : Int32))) = true then (
    vthen (sI σ 73 65 ((gI σ 73 65) - (1 : Int32))) fun σ1 =>
    X8_take_L28
    fuel a1 σ1
    ) else (
    some ((-1 : Int32), σ)
    )

set_option maxRecDepth 20000 in
theorem sX8_take_L80 {g : GG} {r : Int32 × SS} {u2_ : Int32} {k117 : SS → Option (Int32 × SS)} 
    (hk117 : ∀ (σ_ : SS), k117 σ_ = some r → WT σ_ → RR g mX8_take (FinR g mX8_take (some (.int r.1)) NF r.2) zF 117 [(0, .ref (ad g 73)), (2, .int u2_)] [] σ_)
    (n : Nat) : ∀ (v3_ : Int32) (σ_ : SS), X8_take_L80 u2_ k117 n v3_ σ_ = some r → WT σ_ → RR g mX8_take (FinR g mX8_take (some (.int r.1)) NF r.2) zF 80 [(0, .ref (ad g 73)), (2, .int u2_), (3, .int v3_)] [] σ_ := by
  unfold X8_take_L80
  refine lp_ind (P := fun (rec : Int32 → SS → Option (Int32 × SS)) => ∀ (v3_ : Int32) (σ_ : SS), rec v3_ σ_ = some r → WT σ_ → RR g mX8_take (FinR g mX8_take (some (.int r.1)) NF r.2) zF 80 [(0, .ref (ad g 73)), (2, .int u2_), (3, .int v3_)] [] σ_) ?_ ?_ n
  · intro v3_ σ_ hr; cases hr
  intro rec ih v3_ σ_ hr hw_
  refine r_iload_n (pc := 80) (j := 2) dX8_take_80 rfl rfl ?_
  refine r_bipush (pc := 81) (v := (12 : Int32)) dX8_take_81 rfl ?_
  refine r_icmp_ge (pc := 83) (tgt := 117) dX8_take_83 rfl (fun hc => ?_) (fun hc => ?_)
  · replace hr := ite_t hc hr
    exact r_pick (ls1 := [(0, .ref (ad g 73)), (2, .int u2_)]) [0, 1] rfl (hk117 σ_ hr hw_)
  replace hr := ite_f hc hr
  refine r_aload_n (pc := 86) (j := 0) dX8_take_86 rfl rfl ?_
  refine gf8_63 (pc := 87) tw_5_157 hw_ dX8_take_87 ?_
  refine r_bipush (pc := 90) (v := (12 : Int32)) dX8_take_90 rfl ?_
  refine r_iload_n (pc := 92) (j := 1) dX8_take_92 rfl rfl ?_
  refine r_imul (pc := 93) dX8_take_93 ?_
  refine r_iload_n (pc := 94) (j := 2) dX8_take_94 rfl rfl ?_
  refine r_iadd (pc := 95) dX8_take_95 ?_
  refine r_aload_n (pc := 96) (j := 0) dX8_take_96 rfl rfl ?_
  refine gf8_63 (pc := 97) tw_5_157 hw_ dX8_take_97 ?_
  refine r_bipush (pc := 100) (v := (12 : Int32)) dX8_take_100 rfl ?_
  refine r_iload_n (pc := 102) (j := 1) dX8_take_102 rfl rfl ?_
  refine r_imul (pc := 103) dX8_take_103 ?_
  refine r_bipush (pc := 104) (v := (12 : Int32)) dX8_take_104 rfl ?_
  refine r_iadd (pc := 106) dX8_take_106 ?_
  refine r_iload_n (pc := 107) (j := 2) dX8_take_107 rfl rfl ?_
  refine r_iadd (pc := 108) dX8_take_108 ?_
  obtain ⟨h7, hr⟩ := grd_inv hr
  refine x_iald (pc := 109) (k := (Int32.toNatClampNeg ((((12 : Int32) * u2_) + (12 : Int32)) + v3_))) rfl h7 rfl dX8_take_109 ?_
  obtain ⟨h8, hr⟩ := grd_inv hr
  refine x_iast (pc := 110) (j := (Int32.toNatClampNeg (((12 : Int32) * u2_) + v3_))) rfl h8 rfl dX8_take_110 fun σ9 eσ9 => ?_
  replace hr := vthen_inv hr σ9 eσ9
  have hσ9 := wtI eσ9 hw_
  refine r_iinc (pc := 111) (j := 2) (v := (v3_ + (1 : Int32))) (ls1 := [(3, .int (v3_ + (1 : Int32))), (0, .ref (ad g 73)), (2, .int u2_)]) dX8_take_111 rfl rfl (nle rfl) rfl ?_
  refine r_goto (pc := 114) (tgt := 80) dX8_take_114 rfl ?_
  exact r_pick (ls1 := [(0, .ref (ad g 73)), (2, .int u2_), (3, .int (v3_ + (1 : Int32)))]) [1, 2, 0] rfl (ih (v3_ + (1 : Int32)) σ9 hr hσ9)

set_option maxRecDepth 20000 in
theorem sX8_take_L28 {g : GG} {r : Int32 × SS}   
    (n : Nat) : ∀ (v2_ : Int32) (σ_ : SS), X8_take_L28 n v2_ σ_ = some r → WT σ_ → RR g mX8_take (FinR g mX8_take (some (.int r.1)) NF r.2) zF 28 [(0, .ref (ad g 73)), (2, .int v2_)] [] σ_ := by
  unfold X8_take_L28
  refine lp_ind (P := fun (rec : Int32 → SS → Option (Int32 × SS)) => ∀ (v2_ : Int32) (σ_ : SS), rec v2_ σ_ = some r → WT σ_ → RR g mX8_take (FinR g mX8_take (some (.int r.1)) NF r.2) zF 28 [(0, .ref (ad g 73)), (2, .int v2_)] [] σ_) ?_ ?_ n
  · intro v2_ σ_ hr; cases hr
  intro rec ih v2_ σ_ hr hw_
  refine r_iload_n (pc := 28) (j := 1) dX8_take_28 rfl rfl ?_
  refine r_aload_n (pc := 29) (j := 0) dX8_take_29 rfl rfl ?_
  refine gf8_65 (pc := 30) tw_5_159 rfl dX8_take_30 ?_
  refine r_icmp_ge (pc := 33) (tgt := 123) dX8_take_33 rfl (fun hc => ?_) (fun hc => ?_)
  · replace hr := ite_t hc hr
    refine r_aload_n (pc := 123) (j := 0) dX8_take_123 rfl rfl ?_
    refine gf8_65 (pc := 124) tw_5_159 rfl dX8_take_124 ?_
    exact l_osi hr (r_iret (pc := 127) (v := (gI σ_ 73 65)) rfl rfl ⟨Nat.le_refl _, Nat.le_refl _⟩ dX8_take_127)
  replace hr := ite_f hc hr
  refine r_aload_n (pc := 36) (j := 0) dX8_take_36 rfl rfl ?_
  refine gf8_60 (pc := 37) tw_5_154 hw_ dX8_take_37 ?_
  refine r_iload_n (pc := 40) (j := 1) dX8_take_40 rfl rfl ?_
  refine r_aload_n (pc := 41) (j := 0) dX8_take_41 rfl rfl ?_
  refine gf8_60 (pc := 42) tw_5_154 hw_ dX8_take_42 ?_
  refine r_iload_n (pc := 45) (j := 1) dX8_take_45 rfl rfl ?_
  refine r_iconst (pc := 46) (v := (1 : Int32)) dX8_take_46 rfl ?_
  refine r_iadd (pc := 47) dX8_take_47 ?_
  obtain ⟨h2, hr⟩ := grd_inv hr
  refine x_iald (pc := 48) (k := (Int32.toNatClampNeg (v2_ + (1 : Int32)))) rfl h2 rfl dX8_take_48 ?_
  obtain ⟨h3, hr⟩ := grd_inv hr
  refine x_iast (pc := 49) (j := (Int32.toNatClampNeg v2_)) rfl h3 rfl dX8_take_49 fun σ4 eσ4 => ?_
  replace hr := vthen_inv hr σ4 eσ4
  have hσ4 := wtI eσ4 hw_
  refine r_aload_n (pc := 50) (j := 0) dX8_take_50 rfl rfl ?_
  refine gf8_61 (pc := 51) tw_5_155 hσ4 dX8_take_51 ?_
  refine r_iload_n (pc := 54) (j := 1) dX8_take_54 rfl rfl ?_
  refine r_aload_n (pc := 55) (j := 0) dX8_take_55 rfl rfl ?_
  refine gf8_61 (pc := 56) tw_5_155 hσ4 dX8_take_56 ?_
  refine r_iload_n (pc := 59) (j := 1) dX8_take_59 rfl rfl ?_
  refine r_iconst (pc := 60) (v := (1 : Int32)) dX8_take_60 rfl ?_
  refine r_iadd (pc := 61) dX8_take_61 ?_
  refine x_iald (pc := 62) (k := (Int32.toNatClampNeg (v2_ + (1 : Int32)))) rfl h2 rfl dX8_take_62 ?_
  refine x_iast (pc := 63) (j := (Int32.toNatClampNeg v2_)) rfl h3 rfl dX8_take_63 fun σ5 eσ5 => ?_
  replace hr := vthen_inv hr σ5 eσ5
  have hσ5 := wtI eσ5 hσ4
  refine r_aload_n (pc := 64) (j := 0) dX8_take_64 rfl rfl ?_
  refine gf8_62 (pc := 65) tw_5_156 hσ5 dX8_take_65 ?_
  refine r_iload_n (pc := 68) (j := 1) dX8_take_68 rfl rfl ?_
  refine r_aload_n (pc := 69) (j := 0) dX8_take_69 rfl rfl ?_
  refine gf8_62 (pc := 70) tw_5_156 hσ5 dX8_take_70 ?_
  refine r_iload_n (pc := 73) (j := 1) dX8_take_73 rfl rfl ?_
  refine r_iconst (pc := 74) (v := (1 : Int32)) dX8_take_74 rfl ?_
  refine r_iadd (pc := 75) dX8_take_75 ?_
  refine x_iald (pc := 76) (k := (Int32.toNatClampNeg (v2_ + (1 : Int32)))) rfl h2 rfl dX8_take_76 ?_
  refine x_iast (pc := 77) (j := (Int32.toNatClampNeg v2_)) rfl h3 rfl dX8_take_77 fun σ6 eσ6 => ?_
  replace hr := vthen_inv hr σ6 eσ6
  have hσ6 := wtI eσ6 hσ5
  refine r_iconst (pc := 78) (v := (0 : Int32)) dX8_take_78 rfl ?_
  refine r_istore_n (pc := 79) (ls1 := [(3, .int (0 : Int32)), (0, .ref (ad g 73)), (2, .int v2_)]) dX8_take_79 rfl (nle rfl) rfl ?_
  refine r_pick (ls1 := [(0, .ref (ad g 73)), (2, .int v2_), (3, .int (0 : Int32))]) [1, 2, 0] rfl ?_
  refine sX8_take_L80    (fun σ10 hr hσ10 => ?_) fuel (0 : Int32) σ6 hr hσ6
  refine r_iinc (pc := 117) (j := 1) (v := (v2_ + (1 : Int32))) (ls1 := [(2, .int (v2_ + (1 : Int32))), (0, .ref (ad g 73))]) dX8_take_117 rfl rfl (nle rfl) rfl ?_
  refine r_goto (pc := 120) (tgt := 28) dX8_take_120 rfl ?_
  exact r_pick (ls1 := [(0, .ref (ad g 73)), (2, .int (v2_ + (1 : Int32)))]) [1, 0] rfl (ih (v2_ + (1 : Int32)) σ10 hr hσ10)

set_option maxRecDepth 20000 in
theorem sX8_take {g : GG} {σ : SS} {a1 : Int32} {r : Int32 × SS} (hr : fX8_take σ a1 = some r)  : Ct g mX8_take [.ref (ad g 73), .int a1] NF σ (some (.int r.1)) NF r.2 := by
  refine Ct.of (by decide +kernel) (nle rfl) fun hw0 => ?_
  have hw := hw0 rfl
  unfold fX8_take at hr
  change RR g mX8_take (FinR g mX8_take (some (.int r.1)) NF r.2) zF 0 [(0, .ref (ad g 73)), (1, .int a1)] [] σ
  refine r_iload_n (pc := 0) (j := 1) dX8_take_0 rfl rfl ?_
  refine r_iconst (pc := 1) (v := (0 : Int32)) dX8_take_1 rfl ?_
  refine r_aload_n (pc := 2) (j := 0) dX8_take_2 rfl rfl ?_
  refine gf8_65 (pc := 3) tw_5_159 rfl dX8_take_3 ?_
  refine r_iconst (pc := 6) (v := (1 : Int32)) dX8_take_6 rfl ?_
  refine r_isub (pc := 7) dX8_take_7 ?_
  refine kX8_in (pc := 8) (hf := rfl) tw_6_65 ⟨nle rfl, nle rfl⟩ (nle rfl) dX8_take_8 ?_
  refine r_ifB_ne (pc := 11) (tgt := 16) dX8_take_11 rfl (fun hc => ?_) (fun hc => ?_)
  · replace hr := ite_t hc hr
    refine r_aload_n (pc := 16) (j := 0) dX8_take_16 rfl rfl ?_
    refine r_aload_n (pc := 17) (j := 0) dX8_take_17 rfl rfl ?_
    refine gf8_65 (pc := 18) tw_5_159 rfl dX8_take_18 ?_
    refine r_iconst (pc := 21) (v := (1 : Int32)) dX8_take_21 rfl ?_
    refine r_isub (pc := 22) dX8_take_22 ?_
    refine pf8_65 (pc := 23) tw_5_159 rfl dX8_take_23 fun σ1 eσ1 => ?_
    replace hr := vthen_inv hr σ1 eσ1
    have hσ1 := wtI eσ1 hw
    refine r_iload_n (pc := 26) (j := 1) dX8_take_26 rfl rfl ?_
    refine r_istore_n (pc := 27) (ls1 := [(2, .int a1), (0, .ref (ad g 73)), (1, .int a1)]) dX8_take_27 rfl (nle rfl) rfl ?_
    refine r_pick (ls1 := [(0, .ref (ad g 73)), (2, .int a1)]) [1, 0] rfl ?_
    refine sX8_take_L28     fuel a1 σ1 hr hσ1
  replace hr := ite_f hc hr
  refine r_iconst (pc := 14) (v := (-1 : Int32)) dX8_take_14 rfl ?_
  exact l_osi hr (r_iret (pc := 15) (v := (-1 : Int32)) rfl rfl ⟨Nat.le_refl _, Nat.le_refl _⟩ dX8_take_15)

theorem kX8_take {g : GG} {σ : SS} {a1 : Int32} {v : Int32} {σ2 : SS} {M : MM} {F : State → Array Value → List Frame → State → Prop} {pc index : Nat} {ls : List (Nat × Value)} {rest : List Value} (hf : fX8_take σ a1 = some (v, σ2))  (hl : Cond.methodLink M.1.cls index yX8_take ∈ lw_gt) (hR : mX8_take.2.2.2.2.frames + 1 ≤ M.2.2.2.2.frames ∧ 8 + (mX8_take.2.2.1 + 11) + mX8_take.2.2.2.2.locals ≤ M.2.2.2.2.locals) (hrest : (rest.map fun v => v.category).sum ≤ 8) (hd : decode M.2.1 pc = .ok (.invokevirtual index, 3)) (k : WT σ2 → RR g M F zF (pc + 3) ls (.int v :: rest) σ2) : RR g M F zF pc ls (.int a1 :: .ref (ad g 73) :: rest) σ :=
  r_callV (z := zF) (N := mX8_take) (nn := 1) (o1 := some (.int v)) (sX8_take hf ) (rfl : shp 73 = (8, 0)) (by decide) (shp_le (rfl : shp 73 = (8, 0)) (nle rfl)) (ci := 8) rfl rfl tw_7_218 tw_1_10 hl tw_7_216 tw_7_217 ⟨by decide, by decide, rfl⟩ hR rfl hrest hd ⟨Nat.zero_le _, Nat.zero_le _⟩ rfl (fun h => k (h rfl))

theorem dX7_level_0 : decode cX7_level 0 = .ok (.iconst 1, 1) := by decide +kernel
theorem dX7_level_1 : decode cX7_level 1 = .ok (.istore_n 1, 1) := by decide +kernel
theorem dX7_level_2 : decode cX7_level 2 = .ok (.lconst 0, 1) := by decide +kernel
theorem dX7_level_3 : decode cX7_level 3 = .ok (.lstore_n 2, 1) := by decide +kernel
theorem dX7_level_4 : decode cX7_level 4 = .ok (.lconst 0, 1) := by decide +kernel
theorem dX7_level_5 : decode cX7_level 5 = .ok (.lstore 4, 2) := by decide +kernel
theorem dX7_level_7 : decode cX7_level 7 = .ok (.lconst 1, 1) := by decide +kernel
theorem dX7_level_8 : decode cX7_level 8 = .ok (.lstore 6, 2) := by decide +kernel
theorem dX7_level_10 : decode cX7_level 10 = .ok (.iconst 1, 1) := by decide +kernel
theorem dX7_level_11 : decode cX7_level 11 = .ok (.istore 8, 2) := by decide +kernel
theorem dX7_level_13 : decode cX7_level 13 = .ok (.iload 8, 2) := by decide +kernel
theorem dX7_level_15 : decode cX7_level 15 = .ok (.bipush 9, 2) := by decide +kernel
theorem dX7_level_17 : decode cX7_level 17 = .ok (.if_icmp .gt 149, 3) := by decide +kernel
theorem dX7_level_20 : decode cX7_level 20 = .ok (.aload_n 0, 1) := by decide +kernel
theorem dX7_level_21 : decode cX7_level 21 = .ok (.getfield 18, 3) := by decide +kernel
theorem dX7_level_24 : decode cX7_level 24 = .ok (.iload 8, 2) := by decide +kernel
theorem dX7_level_26 : decode cX7_level 26 = .ok (.invokevirtual 114, 3) := by decide +kernel
theorem dX7_level_29 : decode cX7_level 29 = .ok (.i2l, 1) := by decide +kernel
theorem dX7_level_30 : decode cX7_level 30 = .ok (.lstore 9, 2) := by decide +kernel
theorem dX7_level_32 : decode cX7_level 32 = .ok (.aload_n 0, 1) := by decide +kernel
theorem dX7_level_33 : decode cX7_level 33 = .ok (.getfield 18, 3) := by decide +kernel
theorem dX7_level_36 : decode cX7_level 36 = .ok (.invokevirtual 403, 3) := by decide +kernel
theorem dX7_level_39 : decode cX7_level 39 = .ok (.i2l, 1) := by decide +kernel
theorem dX7_level_40 : decode cX7_level 40 = .ok (.lload 9, 2) := by decide +kernel
theorem dX7_level_42 : decode cX7_level 42 = .ok (.lsub, 1) := by decide +kernel
theorem dX7_level_43 : decode cX7_level 43 = .ok (.lstore 11, 2) := by decide +kernel
theorem dX7_level_45 : decode cX7_level 45 = .ok (.aload_n 0, 1) := by decide +kernel
theorem dX7_level_46 : decode cX7_level 46 = .ok (.getfield 18, 3) := by decide +kernel
theorem dX7_level_49 : decode cX7_level 49 = .ok (.iload 8, 2) := by decide +kernel
theorem dX7_level_51 : decode cX7_level 51 = .ok (.invokevirtual 118, 3) := by decide +kernel
theorem dX7_level_54 : decode cX7_level 54 = .ok (.i2l, 1) := by decide +kernel
theorem dX7_level_55 : decode cX7_level 55 = .ok (.lstore 13, 2) := by decide +kernel
theorem dX7_level_57 : decode cX7_level 57 = .ok (.aload_n 0, 1) := by decide +kernel
theorem dX7_level_58 : decode cX7_level 58 = .ok (.getfield 18, 3) := by decide +kernel
theorem dX7_level_61 : decode cX7_level 61 = .ok (.iconst 0, 1) := by decide +kernel
theorem dX7_level_62 : decode cX7_level 62 = .ok (.invokevirtual 118, 3) := by decide +kernel
theorem dX7_level_65 : decode cX7_level 65 = .ok (.i2l, 1) := by decide +kernel
theorem dX7_level_66 : decode cX7_level 66 = .ok (.lload 13, 2) := by decide +kernel
theorem dX7_level_68 : decode cX7_level 68 = .ok (.lsub, 1) := by decide +kernel
theorem dX7_level_69 : decode cX7_level 69 = .ok (.lstore 15, 2) := by decide +kernel
theorem dX7_level_71 : decode cX7_level 71 = .ok (.lload 11, 2) := by decide +kernel
theorem dX7_level_73 : decode cX7_level 73 = .ok (.lload 9, 2) := by decide +kernel
theorem dX7_level_75 : decode cX7_level 75 = .ok (.lmul, 1) := by decide +kernel
theorem dX7_level_76 : decode cX7_level 76 = .ok (.lstore 17, 2) := by decide +kernel
theorem dX7_level_78 : decode cX7_level 78 = .ok (.lload 17, 2) := by decide +kernel
theorem dX7_level_80 : decode cX7_level 80 = .ok (.lconst 0, 1) := by decide +kernel
theorem dX7_level_81 : decode cX7_level 81 = .ok (.lcmp, 1) := by decide +kernel
theorem dX7_level_82 : decode cX7_level 82 = .ok (.ifCond .le 78, 3) := by decide +kernel
theorem dX7_level_85 : decode cX7_level 85 = .ok (.lload 13, 2) := by decide +kernel
theorem dX7_level_87 : decode cX7_level 87 = .ok (.lload 11, 2) := by decide +kernel
theorem dX7_level_89 : decode cX7_level 89 = .ok (.lmul, 1) := by decide +kernel
theorem dX7_level_90 : decode cX7_level 90 = .ok (.lload 15, 2) := by decide +kernel
theorem dX7_level_92 : decode cX7_level 92 = .ok (.lload 9, 2) := by decide +kernel
theorem dX7_level_94 : decode cX7_level 94 = .ok (.lmul, 1) := by decide +kernel
theorem dX7_level_95 : decode cX7_level 95 = .ok (.lsub, 1) := by decide +kernel
theorem dX7_level_96 : decode cX7_level 96 = .ok (.lstore 19, 2) := by decide +kernel
theorem dX7_level_98 : decode cX7_level 98 = .ok (.lload 19, 2) := by decide +kernel
theorem dX7_level_100 : decode cX7_level 100 = .ok (.lload 19, 2) := by decide +kernel
theorem dX7_level_102 : decode cX7_level 102 = .ok (.lmul, 1) := by decide +kernel
theorem dX7_level_103 : decode cX7_level 103 = .ok (.lload 17, 2) := by decide +kernel
theorem dX7_level_105 : decode cX7_level 105 = .ok (.ldiv, 1) := by decide +kernel
theorem dX7_level_106 : decode cX7_level 106 = .ok (.lstore 21, 2) := by decide +kernel
theorem dX7_level_108 : decode cX7_level 108 = .ok (.lload 19, 2) := by decide +kernel
theorem dX7_level_110 : decode cX7_level 110 = .ok (.lload 19, 2) := by decide +kernel
theorem dX7_level_112 : decode cX7_level 112 = .ok (.lmul, 1) := by decide +kernel
theorem dX7_level_113 : decode cX7_level 113 = .ok (.lload 17, 2) := by decide +kernel
theorem dX7_level_115 : decode cX7_level 115 = .ok (.lrem, 1) := by decide +kernel
theorem dX7_level_116 : decode cX7_level 116 = .ok (.lstore 23, 2) := by decide +kernel
theorem dX7_level_118 : decode cX7_level 118 = .ok (.lload 21, 2) := by decide +kernel
theorem dX7_level_120 : decode cX7_level 120 = .ok (.lload_n 2, 1) := by decide +kernel
theorem dX7_level_121 : decode cX7_level 121 = .ok (.lcmp, 1) := by decide +kernel
theorem dX7_level_122 : decode cX7_level 122 = .ok (.ifCond .gt 24, 3) := by decide +kernel
theorem dX7_level_125 : decode cX7_level 125 = .ok (.lload 21, 2) := by decide +kernel
theorem dX7_level_127 : decode cX7_level 127 = .ok (.lload_n 2, 1) := by decide +kernel
theorem dX7_level_128 : decode cX7_level 128 = .ok (.lcmp, 1) := by decide +kernel
theorem dX7_level_129 : decode cX7_level 129 = .ok (.ifCond .ne 31, 3) := by decide +kernel
theorem dX7_level_132 : decode cX7_level 132 = .ok (.lload 23, 2) := by decide +kernel
theorem dX7_level_134 : decode cX7_level 134 = .ok (.lload 6, 2) := by decide +kernel
theorem dX7_level_136 : decode cX7_level 136 = .ok (.lmul, 1) := by decide +kernel
theorem dX7_level_137 : decode cX7_level 137 = .ok (.lload 4, 2) := by decide +kernel
theorem dX7_level_139 : decode cX7_level 139 = .ok (.lload 17, 2) := by decide +kernel
theorem dX7_level_141 : decode cX7_level 141 = .ok (.lmul, 1) := by decide +kernel
theorem dX7_level_142 : decode cX7_level 142 = .ok (.lcmp, 1) := by decide +kernel
theorem dX7_level_143 : decode cX7_level 143 = .ok (.ifCond .le 17, 3) := by decide +kernel
theorem dX7_level_146 : decode cX7_level 146 = .ok (.iload 8, 2) := by decide +kernel
theorem dX7_level_148 : decode cX7_level 148 = .ok (.istore_n 1, 1) := by decide +kernel
theorem dX7_level_149 : decode cX7_level 149 = .ok (.lload 21, 2) := by decide +kernel
theorem dX7_level_151 : decode cX7_level 151 = .ok (.lstore_n 2, 1) := by decide +kernel
theorem dX7_level_152 : decode cX7_level 152 = .ok (.lload 23, 2) := by decide +kernel
theorem dX7_level_154 : decode cX7_level 154 = .ok (.lstore 4, 2) := by decide +kernel
theorem dX7_level_156 : decode cX7_level 156 = .ok (.lload 17, 2) := by decide +kernel
theorem dX7_level_158 : decode cX7_level 158 = .ok (.lstore 6, 2) := by decide +kernel
theorem dX7_level_160 : decode cX7_level 160 = .ok (.iinc 8 1, 3) := by decide +kernel
theorem dX7_level_163 : decode cX7_level 163 = .ok (.goto (-150), 3) := by decide +kernel
theorem dX7_level_166 : decode cX7_level 166 = .ok (.iload_n 1, 1) := by decide +kernel
theorem dX7_level_167 : decode cX7_level 167 = .ok (.ireturn, 1) := by decide +kernel
def mX7_level : MM := (yX7_level, cX7_level, 25, Option.some Jvm.ClassFile.FieldType.int, { frames := 1, cells := 0, slots := 0, locals := 23 })
def X7_level_L13 (σ_ : SS)   : Nat → Int32 → Int64 → Int64 → Int64 → Int32 → Option Int32 :=
  lp (fun _ _ _ _ _ => none) fun rec v1_ w2_ w4_ w6_ v8_ =>
    if (9 : Int32) < v8_ then (
      some v1_
      ) else (
      bnd1 (fX6_notBelow σ_ (gR σ_ 1 2) v8_) fun v1 =>
      vthen (Int32.toInt64 v1) fun w4 =>
      vthen ((Int32.toInt64 (fX6_size σ_ (gR σ_ 1 2))) - w4) fun w5 =>
      bnd1 (fX6_sumNotBelow σ_ (gR σ_ 1 2) v8_) fun v6 =>
      vthen (Int32.toInt64 v6) fun w9 =>
      bnd1 (fX6_sumNotBelow σ_ (gR σ_ 1 2) (0 : Int32)) fun v10 =>
      vthen ((Int32.toInt64 v10) - w9) fun w13 =>
      vthen (w5 * w4) fun w14 =>
      if (lg_cmp w14 (0 : Int64)) ≤ 0 then (
        rec v1_ w2_ w4_ w6_ (v8_ + (1 : Int32))
        ) else (
        vthen ((w9 * w5) - (w13 * w4)) fun w15 =>
        grd (nzl w14) <|
        vthen ((w15 * w15) / w14) fun w17 =>
        vthen (lrm (w15 * w15) w14) fun w18 =>
        vthen (fun (_u : Unit) =>
          rec v8_ w17 w18 w14 (v8_ + (1 : Int32))
          ) fun j146 =>
        if 0 < (lg_cmp w17 w2_) then (
          j146 ()
          ) else (
          if (lg_cmp w17 w2_) = 0 then (
            if (lg_cmp (w18 * w6_) (w4_ * w14)) ≤ 0 then (
              rec v1_ w2_ w4_ w6_ (v8_ + (1 : Int32))
              ) else (
              j146 ()
              )
            ) else (
            rec v1_ w2_ w4_ w6_ (v8_ + (1 : Int32))
            )
          )
        )
      )

def fX7_level (σ0 : SS)  : Option Int32 :=
  X7_level_L13 σ0
  fuel (1 : Int32) (0 : Int64) (0 : Int64) (1 : Int64) (1 : Int32)

set_option maxRecDepth 20000 in
theorem sX7_level_L13 {g : GG} {r : Int32} {σ_ : SS} {σ0 : SS}   
    (hw_ : WT σ_)
    (h0_ : σ_ = σ0)
    (n : Nat) : ∀ (v1_ : Int32) (w2_ : Int64) (w4_ : Int64) (w6_ : Int64) (v8_ : Int32), X7_level_L13 σ_ n v1_ w2_ w4_ w6_ v8_ = some r → RR g mX7_level (FinR g mX7_level (some (.int r)) NF σ0) zF 13 [(0, .ref (ad g 1)), (1, .int v1_), (2, .long w2_), (4, .long w4_), (6, .long w6_), (8, .int v8_)] [] σ_ := by
  unfold X7_level_L13
  refine lp_ind (P := fun (rec : Int32 → Int64 → Int64 → Int64 → Int32 → Option Int32) => ∀ (v1_ : Int32) (w2_ : Int64) (w4_ : Int64) (w6_ : Int64) (v8_ : Int32), rec v1_ w2_ w4_ w6_ v8_ = some r → RR g mX7_level (FinR g mX7_level (some (.int r)) NF σ0) zF 13 [(0, .ref (ad g 1)), (1, .int v1_), (2, .long w2_), (4, .long w4_), (6, .long w6_), (8, .int v8_)] [] σ_) ?_ ?_ n
  · intro v1_ w2_ w4_ w6_ v8_ hr; cases hr
  intro rec ih v1_ w2_ w4_ w6_ v8_ hr
  subst h0_
  refine r_iload (pc := 13) (j := 5) dX7_level_13 rfl ?_
  refine r_bipush (pc := 15) (v := (9 : Int32)) dX7_level_15 rfl ?_
  refine r_icmp_gt (pc := 17) (tgt := 166) dX7_level_17 rfl (fun hc => ?_) (fun hc => ?_)
  · replace hr := ite_t hc hr
    refine r_iload_n (pc := 166) (j := 1) dX7_level_166 rfl rfl ?_
    exact l_opi hr (r_iret (pc := 167) (v := v1_) rfl rfl ⟨Nat.le_refl _, Nat.le_refl _⟩ dX7_level_167)
  replace hr := ite_f hc hr
  refine r_aload_n (pc := 20) (j := 0) dX7_level_20 rfl rfl ?_
  refine gf7_2 (pc := 21) tw_2_111 hw_ dX7_level_21 ?_
  refine r_iload (pc := 24) (j := 5) dX7_level_24 rfl ?_
  obtain ⟨v1, hv1, hr⟩ := bnd1_inv hr
  refine kX6_notBelow (pc := 26) hv1 (wt_sc hw_).1 tw_3_75 ⟨nle rfl, nle rfl⟩ (nle rfl) dX7_level_26 ?_
  refine r_i2l (pc := 29) dX7_level_29 ?_
  refine r_topl fun w4 ew4 => ?_
  replace hr := vthen_inv hr w4 ew4
  refine r_lstore (pc := 30) (ls1 := [(9, .long w4), (0, .ref (ad g 1)), (1, .int v1_), (2, .long w2_), (4, .long w4_), (6, .long w6_), (8, .int v8_)]) dX7_level_30 (nle rfl) rfl ?_
  refine r_aload_n (pc := 32) (j := 1) dX7_level_32 rfl rfl ?_
  refine gf7_2 (pc := 33) tw_2_111 hw_ dX7_level_33 ?_
  refine kX6_size (pc := 36) (hf := rfl) (wt_sc hw_).1 tw_5_87 ⟨nle rfl, nle rfl⟩ (nle rfl) dX7_level_36 ?_
  refine r_i2l (pc := 39) dX7_level_39 ?_
  refine r_lload (pc := 40) (j := 0) dX7_level_40 rfl ?_
  refine r_lsub (pc := 42) dX7_level_42 ?_
  refine r_topl fun w5 ew5 => ?_
  replace hr := vthen_inv hr w5 ew5
  refine r_lstore (pc := 43) (ls1 := [(11, .long w5), (9, .long w4), (0, .ref (ad g 1)), (1, .int v1_), (2, .long w2_), (4, .long w4_), (6, .long w6_), (8, .int v8_)]) dX7_level_43 (nle rfl) rfl ?_
  refine r_aload_n (pc := 45) (j := 2) dX7_level_45 rfl rfl ?_
  refine gf7_2 (pc := 46) tw_2_111 hw_ dX7_level_46 ?_
  refine r_iload (pc := 49) (j := 7) dX7_level_49 rfl ?_
  obtain ⟨v6, hv6, hr⟩ := bnd1_inv hr
  refine kX6_sumNotBelow (pc := 51) hv6 (wt_sc hw_).1 tw_3_79 ⟨nle rfl, nle rfl⟩ (nle rfl) dX7_level_51 ?_
  refine r_i2l (pc := 54) dX7_level_54 ?_
  refine r_topl fun w9 ew9 => ?_
  replace hr := vthen_inv hr w9 ew9
  refine r_lstore (pc := 55) (ls1 := [(13, .long w9), (11, .long w5), (9, .long w4), (0, .ref (ad g 1)), (1, .int v1_), (2, .long w2_), (4, .long w4_), (6, .long w6_), (8, .int v8_)]) dX7_level_55 (nle rfl) rfl ?_
  refine r_aload_n (pc := 57) (j := 3) dX7_level_57 rfl rfl ?_
  refine gf7_2 (pc := 58) tw_2_111 hw_ dX7_level_58 ?_
  refine r_iconst (pc := 61) (v := (0 : Int32)) dX7_level_61 rfl ?_
  obtain ⟨v10, hv10, hr⟩ := bnd1_inv hr
  refine kX6_sumNotBelow (pc := 62) hv10 (wt_sc hw_).1 tw_3_79 ⟨nle rfl, nle rfl⟩ (nle rfl) dX7_level_62 ?_
  refine r_i2l (pc := 65) dX7_level_65 ?_
  refine r_lload (pc := 66) (j := 0) dX7_level_66 rfl ?_
  refine r_lsub (pc := 68) dX7_level_68 ?_
  refine r_topl fun w13 ew13 => ?_
  replace hr := vthen_inv hr w13 ew13
  refine r_lstore (pc := 69) (ls1 := [(15, .long w13), (13, .long w9), (11, .long w5), (9, .long w4), (0, .ref (ad g 1)), (1, .int v1_), (2, .long w2_), (4, .long w4_), (6, .long w6_), (8, .int v8_)]) dX7_level_69 (nle rfl) rfl ?_
  refine r_lload (pc := 71) (j := 2) dX7_level_71 rfl ?_
  refine r_lload (pc := 73) (j := 3) dX7_level_73 rfl ?_
  refine r_lmul (pc := 75) dX7_level_75 ?_
  refine r_topl fun w14 ew14 => ?_
  replace hr := vthen_inv hr w14 ew14
  refine r_lstore (pc := 76) (ls1 := [(17, .long w14), (15, .long w13), (13, .long w9), (11, .long w5), (9, .long w4), (0, .ref (ad g 1)), (1, .int v1_), (2, .long w2_), (4, .long w4_), (6, .long w6_), (8, .int v8_)]) dX7_level_76 (nle rfl) rfl ?_
  refine r_lload (pc := 78) (j := 0) dX7_level_78 rfl ?_
  refine r_lconst (pc := 80) (v := (0 : Int64)) dX7_level_80 rfl ?_
  refine r_lcmp (pc := 81) dX7_level_81 ?_
  refine r_if_le (pc := 82) (tgt := 160) dX7_level_82 rfl (fun hc => ?_) (fun hc => ?_)
  · replace hr := ite_t hc hr
    refine r_iinc (pc := 160) (j := 10) (v := (v8_ + (1 : Int32))) (ls1 := [(8, .int (v8_ + (1 : Int32))), (17, .long w14), (15, .long w13), (13, .long w9), (11, .long w5), (9, .long w4), (0, .ref (ad g 1)), (1, .int v1_), (2, .long w2_), (4, .long w4_), (6, .long w6_)]) dX7_level_160 rfl rfl (nle rfl) rfl ?_
    refine r_goto (pc := 163) (tgt := 13) dX7_level_163 rfl ?_
    exact r_pick (ls1 := [(0, .ref (ad g 1)), (1, .int v1_), (2, .long w2_), (4, .long w4_), (6, .long w6_), (8, .int (v8_ + (1 : Int32)))]) [6, 7, 8, 9, 10, 0] rfl (ih v1_ w2_ w4_ w6_ (v8_ + (1 : Int32)) hr)
  replace hr := ite_f hc hr
  refine r_lload (pc := 85) (j := 2) dX7_level_85 rfl ?_
  refine r_lload (pc := 87) (j := 3) dX7_level_87 rfl ?_
  refine r_lmul (pc := 89) dX7_level_89 ?_
  refine r_lload (pc := 90) (j := 1) dX7_level_90 rfl ?_
  refine r_lload (pc := 92) (j := 4) dX7_level_92 rfl ?_
  refine r_lmul (pc := 94) dX7_level_94 ?_
  refine r_lsub (pc := 95) dX7_level_95 ?_
  refine r_topl fun w15 ew15 => ?_
  replace hr := vthen_inv hr w15 ew15
  refine r_lstore (pc := 96) (ls1 := [(19, .long w15), (17, .long w14), (15, .long w13), (13, .long w9), (11, .long w5), (9, .long w4), (0, .ref (ad g 1)), (1, .int v1_), (2, .long w2_), (4, .long w4_), (6, .long w6_), (8, .int v8_)]) dX7_level_96 (nle rfl) rfl ?_
  refine r_lload (pc := 98) (j := 0) dX7_level_98 rfl ?_
  refine r_lload (pc := 100) (j := 0) dX7_level_100 rfl ?_
  refine r_lmul (pc := 102) dX7_level_102 ?_
  refine r_lload (pc := 103) (j := 1) dX7_level_103 rfl ?_
  obtain ⟨h16, hr⟩ := grd_inv hr
  refine r_ldiv (pc := 105) dX7_level_105 (nzl_ne h16) ?_
  refine r_topl fun w17 ew17 => ?_
  replace hr := vthen_inv hr w17 ew17
  refine r_lstore (pc := 106) (ls1 := [(21, .long w17), (19, .long w15), (17, .long w14), (15, .long w13), (13, .long w9), (11, .long w5), (9, .long w4), (0, .ref (ad g 1)), (1, .int v1_), (2, .long w2_), (4, .long w4_), (6, .long w6_), (8, .int v8_)]) dX7_level_106 (nle rfl) rfl ?_
  refine r_lload (pc := 108) (j := 1) dX7_level_108 rfl ?_
  refine r_lload (pc := 110) (j := 1) dX7_level_110 rfl ?_
  refine r_lmul (pc := 112) dX7_level_112 ?_
  refine r_lload (pc := 113) (j := 2) dX7_level_113 rfl ?_
  refine r_lrem (pc := 115) dX7_level_115 (nzl_ne h16) ?_
  refine r_topl fun w18 ew18 => ?_
  replace hr := vthen_inv hr w18 ew18
  refine r_lstore (pc := 116) (ls1 := [(23, .long w18), (21, .long w17), (19, .long w15), (17, .long w14), (15, .long w13), (13, .long w9), (11, .long w5), (9, .long w4), (0, .ref (ad g 1)), (1, .int v1_), (2, .long w2_), (4, .long w4_), (6, .long w6_), (8, .int v8_)]) dX7_level_116 (nle rfl) rfl ?_
  refine r_lload (pc := 118) (j := 1) dX7_level_118 rfl ?_
  refine r_lload_n (pc := 120) (j := 10) dX7_level_120 rfl rfl ?_
  refine r_lcmp (pc := 121) dX7_level_121 ?_
  obtain ⟨j146, ej146, hr⟩ := vth_ex hr
  have hj146 : j146 () = some r → RR g mX7_level (FinR g mX7_level (some (.int r)) NF σ_) zF 146 [(0, .ref (ad g 1)), (8, .int v8_), (17, .long w14), (21, .long w17), (23, .long w18)] [] σ_ := by
    intro  hr
    replace hr := (congrFun ej146 ()).symm.trans hr
    refine r_iload (pc := 146) (j := 1) dX7_level_146 rfl ?_
    refine r_istore_n (pc := 148) (ls1 := [(1, .int v8_), (0, .ref (ad g 1)), (8, .int v8_), (17, .long w14), (21, .long w17), (23, .long w18)]) dX7_level_148 rfl (nle rfl) rfl ?_
    refine r_lload (pc := 149) (j := 4) dX7_level_149 rfl ?_
    refine r_lstore_n (pc := 151) (ls1 := [(2, .long w17), (1, .int v8_), (0, .ref (ad g 1)), (8, .int v8_), (17, .long w14), (21, .long w17), (23, .long w18)]) dX7_level_151 rfl (nle rfl) rfl ?_
    refine r_lload (pc := 152) (j := 6) dX7_level_152 rfl ?_
    refine r_lstore (pc := 154) (ls1 := [(4, .long w18), (2, .long w17), (1, .int v8_), (0, .ref (ad g 1)), (8, .int v8_), (17, .long w14), (21, .long w17), (23, .long w18)]) dX7_level_154 (nle rfl) rfl ?_
    refine r_lload (pc := 156) (j := 5) dX7_level_156 rfl ?_
    refine r_lstore (pc := 158) (ls1 := [(6, .long w14), (4, .long w18), (2, .long w17), (1, .int v8_), (0, .ref (ad g 1)), (8, .int v8_), (17, .long w14), (21, .long w17), (23, .long w18)]) dX7_level_158 (nle rfl) rfl ?_
    refine r_iinc (pc := 160) (j := 5) (v := (v8_ + (1 : Int32))) (ls1 := [(8, .int (v8_ + (1 : Int32))), (6, .long w14), (4, .long w18), (2, .long w17), (1, .int v8_), (0, .ref (ad g 1)), (17, .long w14), (21, .long w17), (23, .long w18)]) dX7_level_160 rfl rfl (nle rfl) rfl ?_
    refine r_goto (pc := 163) (tgt := 13) dX7_level_163 rfl ?_
    exact r_pick (ls1 := [(0, .ref (ad g 1)), (1, .int v8_), (2, .long w17), (4, .long w18), (6, .long w14), (8, .int (v8_ + (1 : Int32)))]) [5, 4, 3, 2, 1, 0] rfl (ih v8_ w17 w18 w14 (v8_ + (1 : Int32)) hr)
  refine r_if_gt (pc := 122) (tgt := 146) dX7_level_122 rfl (fun hc => ?_) (fun hc => ?_)
  · replace hr := ite_t hc hr
    exact r_pick (ls1 := [(0, .ref (ad g 1)), (8, .int v8_), (17, .long w14), (21, .long w17), (23, .long w18)]) [8, 13, 3, 1, 0] rfl (hj146  hr)
  replace hr := ite_f hc hr
  refine r_lload (pc := 125) (j := 1) dX7_level_125 rfl ?_
  refine r_lload_n (pc := 127) (j := 10) dX7_level_127 rfl rfl ?_
  refine r_lcmp (pc := 128) dX7_level_128 ?_
  refine r_if_ne (pc := 129) (tgt := 160) dX7_level_129 rfl (fun hc => ?_) (fun hc => ?_)
  · replace hr := ite_f hc hr
    refine r_iinc (pc := 160) (j := 13) (v := (v8_ + (1 : Int32))) (ls1 := [(8, .int (v8_ + (1 : Int32))), (23, .long w18), (21, .long w17), (19, .long w15), (17, .long w14), (15, .long w13), (13, .long w9), (11, .long w5), (9, .long w4), (0, .ref (ad g 1)), (1, .int v1_), (2, .long w2_), (4, .long w4_), (6, .long w6_)]) dX7_level_160 rfl rfl (nle rfl) rfl ?_
    refine r_goto (pc := 163) (tgt := 13) dX7_level_163 rfl ?_
    exact r_pick (ls1 := [(0, .ref (ad g 1)), (1, .int v1_), (2, .long w2_), (4, .long w4_), (6, .long w6_), (8, .int (v8_ + (1 : Int32)))]) [9, 10, 11, 12, 13, 0] rfl (ih v1_ w2_ w4_ w6_ (v8_ + (1 : Int32)) hr)
  replace hr := ite_t hc hr
  refine r_lload (pc := 132) (j := 0) dX7_level_132 rfl ?_
  refine r_lload (pc := 134) (j := 12) dX7_level_134 rfl ?_
  refine r_lmul (pc := 136) dX7_level_136 ?_
  refine r_lload (pc := 137) (j := 11) dX7_level_137 rfl ?_
  refine r_lload (pc := 139) (j := 3) dX7_level_139 rfl ?_
  refine r_lmul (pc := 141) dX7_level_141 ?_
  refine r_lcmp (pc := 142) dX7_level_142 ?_
  refine r_if_le (pc := 143) (tgt := 160) dX7_level_143 rfl (fun hc => ?_) (fun hc => ?_)
  · replace hr := ite_t hc hr
    refine r_iinc (pc := 160) (j := 13) (v := (v8_ + (1 : Int32))) (ls1 := [(8, .int (v8_ + (1 : Int32))), (23, .long w18), (21, .long w17), (19, .long w15), (17, .long w14), (15, .long w13), (13, .long w9), (11, .long w5), (9, .long w4), (0, .ref (ad g 1)), (1, .int v1_), (2, .long w2_), (4, .long w4_), (6, .long w6_)]) dX7_level_160 rfl rfl (nle rfl) rfl ?_
    refine r_goto (pc := 163) (tgt := 13) dX7_level_163 rfl ?_
    exact r_pick (ls1 := [(0, .ref (ad g 1)), (1, .int v1_), (2, .long w2_), (4, .long w4_), (6, .long w6_), (8, .int (v8_ + (1 : Int32)))]) [9, 10, 11, 12, 13, 0] rfl (ih v1_ w2_ w4_ w6_ (v8_ + (1 : Int32)) hr)
  replace hr := ite_f hc hr
  exact r_pick (ls1 := [(0, .ref (ad g 1)), (8, .int v8_), (17, .long w14), (21, .long w17), (23, .long w18)]) [8, 13, 3, 1, 0] rfl (hj146  hr)

set_option maxRecDepth 20000 in
theorem sX7_level {g : GG} {σ0 : SS}  {r : Int32} (hr : fX7_level σ0 = some r)  : Ct g mX7_level [.ref (ad g 1)] NF σ0 (some (.int r)) NF σ0 := by
  refine Ct.of (by decide +kernel) (nle rfl) fun hw0 => ?_
  have hw := hw0 rfl
  unfold fX7_level at hr
  change RR g mX7_level (FinR g mX7_level (some (.int r)) NF σ0) zF 0 [(0, .ref (ad g 1))] [] σ0
  refine r_iconst (pc := 0) (v := (1 : Int32)) dX7_level_0 rfl ?_
  refine r_istore_n (pc := 1) (ls1 := [(1, .int (1 : Int32)), (0, .ref (ad g 1))]) dX7_level_1 rfl (nle rfl) rfl ?_
  refine r_lconst (pc := 2) (v := (0 : Int64)) dX7_level_2 rfl ?_
  refine r_lstore_n (pc := 3) (ls1 := [(2, .long (0 : Int64)), (1, .int (1 : Int32)), (0, .ref (ad g 1))]) dX7_level_3 rfl (nle rfl) rfl ?_
  refine r_lconst (pc := 4) (v := (0 : Int64)) dX7_level_4 rfl ?_
  refine r_lstore (pc := 5) (ls1 := [(4, .long (0 : Int64)), (2, .long (0 : Int64)), (1, .int (1 : Int32)), (0, .ref (ad g 1))]) dX7_level_5 (nle rfl) rfl ?_
  refine r_lconst (pc := 7) (v := (1 : Int64)) dX7_level_7 rfl ?_
  refine r_lstore (pc := 8) (ls1 := [(6, .long (1 : Int64)), (4, .long (0 : Int64)), (2, .long (0 : Int64)), (1, .int (1 : Int32)), (0, .ref (ad g 1))]) dX7_level_8 (nle rfl) rfl ?_
  refine r_iconst (pc := 10) (v := (1 : Int32)) dX7_level_10 rfl ?_
  refine r_istore (pc := 11) (ls1 := [(8, .int (1 : Int32)), (6, .long (1 : Int64)), (4, .long (0 : Int64)), (2, .long (0 : Int64)), (1, .int (1 : Int32)), (0, .ref (ad g 1))]) dX7_level_11 (nle rfl) rfl ?_
  refine r_pick (ls1 := [(0, .ref (ad g 1)), (1, .int (1 : Int32)), (2, .long (0 : Int64)), (4, .long (0 : Int64)), (6, .long (1 : Int64)), (8, .int (1 : Int32))]) [5, 4, 3, 2, 1, 0] rfl ?_
  refine sX7_level_L13  hw rfl  fuel (1 : Int32) (0 : Int64) (0 : Int64) (1 : Int64) (1 : Int32) hr

theorem kX7_level {g : GG} {σ0 : SS}  {v : Int32} {M : MM} {F : State → Array Value → List Frame → State → Prop} {pc index : Nat} {ls : List (Nat × Value)} {rest : List Value} (hf : fX7_level σ0 = some v)  (hl : Cond.methodLink M.1.cls index yX7_level ∈ lw_gt) (hR : mX7_level.2.2.2.2.frames + 1 ≤ M.2.2.2.2.frames ∧ 8 + (mX7_level.2.2.1 + 11) + mX7_level.2.2.2.2.locals ≤ M.2.2.2.2.locals) (hrest : (rest.map fun v => v.category).sum ≤ 8) (hd : decode M.2.1 pc = .ok (.invokevirtual index, 3)) (k : RR g M F zF (pc + 3) ls (.int v :: rest) σ0) : RR g M F zF pc ls (.ref (ad g 1) :: rest) σ0 :=
  r_callV (z := zF) (N := mX7_level) (nn := 0) (o1 := some (.int v)) (sX7_level hf ) (rfl : shp 1 = (7, 0)) (by decide) (shp_le (rfl : shp 1 = (7, 0)) (nle rfl)) (ci := 7) rfl rfl tw_5_86 tw_1_1 hl tw_5_84 tw_5_85 ⟨by decide, by decide, rfl⟩ hR rfl hrest hd ⟨Nat.zero_le _, Nat.zero_le _⟩ rfl (fun h => k)

theorem dX8_level_0 : decode cX8_level 0 = .ok (.iconst 1, 1) := by decide +kernel
theorem dX8_level_1 : decode cX8_level 1 = .ok (.istore_n 1, 1) := by decide +kernel
theorem dX8_level_2 : decode cX8_level 2 = .ok (.lconst 0, 1) := by decide +kernel
theorem dX8_level_3 : decode cX8_level 3 = .ok (.lstore_n 2, 1) := by decide +kernel
theorem dX8_level_4 : decode cX8_level 4 = .ok (.lconst 0, 1) := by decide +kernel
theorem dX8_level_5 : decode cX8_level 5 = .ok (.lstore 4, 2) := by decide +kernel
theorem dX8_level_7 : decode cX8_level 7 = .ok (.lconst 1, 1) := by decide +kernel
theorem dX8_level_8 : decode cX8_level 8 = .ok (.lstore 6, 2) := by decide +kernel
theorem dX8_level_10 : decode cX8_level 10 = .ok (.iconst 1, 1) := by decide +kernel
theorem dX8_level_11 : decode cX8_level 11 = .ok (.istore 8, 2) := by decide +kernel
theorem dX8_level_13 : decode cX8_level 13 = .ok (.iload 8, 2) := by decide +kernel
theorem dX8_level_15 : decode cX8_level 15 = .ok (.bipush 10, 2) := by decide +kernel
theorem dX8_level_17 : decode cX8_level 17 = .ok (.if_icmp .ge 198, 3) := by decide +kernel
theorem dX8_level_20 : decode cX8_level 20 = .ok (.lconst 0, 1) := by decide +kernel
theorem dX8_level_21 : decode cX8_level 21 = .ok (.lstore 9, 2) := by decide +kernel
theorem dX8_level_23 : decode cX8_level 23 = .ok (.lconst 0, 1) := by decide +kernel
theorem dX8_level_24 : decode cX8_level 24 = .ok (.lstore 11, 2) := by decide +kernel
theorem dX8_level_26 : decode cX8_level 26 = .ok (.lconst 0, 1) := by decide +kernel
theorem dX8_level_27 : decode cX8_level 27 = .ok (.lstore 13, 2) := by decide +kernel
theorem dX8_level_29 : decode cX8_level 29 = .ok (.iconst 0, 1) := by decide +kernel
theorem dX8_level_30 : decode cX8_level 30 = .ok (.istore 15, 2) := by decide +kernel
theorem dX8_level_32 : decode cX8_level 32 = .ok (.iload 15, 2) := by decide +kernel
theorem dX8_level_34 : decode cX8_level 34 = .ok (.aload_n 0, 1) := by decide +kernel
theorem dX8_level_35 : decode cX8_level 35 = .ok (.invokevirtual 275, 3) := by decide +kernel
theorem dX8_level_38 : decode cX8_level 38 = .ok (.if_icmp .ge 56, 3) := by decide +kernel
theorem dX8_level_41 : decode cX8_level 41 = .ok (.lload 13, 2) := by decide +kernel
theorem dX8_level_43 : decode cX8_level 43 = .ok (.aload_n 0, 1) := by decide +kernel
theorem dX8_level_44 : decode cX8_level 44 = .ok (.getfield 38, 3) := by decide +kernel
theorem dX8_level_47 : decode cX8_level 47 = .ok (.iload 15, 2) := by decide +kernel
theorem dX8_level_49 : decode cX8_level 49 = .ok (.iaload, 1) := by decide +kernel
theorem dX8_level_50 : decode cX8_level 50 = .ok (.i2l, 1) := by decide +kernel
theorem dX8_level_51 : decode cX8_level 51 = .ok (.ladd, 1) := by decide +kernel
theorem dX8_level_52 : decode cX8_level 52 = .ok (.lstore 13, 2) := by decide +kernel
theorem dX8_level_54 : decode cX8_level 54 = .ok (.aload_n 0, 1) := by decide +kernel
theorem dX8_level_55 : decode cX8_level 55 = .ok (.getfield 38, 3) := by decide +kernel
theorem dX8_level_58 : decode cX8_level 58 = .ok (.iload 15, 2) := by decide +kernel
theorem dX8_level_60 : decode cX8_level 60 = .ok (.iaload, 1) := by decide +kernel
theorem dX8_level_61 : decode cX8_level 61 = .ok (.iload 8, 2) := by decide +kernel
theorem dX8_level_63 : decode cX8_level 63 = .ok (.if_icmp .lt 6, 3) := by decide +kernel
theorem dX8_level_66 : decode cX8_level 66 = .ok (.goto 22, 3) := by decide +kernel
theorem dX8_level_69 : decode cX8_level 69 = .ok (.lload 9, 2) := by decide +kernel
theorem dX8_level_71 : decode cX8_level 71 = .ok (.lconst 1, 1) := by decide +kernel
theorem dX8_level_72 : decode cX8_level 72 = .ok (.ladd, 1) := by decide +kernel
theorem dX8_level_73 : decode cX8_level 73 = .ok (.lstore 9, 2) := by decide +kernel
theorem dX8_level_75 : decode cX8_level 75 = .ok (.lload 11, 2) := by decide +kernel
theorem dX8_level_77 : decode cX8_level 77 = .ok (.aload_n 0, 1) := by decide +kernel
theorem dX8_level_78 : decode cX8_level 78 = .ok (.getfield 38, 3) := by decide +kernel
theorem dX8_level_81 : decode cX8_level 81 = .ok (.iload 15, 2) := by decide +kernel
theorem dX8_level_83 : decode cX8_level 83 = .ok (.iaload, 1) := by decide +kernel
theorem dX8_level_84 : decode cX8_level 84 = .ok (.i2l, 1) := by decide +kernel
theorem dX8_level_85 : decode cX8_level 85 = .ok (.ladd, 1) := by decide +kernel
theorem dX8_level_86 : decode cX8_level 86 = .ok (.lstore 11, 2) := by decide +kernel
theorem dX8_level_88 : decode cX8_level 88 = .ok (.iinc 15 1, 3) := by decide +kernel
theorem dX8_level_91 : decode cX8_level 91 = .ok (.goto (-59), 3) := by decide +kernel
theorem dX8_level_94 : decode cX8_level 94 = .ok (.aload_n 0, 1) := by decide +kernel
theorem dX8_level_95 : decode cX8_level 95 = .ok (.invokevirtual 275, 3) := by decide +kernel
theorem dX8_level_98 : decode cX8_level 98 = .ok (.i2l, 1) := by decide +kernel
theorem dX8_level_99 : decode cX8_level 99 = .ok (.lload 9, 2) := by decide +kernel
theorem dX8_level_101 : decode cX8_level 101 = .ok (.lsub, 1) := by decide +kernel
theorem dX8_level_102 : decode cX8_level 102 = .ok (.lstore 15, 2) := by decide +kernel
theorem dX8_level_104 : decode cX8_level 104 = .ok (.lload 9, 2) := by decide +kernel
theorem dX8_level_106 : decode cX8_level 106 = .ok (.lconst 0, 1) := by decide +kernel
theorem dX8_level_107 : decode cX8_level 107 = .ok (.lcmp, 1) := by decide +kernel
theorem dX8_level_108 : decode cX8_level 108 = .ok (.ifCond .eq 101, 3) := by decide +kernel
theorem dX8_level_111 : decode cX8_level 111 = .ok (.lload 15, 2) := by decide +kernel
theorem dX8_level_113 : decode cX8_level 113 = .ok (.lconst 0, 1) := by decide +kernel
theorem dX8_level_114 : decode cX8_level 114 = .ok (.lcmp, 1) := by decide +kernel
theorem dX8_level_115 : decode cX8_level 115 = .ok (.ifCond .ne 6, 3) := by decide +kernel
theorem dX8_level_118 : decode cX8_level 118 = .ok (.goto 91, 3) := by decide +kernel
theorem dX8_level_121 : decode cX8_level 121 = .ok (.lload 13, 2) := by decide +kernel
theorem dX8_level_123 : decode cX8_level 123 = .ok (.lload 11, 2) := by decide +kernel
theorem dX8_level_125 : decode cX8_level 125 = .ok (.lsub, 1) := by decide +kernel
theorem dX8_level_126 : decode cX8_level 126 = .ok (.lload 9, 2) := by decide +kernel
theorem dX8_level_128 : decode cX8_level 128 = .ok (.lmul, 1) := by decide +kernel
theorem dX8_level_129 : decode cX8_level 129 = .ok (.lload 11, 2) := by decide +kernel
theorem dX8_level_131 : decode cX8_level 131 = .ok (.lload 15, 2) := by decide +kernel
theorem dX8_level_133 : decode cX8_level 133 = .ok (.lmul, 1) := by decide +kernel
theorem dX8_level_134 : decode cX8_level 134 = .ok (.lsub, 1) := by decide +kernel
theorem dX8_level_135 : decode cX8_level 135 = .ok (.lstore 17, 2) := by decide +kernel
theorem dX8_level_137 : decode cX8_level 137 = .ok (.lload 9, 2) := by decide +kernel
theorem dX8_level_139 : decode cX8_level 139 = .ok (.lload 15, 2) := by decide +kernel
theorem dX8_level_141 : decode cX8_level 141 = .ok (.lmul, 1) := by decide +kernel
theorem dX8_level_142 : decode cX8_level 142 = .ok (.lstore 19, 2) := by decide +kernel
theorem dX8_level_144 : decode cX8_level 144 = .ok (.lload 17, 2) := by decide +kernel
theorem dX8_level_146 : decode cX8_level 146 = .ok (.lload 17, 2) := by decide +kernel
theorem dX8_level_148 : decode cX8_level 148 = .ok (.lmul, 1) := by decide +kernel
theorem dX8_level_149 : decode cX8_level 149 = .ok (.lload 19, 2) := by decide +kernel
theorem dX8_level_151 : decode cX8_level 151 = .ok (.ldiv, 1) := by decide +kernel
theorem dX8_level_152 : decode cX8_level 152 = .ok (.lstore 21, 2) := by decide +kernel
theorem dX8_level_154 : decode cX8_level 154 = .ok (.lload 17, 2) := by decide +kernel
theorem dX8_level_156 : decode cX8_level 156 = .ok (.lload 17, 2) := by decide +kernel
theorem dX8_level_158 : decode cX8_level 158 = .ok (.lmul, 1) := by decide +kernel
theorem dX8_level_159 : decode cX8_level 159 = .ok (.lload 19, 2) := by decide +kernel
theorem dX8_level_161 : decode cX8_level 161 = .ok (.lrem, 1) := by decide +kernel
theorem dX8_level_162 : decode cX8_level 162 = .ok (.lstore 23, 2) := by decide +kernel
theorem dX8_level_164 : decode cX8_level 164 = .ok (.lload 21, 2) := by decide +kernel
theorem dX8_level_166 : decode cX8_level 166 = .ok (.lload_n 2, 1) := by decide +kernel
theorem dX8_level_167 : decode cX8_level 167 = .ok (.lcmp, 1) := by decide +kernel
theorem dX8_level_168 : decode cX8_level 168 = .ok (.ifCond .lt 41, 3) := by decide +kernel
theorem dX8_level_171 : decode cX8_level 171 = .ok (.lload 21, 2) := by decide +kernel
theorem dX8_level_173 : decode cX8_level 173 = .ok (.lload_n 2, 1) := by decide +kernel
theorem dX8_level_174 : decode cX8_level 174 = .ok (.lcmp, 1) := by decide +kernel
theorem dX8_level_175 : decode cX8_level 175 = .ok (.ifCond .ne 20, 3) := by decide +kernel
theorem dX8_level_178 : decode cX8_level 178 = .ok (.lload 23, 2) := by decide +kernel
theorem dX8_level_180 : decode cX8_level 180 = .ok (.lload 6, 2) := by decide +kernel
theorem dX8_level_182 : decode cX8_level 182 = .ok (.lmul, 1) := by decide +kernel
theorem dX8_level_183 : decode cX8_level 183 = .ok (.lload 4, 2) := by decide +kernel
theorem dX8_level_185 : decode cX8_level 185 = .ok (.lload 19, 2) := by decide +kernel
theorem dX8_level_187 : decode cX8_level 187 = .ok (.lmul, 1) := by decide +kernel
theorem dX8_level_188 : decode cX8_level 188 = .ok (.lcmp, 1) := by decide +kernel
theorem dX8_level_189 : decode cX8_level 189 = .ok (.ifCond .gt 6, 3) := by decide +kernel
theorem dX8_level_192 : decode cX8_level 192 = .ok (.goto 17, 3) := by decide +kernel
theorem dX8_level_195 : decode cX8_level 195 = .ok (.iload 8, 2) := by decide +kernel
theorem dX8_level_197 : decode cX8_level 197 = .ok (.istore_n 1, 1) := by decide +kernel
theorem dX8_level_198 : decode cX8_level 198 = .ok (.lload 21, 2) := by decide +kernel
theorem dX8_level_200 : decode cX8_level 200 = .ok (.lstore_n 2, 1) := by decide +kernel
theorem dX8_level_201 : decode cX8_level 201 = .ok (.lload 23, 2) := by decide +kernel
theorem dX8_level_203 : decode cX8_level 203 = .ok (.lstore 4, 2) := by decide +kernel
theorem dX8_level_205 : decode cX8_level 205 = .ok (.lload 19, 2) := by decide +kernel
theorem dX8_level_207 : decode cX8_level 207 = .ok (.lstore 6, 2) := by decide +kernel
theorem dX8_level_209 : decode cX8_level 209 = .ok (.iinc 8 1, 3) := by decide +kernel
theorem dX8_level_212 : decode cX8_level 212 = .ok (.goto (-199), 3) := by decide +kernel
theorem dX8_level_215 : decode cX8_level 215 = .ok (.iload_n 1, 1) := by decide +kernel
theorem dX8_level_216 : decode cX8_level 216 = .ok (.ireturn, 1) := by decide +kernel
def mX8_level : MM := (yX8_level, cX8_level, 25, Option.some Jvm.ClassFile.FieldType.int, { frames := 1, cells := 0, slots := 0, locals := 20 })
def X8_level_L32 (σ_ : SS) (u8_ : Int32) (k94 : Int64 → Int64 → Int64 → Option Int32) : Nat → Int64 → Int64 → Int64 → Int32 → Option Int32 :=
  lp (fun _ _ _ _ => none) fun rec w9_ w11_ w13_ v15_ =>
    if (fX8_all σ_) ≤ v15_ then (
      k94 w9_ w11_ w13_
      ) else (
      grd (inb v15_ 1600) <|
      vthen (w13_ + (Int32.toInt64 (gI σ_ 83 (Int32.toNatClampNeg v15_)))) fun w2 =>
      if (gI σ_ 83 (Int32.toNatClampNeg v15_)) < u8_ then (
        vthen (w9_ + (1 : Int64)) fun w3 =>
        vthen (w11_ + (Int32.toInt64 (gI σ_ 83 (Int32.toNatClampNeg v15_)))) fun w4 =>
        rec w3 w4 w2 (v15_ + (1 : Int32))
        ) else (
        rec w9_ w11_ w2 (v15_ + (1 : Int32))
        )
      )

def X8_level_L13 (σ_ : SS)   : Nat → Int32 → Int64 → Int64 → Int64 → Int32 → Option Int32 :=
  lp (fun _ _ _ _ _ => none) fun rec v1_ w2_ w4_ w6_ v8_ =>
    if (10 : Int32) ≤ v8_ then (
      some v1_
      ) else (
      X8_level_L32 σ_ v8_
      (fun w5 w6 w7 =>
        vthen ((Int32.toInt64 (fX8_all σ_)) - w5) fun w8 =>
        if (lg_cmp w5 (0 : Int64)) = 0 then (
          rec v1_ w2_ w4_ w6_ (v8_ + (1 : Int32))
          ) else (
          if (lg_cmp w8 (0 : Int64)) = 0 then (
            rec v1_ w2_ w4_ w6_ (v8_ + (1 : Int32))
            ) else (
            vthen (((w7 - w6) * w5) - (w6 * w8)) fun w9 =>
            vthen (w5 * w8) fun w10 =>
            grd (nzl w10) <|
            vthen ((w9 * w9) / w10) fun w12 =>
            vthen (lrm (w9 * w9) w10) fun w13 =>
            if (lg_cmp w12 w2_) < 0 then (
              rec v1_ w2_ w4_ w6_ (v8_ + (1 : Int32))
              ) else (
              vthen (fun (_u : Unit) =>
                rec v8_ w12 w13 w10 (v8_ + (1 : Int32))
                ) fun j195 =>
              if (lg_cmp w12 w2_) = 0 then (
                if 0 < (lg_cmp (w13 * w6_) (w4_ * w10)) then (
                  j195 ()
                  ) else (
                  rec v1_ w2_ w4_ w6_ (v8_ + (1 : Int32))
                  )
                ) else (
                j195 ()
                )
              )
            )
          )
        )
      fuel (0 : Int64) (0 : Int64) (0 : Int64) (0 : Int32)
      )

def fX8_level (σ0 : SS)  : Option Int32 :=
  X8_level_L13 σ0
  fuel (1 : Int32) (0 : Int64) (0 : Int64) (1 : Int64) (1 : Int32)

set_option maxRecDepth 20000 in
theorem sX8_level_L32 {g : GG} {r : Int32} {σ_ : SS} {σ0 : SS} {x1_ : Int32} {x2_ : Int64} {x4_ : Int64} {x6_ : Int64} {u8_ : Int32} {k94 : Int64 → Int64 → Int64 → Option Int32} 
    (hw_ : WT σ_)
    (h0_ : σ_ = σ0)
    (hk94 : ∀ (y9 : Int64) (y11 : Int64) (y13 : Int64), k94 y9 y11 y13 = some r → RR g mX8_level (FinR g mX8_level (some (.int r)) NF σ0) zF 94 [(0, .ref (ad g 73)), (1, .int x1_), (2, .long x2_), (4, .long x4_), (6, .long x6_), (8, .int u8_), (9, .long y9), (11, .long y11), (13, .long y13)] [] σ_)
    (n : Nat) : ∀ (w9_ : Int64) (w11_ : Int64) (w13_ : Int64) (v15_ : Int32), X8_level_L32 σ_ u8_ k94 n w9_ w11_ w13_ v15_ = some r → RR g mX8_level (FinR g mX8_level (some (.int r)) NF σ0) zF 32 [(0, .ref (ad g 73)), (1, .int x1_), (2, .long x2_), (4, .long x4_), (6, .long x6_), (8, .int u8_), (9, .long w9_), (11, .long w11_), (13, .long w13_), (15, .int v15_)] [] σ_ := by
  unfold X8_level_L32
  refine lp_ind (P := fun (rec : Int64 → Int64 → Int64 → Int32 → Option Int32) => ∀ (w9_ : Int64) (w11_ : Int64) (w13_ : Int64) (v15_ : Int32), rec w9_ w11_ w13_ v15_ = some r → RR g mX8_level (FinR g mX8_level (some (.int r)) NF σ0) zF 32 [(0, .ref (ad g 73)), (1, .int x1_), (2, .long x2_), (4, .long x4_), (6, .long x6_), (8, .int u8_), (9, .long w9_), (11, .long w11_), (13, .long w13_), (15, .int v15_)] [] σ_) ?_ ?_ n
  · intro w9_ w11_ w13_ v15_ hr; cases hr
  intro rec ih w9_ w11_ w13_ v15_ hr
  subst h0_
  refine r_iload (pc := 32) (j := 9) dX8_level_32 rfl ?_
  refine r_aload_n (pc := 34) (j := 0) dX8_level_34 rfl rfl ?_
  refine kX8_all (pc := 35) (hf := rfl) tw_6_215 ⟨nle rfl, nle rfl⟩ (nle rfl) dX8_level_35 ?_
  refine r_icmp_ge (pc := 38) (tgt := 94) dX8_level_38 rfl (fun hc => ?_) (fun hc => ?_)
  · replace hr := ite_t hc hr
    exact r_pick (ls1 := [(0, .ref (ad g 73)), (1, .int x1_), (2, .long x2_), (4, .long x4_), (6, .long x6_), (8, .int u8_), (9, .long w9_), (11, .long w11_), (13, .long w13_)]) [0, 1, 2, 3, 4, 5, 6, 7, 8] rfl (hk94 w9_ w11_ w13_ hr)
  replace hr := ite_f hc hr
  refine r_lload (pc := 41) (j := 8) dX8_level_41 rfl ?_
  refine r_aload_n (pc := 43) (j := 0) dX8_level_43 rfl rfl ?_
  refine gf8_21 (pc := 44) tw_5_115 hw_ dX8_level_44 ?_
  refine r_iload (pc := 47) (j := 9) dX8_level_47 rfl ?_
  obtain ⟨h1, hr⟩ := grd_inv hr
  refine x_iald (pc := 49) (k := (Int32.toNatClampNeg v15_)) rfl h1 rfl dX8_level_49 ?_
  refine r_i2l (pc := 50) dX8_level_50 ?_
  refine r_ladd (pc := 51) dX8_level_51 ?_
  refine r_topl fun w2 ew2 => ?_
  replace hr := vthen_inv hr w2 ew2
  refine r_lstore (pc := 52) (ls1 := [(13, .long w2), (0, .ref (ad g 73)), (1, .int x1_), (2, .long x2_), (4, .long x4_), (6, .long x6_), (8, .int u8_), (9, .long w9_), (11, .long w11_), (15, .int v15_)]) dX8_level_52 (nle rfl) rfl ?_
  refine r_aload_n (pc := 54) (j := 1) dX8_level_54 rfl rfl ?_
  refine gf8_21 (pc := 55) tw_5_115 hw_ dX8_level_55 ?_
  refine r_iload (pc := 58) (j := 9) dX8_level_58 rfl ?_
  refine x_iald (pc := 60) (k := (Int32.toNatClampNeg v15_)) rfl h1 rfl dX8_level_60 ?_
  refine r_iload (pc := 61) (j := 6) dX8_level_61 rfl ?_
  refine r_icmp_lt (pc := 63) (tgt := 69) dX8_level_63 rfl (fun hc => ?_) (fun hc => ?_)
  · replace hr := ite_t hc hr
    refine r_lload (pc := 69) (j := 7) dX8_level_69 rfl ?_
    refine r_lconst (pc := 71) (v := (1 : Int64)) dX8_level_71 rfl ?_
    refine r_ladd (pc := 72) dX8_level_72 ?_
    refine r_topl fun w3 ew3 => ?_
    replace hr := vthen_inv hr w3 ew3
    refine r_lstore (pc := 73) (ls1 := [(9, .long w3), (13, .long w2), (0, .ref (ad g 73)), (1, .int x1_), (2, .long x2_), (4, .long x4_), (6, .long x6_), (8, .int u8_), (11, .long w11_), (15, .int v15_)]) dX8_level_73 (nle rfl) rfl ?_
    refine r_lload (pc := 75) (j := 8) dX8_level_75 rfl ?_
    refine r_aload_n (pc := 77) (j := 2) dX8_level_77 rfl rfl ?_
    refine gf8_21 (pc := 78) tw_5_115 hw_ dX8_level_78 ?_
    refine r_iload (pc := 81) (j := 9) dX8_level_81 rfl ?_
    refine x_iald (pc := 83) (k := (Int32.toNatClampNeg v15_)) rfl h1 rfl dX8_level_83 ?_
    refine r_i2l (pc := 84) dX8_level_84 ?_
    refine r_ladd (pc := 85) dX8_level_85 ?_
    refine r_topl fun w4 ew4 => ?_
    replace hr := vthen_inv hr w4 ew4
    refine r_lstore (pc := 86) (ls1 := [(11, .long w4), (9, .long w3), (13, .long w2), (0, .ref (ad g 73)), (1, .int x1_), (2, .long x2_), (4, .long x4_), (6, .long x6_), (8, .int u8_), (15, .int v15_)]) dX8_level_86 (nle rfl) rfl ?_
    refine r_iinc (pc := 88) (j := 9) (v := (v15_ + (1 : Int32))) (ls1 := [(15, .int (v15_ + (1 : Int32))), (11, .long w4), (9, .long w3), (13, .long w2), (0, .ref (ad g 73)), (1, .int x1_), (2, .long x2_), (4, .long x4_), (6, .long x6_), (8, .int u8_)]) dX8_level_88 rfl rfl (nle rfl) rfl ?_
    refine r_goto (pc := 91) (tgt := 32) dX8_level_91 rfl ?_
    exact r_pick (ls1 := [(0, .ref (ad g 73)), (1, .int x1_), (2, .long x2_), (4, .long x4_), (6, .long x6_), (8, .int u8_), (9, .long w3), (11, .long w4), (13, .long w2), (15, .int (v15_ + (1 : Int32)))]) [4, 5, 6, 7, 8, 9, 2, 1, 3, 0] rfl (ih w3 w4 w2 (v15_ + (1 : Int32)) hr)
  replace hr := ite_f hc hr
  refine r_goto (pc := 66) (tgt := 88) dX8_level_66 rfl ?_
  refine r_iinc (pc := 88) (j := 9) (v := (v15_ + (1 : Int32))) (ls1 := [(15, .int (v15_ + (1 : Int32))), (13, .long w2), (0, .ref (ad g 73)), (1, .int x1_), (2, .long x2_), (4, .long x4_), (6, .long x6_), (8, .int u8_), (9, .long w9_), (11, .long w11_)]) dX8_level_88 rfl rfl (nle rfl) rfl ?_
  refine r_goto (pc := 91) (tgt := 32) dX8_level_91 rfl ?_
  exact r_pick (ls1 := [(0, .ref (ad g 73)), (1, .int x1_), (2, .long x2_), (4, .long x4_), (6, .long x6_), (8, .int u8_), (9, .long w9_), (11, .long w11_), (13, .long w2), (15, .int (v15_ + (1 : Int32)))]) [2, 3, 4, 5, 6, 7, 8, 9, 1, 0] rfl (ih w9_ w11_ w2 (v15_ + (1 : Int32)) hr)

set_option maxRecDepth 20000 in
theorem sX8_level_L13 {g : GG} {r : Int32} {σ_ : SS} {σ0 : SS}   
    (hw_ : WT σ_)
    (h0_ : σ_ = σ0)
    (n : Nat) : ∀ (v1_ : Int32) (w2_ : Int64) (w4_ : Int64) (w6_ : Int64) (v8_ : Int32), X8_level_L13 σ_ n v1_ w2_ w4_ w6_ v8_ = some r → RR g mX8_level (FinR g mX8_level (some (.int r)) NF σ0) zF 13 [(0, .ref (ad g 73)), (1, .int v1_), (2, .long w2_), (4, .long w4_), (6, .long w6_), (8, .int v8_)] [] σ_ := by
  unfold X8_level_L13
  refine lp_ind (P := fun (rec : Int32 → Int64 → Int64 → Int64 → Int32 → Option Int32) => ∀ (v1_ : Int32) (w2_ : Int64) (w4_ : Int64) (w6_ : Int64) (v8_ : Int32), rec v1_ w2_ w4_ w6_ v8_ = some r → RR g mX8_level (FinR g mX8_level (some (.int r)) NF σ0) zF 13 [(0, .ref (ad g 73)), (1, .int v1_), (2, .long w2_), (4, .long w4_), (6, .long w6_), (8, .int v8_)] [] σ_) ?_ ?_ n
  · intro v1_ w2_ w4_ w6_ v8_ hr; cases hr
  intro rec ih v1_ w2_ w4_ w6_ v8_ hr
  subst h0_
  refine r_iload (pc := 13) (j := 5) dX8_level_13 rfl ?_
  refine r_bipush (pc := 15) (v := (10 : Int32)) dX8_level_15 rfl ?_
  refine r_icmp_ge (pc := 17) (tgt := 215) dX8_level_17 rfl (fun hc => ?_) (fun hc => ?_)
  · replace hr := ite_t hc hr
    refine r_iload_n (pc := 215) (j := 1) dX8_level_215 rfl rfl ?_
    exact l_opi hr (r_iret (pc := 216) (v := v1_) rfl rfl ⟨Nat.le_refl _, Nat.le_refl _⟩ dX8_level_216)
  replace hr := ite_f hc hr
  refine r_lconst (pc := 20) (v := (0 : Int64)) dX8_level_20 rfl ?_
  refine r_lstore (pc := 21) (ls1 := [(9, .long (0 : Int64)), (0, .ref (ad g 73)), (1, .int v1_), (2, .long w2_), (4, .long w4_), (6, .long w6_), (8, .int v8_)]) dX8_level_21 (nle rfl) rfl ?_
  refine r_lconst (pc := 23) (v := (0 : Int64)) dX8_level_23 rfl ?_
  refine r_lstore (pc := 24) (ls1 := [(11, .long (0 : Int64)), (9, .long (0 : Int64)), (0, .ref (ad g 73)), (1, .int v1_), (2, .long w2_), (4, .long w4_), (6, .long w6_), (8, .int v8_)]) dX8_level_24 (nle rfl) rfl ?_
  refine r_lconst (pc := 26) (v := (0 : Int64)) dX8_level_26 rfl ?_
  refine r_lstore (pc := 27) (ls1 := [(13, .long (0 : Int64)), (11, .long (0 : Int64)), (9, .long (0 : Int64)), (0, .ref (ad g 73)), (1, .int v1_), (2, .long w2_), (4, .long w4_), (6, .long w6_), (8, .int v8_)]) dX8_level_27 (nle rfl) rfl ?_
  refine r_iconst (pc := 29) (v := (0 : Int32)) dX8_level_29 rfl ?_
  refine r_istore (pc := 30) (ls1 := [(15, .int (0 : Int32)), (13, .long (0 : Int64)), (11, .long (0 : Int64)), (9, .long (0 : Int64)), (0, .ref (ad g 73)), (1, .int v1_), (2, .long w2_), (4, .long w4_), (6, .long w6_), (8, .int v8_)]) dX8_level_30 (nle rfl) rfl ?_
  refine r_pick (ls1 := [(0, .ref (ad g 73)), (1, .int v1_), (2, .long w2_), (4, .long w4_), (6, .long w6_), (8, .int v8_), (9, .long (0 : Int64)), (11, .long (0 : Int64)), (13, .long (0 : Int64)), (15, .int (0 : Int32))]) [4, 5, 6, 7, 8, 9, 3, 2, 1, 0] rfl ?_
  refine sX8_level_L32  hw_ rfl (fun w5 w6 w7 hr => ?_) fuel (0 : Int64) (0 : Int64) (0 : Int64) (0 : Int32) hr
  refine r_aload_n (pc := 94) (j := 0) dX8_level_94 rfl rfl ?_
  refine kX8_all (pc := 95) (hf := rfl) tw_6_215 ⟨nle rfl, nle rfl⟩ (nle rfl) dX8_level_95 ?_
  refine r_i2l (pc := 98) dX8_level_98 ?_
  refine r_lload (pc := 99) (j := 6) dX8_level_99 rfl ?_
  refine r_lsub (pc := 101) dX8_level_101 ?_
  refine r_topl fun w8 ew8 => ?_
  replace hr := vthen_inv hr w8 ew8
  refine r_lstore (pc := 102) (ls1 := [(15, .long w8), (0, .ref (ad g 73)), (1, .int v1_), (2, .long w2_), (4, .long w4_), (6, .long w6_), (8, .int v8_), (9, .long w5), (11, .long w6), (13, .long w7)]) dX8_level_102 (nle rfl) rfl ?_
  refine r_lload (pc := 104) (j := 7) dX8_level_104 rfl ?_
  refine r_lconst (pc := 106) (v := (0 : Int64)) dX8_level_106 rfl ?_
  refine r_lcmp (pc := 107) dX8_level_107 ?_
  refine r_if_eq (pc := 108) (tgt := 209) dX8_level_108 rfl (fun hc => ?_) (fun hc => ?_)
  · replace hr := ite_t hc hr
    refine r_iinc (pc := 209) (j := 6) (v := (v8_ + (1 : Int32))) (ls1 := [(8, .int (v8_ + (1 : Int32))), (15, .long w8), (0, .ref (ad g 73)), (1, .int v1_), (2, .long w2_), (4, .long w4_), (6, .long w6_), (9, .long w5), (11, .long w6), (13, .long w7)]) dX8_level_209 rfl rfl (nle rfl) rfl ?_
    refine r_goto (pc := 212) (tgt := 13) dX8_level_212 rfl ?_
    exact r_pick (ls1 := [(0, .ref (ad g 73)), (1, .int v1_), (2, .long w2_), (4, .long w4_), (6, .long w6_), (8, .int (v8_ + (1 : Int32)))]) [2, 3, 4, 5, 6, 0] rfl (ih v1_ w2_ w4_ w6_ (v8_ + (1 : Int32)) hr)
  replace hr := ite_f hc hr
  refine r_lload (pc := 111) (j := 0) dX8_level_111 rfl ?_
  refine r_lconst (pc := 113) (v := (0 : Int64)) dX8_level_113 rfl ?_
  refine r_lcmp (pc := 114) dX8_level_114 ?_
  refine r_if_ne (pc := 115) (tgt := 121) dX8_level_115 rfl (fun hc => ?_) (fun hc => ?_)
  · replace hr := ite_f hc hr
    refine r_lload (pc := 121) (j := 9) dX8_level_121 rfl ?_
    refine r_lload (pc := 123) (j := 8) dX8_level_123 rfl ?_
    refine r_lsub (pc := 125) dX8_level_125 ?_
    refine r_lload (pc := 126) (j := 7) dX8_level_126 rfl ?_
    refine r_lmul (pc := 128) dX8_level_128 ?_
    refine r_lload (pc := 129) (j := 8) dX8_level_129 rfl ?_
    refine r_lload (pc := 131) (j := 0) dX8_level_131 rfl ?_
    refine r_lmul (pc := 133) dX8_level_133 ?_
    refine r_lsub (pc := 134) dX8_level_134 ?_
    refine r_topl fun w9 ew9 => ?_
    replace hr := vthen_inv hr w9 ew9
    refine r_lstore (pc := 135) (ls1 := [(17, .long w9), (15, .long w8), (0, .ref (ad g 73)), (1, .int v1_), (2, .long w2_), (4, .long w4_), (6, .long w6_), (8, .int v8_), (9, .long w5), (11, .long w6), (13, .long w7)]) dX8_level_135 (nle rfl) rfl ?_
    refine r_lload (pc := 137) (j := 8) dX8_level_137 rfl ?_
    refine r_lload (pc := 139) (j := 1) dX8_level_139 rfl ?_
    refine r_lmul (pc := 141) dX8_level_141 ?_
    refine r_topl fun w10 ew10 => ?_
    replace hr := vthen_inv hr w10 ew10
    refine r_lstore (pc := 142) (ls1 := [(19, .long w10), (17, .long w9), (15, .long w8), (0, .ref (ad g 73)), (1, .int v1_), (2, .long w2_), (4, .long w4_), (6, .long w6_), (8, .int v8_), (9, .long w5), (11, .long w6), (13, .long w7)]) dX8_level_142 (nle rfl) rfl ?_
    refine r_lload (pc := 144) (j := 1) dX8_level_144 rfl ?_
    refine r_lload (pc := 146) (j := 1) dX8_level_146 rfl ?_
    refine r_lmul (pc := 148) dX8_level_148 ?_
    refine r_lload (pc := 149) (j := 0) dX8_level_149 rfl ?_
    obtain ⟨h11, hr⟩ := grd_inv hr
    refine r_ldiv (pc := 151) dX8_level_151 (nzl_ne h11) ?_
    refine r_topl fun w12 ew12 => ?_
    replace hr := vthen_inv hr w12 ew12
    refine r_lstore (pc := 152) (ls1 := [(21, .long w12), (19, .long w10), (17, .long w9), (15, .long w8), (0, .ref (ad g 73)), (1, .int v1_), (2, .long w2_), (4, .long w4_), (6, .long w6_), (8, .int v8_), (9, .long w5), (11, .long w6), (13, .long w7)]) dX8_level_152 (nle rfl) rfl ?_
    refine r_lload (pc := 154) (j := 2) dX8_level_154 rfl ?_
    refine r_lload (pc := 156) (j := 2) dX8_level_156 rfl ?_
    refine r_lmul (pc := 158) dX8_level_158 ?_
    refine r_lload (pc := 159) (j := 1) dX8_level_159 rfl ?_
    refine r_lrem (pc := 161) dX8_level_161 (nzl_ne h11) ?_
    refine r_topl fun w13 ew13 => ?_
    replace hr := vthen_inv hr w13 ew13
    refine r_lstore (pc := 162) (ls1 := [(23, .long w13), (21, .long w12), (19, .long w10), (17, .long w9), (15, .long w8), (0, .ref (ad g 73)), (1, .int v1_), (2, .long w2_), (4, .long w4_), (6, .long w6_), (8, .int v8_), (9, .long w5), (11, .long w6), (13, .long w7)]) dX8_level_162 (nle rfl) rfl ?_
    refine r_lload (pc := 164) (j := 1) dX8_level_164 rfl ?_
    refine r_lload_n (pc := 166) (j := 7) dX8_level_166 rfl rfl ?_
    refine r_lcmp (pc := 167) dX8_level_167 ?_
    refine r_if_lt (pc := 168) (tgt := 209) dX8_level_168 rfl (fun hc => ?_) (fun hc => ?_)
    · replace hr := ite_t hc hr
      refine r_iinc (pc := 209) (j := 10) (v := (v8_ + (1 : Int32))) (ls1 := [(8, .int (v8_ + (1 : Int32))), (23, .long w13), (21, .long w12), (19, .long w10), (17, .long w9), (15, .long w8), (0, .ref (ad g 73)), (1, .int v1_), (2, .long w2_), (4, .long w4_), (6, .long w6_), (9, .long w5), (11, .long w6), (13, .long w7)]) dX8_level_209 rfl rfl (nle rfl) rfl ?_
      refine r_goto (pc := 212) (tgt := 13) dX8_level_212 rfl ?_
      exact r_pick (ls1 := [(0, .ref (ad g 73)), (1, .int v1_), (2, .long w2_), (4, .long w4_), (6, .long w6_), (8, .int (v8_ + (1 : Int32)))]) [6, 7, 8, 9, 10, 0] rfl (ih v1_ w2_ w4_ w6_ (v8_ + (1 : Int32)) hr)
    replace hr := ite_f hc hr
    refine r_lload (pc := 171) (j := 1) dX8_level_171 rfl ?_
    refine r_lload_n (pc := 173) (j := 7) dX8_level_173 rfl rfl ?_
    refine r_lcmp (pc := 174) dX8_level_174 ?_
    obtain ⟨j195, ej195, hr⟩ := vth_ex hr
    have hj195 : j195 () = some r → RR g mX8_level (FinR g mX8_level (some (.int r)) NF σ_) zF 195 [(0, .ref (ad g 73)), (8, .int v8_), (19, .long w10), (21, .long w12), (23, .long w13)] [] σ_ := by
      intro  hr
      replace hr := (congrFun ej195 ()).symm.trans hr
      refine r_iload (pc := 195) (j := 1) dX8_level_195 rfl ?_
      refine r_istore_n (pc := 197) (ls1 := [(1, .int v8_), (0, .ref (ad g 73)), (8, .int v8_), (19, .long w10), (21, .long w12), (23, .long w13)]) dX8_level_197 rfl (nle rfl) rfl ?_
      refine r_lload (pc := 198) (j := 4) dX8_level_198 rfl ?_
      refine r_lstore_n (pc := 200) (ls1 := [(2, .long w12), (1, .int v8_), (0, .ref (ad g 73)), (8, .int v8_), (19, .long w10), (21, .long w12), (23, .long w13)]) dX8_level_200 rfl (nle rfl) rfl ?_
      refine r_lload (pc := 201) (j := 6) dX8_level_201 rfl ?_
      refine r_lstore (pc := 203) (ls1 := [(4, .long w13), (2, .long w12), (1, .int v8_), (0, .ref (ad g 73)), (8, .int v8_), (19, .long w10), (21, .long w12), (23, .long w13)]) dX8_level_203 (nle rfl) rfl ?_
      refine r_lload (pc := 205) (j := 5) dX8_level_205 rfl ?_
      refine r_lstore (pc := 207) (ls1 := [(6, .long w10), (4, .long w13), (2, .long w12), (1, .int v8_), (0, .ref (ad g 73)), (8, .int v8_), (19, .long w10), (21, .long w12), (23, .long w13)]) dX8_level_207 (nle rfl) rfl ?_
      refine r_iinc (pc := 209) (j := 5) (v := (v8_ + (1 : Int32))) (ls1 := [(8, .int (v8_ + (1 : Int32))), (6, .long w10), (4, .long w13), (2, .long w12), (1, .int v8_), (0, .ref (ad g 73)), (19, .long w10), (21, .long w12), (23, .long w13)]) dX8_level_209 rfl rfl (nle rfl) rfl ?_
      refine r_goto (pc := 212) (tgt := 13) dX8_level_212 rfl ?_
      exact r_pick (ls1 := [(0, .ref (ad g 73)), (1, .int v8_), (2, .long w12), (4, .long w13), (6, .long w10), (8, .int (v8_ + (1 : Int32)))]) [5, 4, 3, 2, 1, 0] rfl (ih v8_ w12 w13 w10 (v8_ + (1 : Int32)) hr)
    refine r_if_ne (pc := 175) (tgt := 195) dX8_level_175 rfl (fun hc => ?_) (fun hc => ?_)
    · replace hr := ite_f hc hr
      exact r_pick (ls1 := [(0, .ref (ad g 73)), (8, .int v8_), (19, .long w10), (21, .long w12), (23, .long w13)]) [5, 10, 2, 1, 0] rfl (hj195  hr)
    replace hr := ite_t hc hr
    refine r_lload (pc := 178) (j := 0) dX8_level_178 rfl ?_
    refine r_lload (pc := 180) (j := 9) dX8_level_180 rfl ?_
    refine r_lmul (pc := 182) dX8_level_182 ?_
    refine r_lload (pc := 183) (j := 8) dX8_level_183 rfl ?_
    refine r_lload (pc := 185) (j := 2) dX8_level_185 rfl ?_
    refine r_lmul (pc := 187) dX8_level_187 ?_
    refine r_lcmp (pc := 188) dX8_level_188 ?_
    refine r_if_gt (pc := 189) (tgt := 195) dX8_level_189 rfl (fun hc => ?_) (fun hc => ?_)
    · replace hr := ite_t hc hr
      exact r_pick (ls1 := [(0, .ref (ad g 73)), (8, .int v8_), (19, .long w10), (21, .long w12), (23, .long w13)]) [5, 10, 2, 1, 0] rfl (hj195  hr)
    replace hr := ite_f hc hr
    refine r_goto (pc := 192) (tgt := 209) dX8_level_192 rfl ?_
    refine r_iinc (pc := 209) (j := 10) (v := (v8_ + (1 : Int32))) (ls1 := [(8, .int (v8_ + (1 : Int32))), (23, .long w13), (21, .long w12), (19, .long w10), (17, .long w9), (15, .long w8), (0, .ref (ad g 73)), (1, .int v1_), (2, .long w2_), (4, .long w4_), (6, .long w6_), (9, .long w5), (11, .long w6), (13, .long w7)]) dX8_level_209 rfl rfl (nle rfl) rfl ?_
    refine r_goto (pc := 212) (tgt := 13) dX8_level_212 rfl ?_
    exact r_pick (ls1 := [(0, .ref (ad g 73)), (1, .int v1_), (2, .long w2_), (4, .long w4_), (6, .long w6_), (8, .int (v8_ + (1 : Int32)))]) [6, 7, 8, 9, 10, 0] rfl (ih v1_ w2_ w4_ w6_ (v8_ + (1 : Int32)) hr)
  replace hr := ite_t hc hr
  refine r_goto (pc := 118) (tgt := 209) dX8_level_118 rfl ?_
  refine r_iinc (pc := 209) (j := 6) (v := (v8_ + (1 : Int32))) (ls1 := [(8, .int (v8_ + (1 : Int32))), (15, .long w8), (0, .ref (ad g 73)), (1, .int v1_), (2, .long w2_), (4, .long w4_), (6, .long w6_), (9, .long w5), (11, .long w6), (13, .long w7)]) dX8_level_209 rfl rfl (nle rfl) rfl ?_
  refine r_goto (pc := 212) (tgt := 13) dX8_level_212 rfl ?_
  exact r_pick (ls1 := [(0, .ref (ad g 73)), (1, .int v1_), (2, .long w2_), (4, .long w4_), (6, .long w6_), (8, .int (v8_ + (1 : Int32)))]) [2, 3, 4, 5, 6, 0] rfl (ih v1_ w2_ w4_ w6_ (v8_ + (1 : Int32)) hr)

set_option maxRecDepth 20000 in
theorem sX8_level {g : GG} {σ0 : SS}  {r : Int32} (hr : fX8_level σ0 = some r)  : Ct g mX8_level [.ref (ad g 73)] NF σ0 (some (.int r)) NF σ0 := by
  refine Ct.of (by decide +kernel) (nle rfl) fun hw0 => ?_
  have hw := hw0 rfl
  unfold fX8_level at hr
  change RR g mX8_level (FinR g mX8_level (some (.int r)) NF σ0) zF 0 [(0, .ref (ad g 73))] [] σ0
  refine r_iconst (pc := 0) (v := (1 : Int32)) dX8_level_0 rfl ?_
  refine r_istore_n (pc := 1) (ls1 := [(1, .int (1 : Int32)), (0, .ref (ad g 73))]) dX8_level_1 rfl (nle rfl) rfl ?_
  refine r_lconst (pc := 2) (v := (0 : Int64)) dX8_level_2 rfl ?_
  refine r_lstore_n (pc := 3) (ls1 := [(2, .long (0 : Int64)), (1, .int (1 : Int32)), (0, .ref (ad g 73))]) dX8_level_3 rfl (nle rfl) rfl ?_
  refine r_lconst (pc := 4) (v := (0 : Int64)) dX8_level_4 rfl ?_
  refine r_lstore (pc := 5) (ls1 := [(4, .long (0 : Int64)), (2, .long (0 : Int64)), (1, .int (1 : Int32)), (0, .ref (ad g 73))]) dX8_level_5 (nle rfl) rfl ?_
  refine r_lconst (pc := 7) (v := (1 : Int64)) dX8_level_7 rfl ?_
  refine r_lstore (pc := 8) (ls1 := [(6, .long (1 : Int64)), (4, .long (0 : Int64)), (2, .long (0 : Int64)), (1, .int (1 : Int32)), (0, .ref (ad g 73))]) dX8_level_8 (nle rfl) rfl ?_
  refine r_iconst (pc := 10) (v := (1 : Int32)) dX8_level_10 rfl ?_
  refine r_istore (pc := 11) (ls1 := [(8, .int (1 : Int32)), (6, .long (1 : Int64)), (4, .long (0 : Int64)), (2, .long (0 : Int64)), (1, .int (1 : Int32)), (0, .ref (ad g 73))]) dX8_level_11 (nle rfl) rfl ?_
  refine r_pick (ls1 := [(0, .ref (ad g 73)), (1, .int (1 : Int32)), (2, .long (0 : Int64)), (4, .long (0 : Int64)), (6, .long (1 : Int64)), (8, .int (1 : Int32))]) [5, 4, 3, 2, 1, 0] rfl ?_
  refine sX8_level_L13  hw rfl  fuel (1 : Int32) (0 : Int64) (0 : Int64) (1 : Int64) (1 : Int32) hr

theorem kX8_level {g : GG} {σ0 : SS}  {v : Int32} {M : MM} {F : State → Array Value → List Frame → State → Prop} {pc index : Nat} {ls : List (Nat × Value)} {rest : List Value} (hf : fX8_level σ0 = some v)  (hl : Cond.methodLink M.1.cls index yX8_level ∈ lw_gt) (hR : mX8_level.2.2.2.2.frames + 1 ≤ M.2.2.2.2.frames ∧ 8 + (mX8_level.2.2.1 + 11) + mX8_level.2.2.2.2.locals ≤ M.2.2.2.2.locals) (hrest : (rest.map fun v => v.category).sum ≤ 8) (hd : decode M.2.1 pc = .ok (.invokevirtual index, 3)) (k : RR g M F zF (pc + 3) ls (.int v :: rest) σ0) : RR g M F zF pc ls (.ref (ad g 73) :: rest) σ0 :=
  r_callV (z := zF) (N := mX8_level) (nn := 0) (o1 := some (.int v)) (sX8_level hf ) (rfl : shp 73 = (8, 0)) (by decide) (shp_le (rfl : shp 73 = (8, 0)) (nle rfl)) (ci := 8) rfl rfl tw_7_222 tw_1_10 hl tw_7_220 tw_7_221 ⟨by decide, by decide, rfl⟩ hR rfl hrest hd ⟨Nat.zero_le _, Nat.zero_le _⟩ rfl (fun h => k)

