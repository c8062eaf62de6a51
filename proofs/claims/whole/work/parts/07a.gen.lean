/-! Walks written by a program out of the bytecode: each method as a function over the store, and its contract. -/
theorem dX7_putOnTape_0 : decode cX7_putOnTape 0 = .ok (.bipush 24, 2) := by decide +kernel
theorem dX7_putOnTape_2 : decode cX7_putOnTape 2 = .ok (.istore_n 2, 1) := by decide +kernel
theorem dX7_putOnTape_3 : decode cX7_putOnTape 3 = .ok (.iload_n 2, 1) := by decide +kernel
theorem dX7_putOnTape_4 : decode cX7_putOnTape 4 = .ok (.ifCond .lt 45, 3) := by decide +kernel
theorem dX7_putOnTape_7 : decode cX7_putOnTape 7 = .ok (.aload_n 0, 1) := by decide +kernel
theorem dX7_putOnTape_8 : decode cX7_putOnTape 8 = .ok (.getfield 77, 3) := by decide +kernel
theorem dX7_putOnTape_11 : decode cX7_putOnTape 11 = .ok (.sipush 480, 3) := by decide +kernel
theorem dX7_putOnTape_14 : decode cX7_putOnTape 14 = .ok (.if_icmp .ge 29, 3) := by decide +kernel
theorem dX7_putOnTape_17 : decode cX7_putOnTape 17 = .ok (.aload_n 0, 1) := by decide +kernel
theorem dX7_putOnTape_18 : decode cX7_putOnTape 18 = .ok (.getfield 11, 3) := by decide +kernel
theorem dX7_putOnTape_21 : decode cX7_putOnTape 21 = .ok (.aload_n 0, 1) := by decide +kernel
theorem dX7_putOnTape_22 : decode cX7_putOnTape 22 = .ok (.getfield 77, 3) := by decide +kernel
theorem dX7_putOnTape_25 : decode cX7_putOnTape 25 = .ok (.iload_n 1, 1) := by decide +kernel
theorem dX7_putOnTape_26 : decode cX7_putOnTape 26 = .ok (.iload_n 2, 1) := by decide +kernel
theorem dX7_putOnTape_27 : decode cX7_putOnTape 27 = .ok (.ishr, 1) := by decide +kernel
theorem dX7_putOnTape_28 : decode cX7_putOnTape 28 = .ok (.sipush 255, 3) := by decide +kernel
theorem dX7_putOnTape_31 : decode cX7_putOnTape 31 = .ok (.iand, 1) := by decide +kernel
theorem dX7_putOnTape_32 : decode cX7_putOnTape 32 = .ok (.iastore, 1) := by decide +kernel
theorem dX7_putOnTape_33 : decode cX7_putOnTape 33 = .ok (.aload_n 0, 1) := by decide +kernel
theorem dX7_putOnTape_34 : decode cX7_putOnTape 34 = .ok (.dup, 1) := by decide +kernel
theorem dX7_putOnTape_35 : decode cX7_putOnTape 35 = .ok (.getfield 77, 3) := by decide +kernel
theorem dX7_putOnTape_38 : decode cX7_putOnTape 38 = .ok (.iconst 1, 1) := by decide +kernel
theorem dX7_putOnTape_39 : decode cX7_putOnTape 39 = .ok (.iadd, 1) := by decide +kernel
theorem dX7_putOnTape_40 : decode cX7_putOnTape 40 = .ok (.putfield 77, 3) := by decide +kernel
theorem dX7_putOnTape_43 : decode cX7_putOnTape 43 = .ok (.iinc 2 (-8), 3) := by decide +kernel
theorem dX7_putOnTape_46 : decode cX7_putOnTape 46 = .ok (.goto (-43), 3) := by decide +kernel
theorem dX7_putOnTape_49 : decode cX7_putOnTape 49 = .ok (.return_, 1) := by decide +kernel
def mX7_putOnTape : MM := (yX7_putOnTape, cX7_putOnTape, 3, none, { frames := 0, cells := 0, slots := 0, locals := 0 })
def X7_putOnTape_L3 (u1_ : Int32)  : Nat → Int32 → SS → Option SS :=
  lp (fun _ _ => none) fun rec v2_ σ_ =>
    if v2_ < 0 then (
      some σ_
      ) else (
      if (480 : Int32) ≤ (gI σ_ 1 1) then (
        rec (v2_ + (-8 : Int32)) σ_
        ) else (
        grd (inb (gI σ_ 1 1) 480) <|
        vthen (sI σ_ 2 (Int32.toNatClampNeg (gI σ_ 1 1)) ((u1_ >>> (v2_ &&& 31)) &&& (255 : Int32))) fun σ2 =>
        vthen (sI σ2 1 1 ((gI σ2 1 1) + (1 : Int32))) fun σ3 =>
        rec (v2_ + (-8 : Int32)) σ3
        )
      )

def fX7_putOnTape (σ : SS) (a1 : Int32) : Option SS :=
  X7_putOnTape_L3 a1
  fuel (24 : Int32) σ

set_option maxRecDepth 20000 in
theorem sX7_putOnTape_L3 {g : GG} {r : SS} {u1_ : Int32}  
    (n : Nat) : ∀ (v2_ : Int32) (σ_ : SS), X7_putOnTape_L3 u1_ n v2_ σ_ = some r → WT σ_ → RR g mX7_putOnTape (FinR g mX7_putOnTape none NF r) zF 3 [(0, .ref (ad g 1)), (1, .int u1_), (2, .int v2_)] [] σ_ := by
  unfold X7_putOnTape_L3
  refine lp_ind (P := fun (rec : Int32 → SS → Option SS) => ∀ (v2_ : Int32) (σ_ : SS), rec v2_ σ_ = some r → WT σ_ → RR g mX7_putOnTape (FinR g mX7_putOnTape none NF r) zF 3 [(0, .ref (ad g 1)), (1, .int u1_), (2, .int v2_)] [] σ_) ?_ ?_ n
  · intro v2_ σ_ hr; cases hr
  intro rec ih v2_ σ_ hr hw_
  refine r_iload_n (pc := 3) (j := 2) dX7_putOnTape_3 rfl rfl ?_
  refine r_if_lt (pc := 4) (tgt := 49) dX7_putOnTape_4 rfl (fun hc => ?_) (fun hc => ?_)
  · replace hr := ite_t hc hr
    exact l_ov hr (r_vret (pc := 49) rfl rfl ⟨Nat.le_refl _, Nat.le_refl _⟩ dX7_putOnTape_49)
  replace hr := ite_f hc hr
  refine r_aload_n (pc := 7) (j := 0) dX7_putOnTape_7 rfl rfl ?_
  refine gf7_1 (pc := 8) tw_2_110 rfl dX7_putOnTape_8 ?_
  refine r_sipush (pc := 11) (v := (480 : Int32)) dX7_putOnTape_11 rfl ?_
  refine r_icmp_ge (pc := 14) (tgt := 43) dX7_putOnTape_14 rfl (fun hc => ?_) (fun hc => ?_)
  · replace hr := ite_t hc hr
    refine r_iinc (pc := 43) (j := 2) (v := (v2_ + (-8 : Int32))) (ls1 := [(2, .int (v2_ + (-8 : Int32))), (0, .ref (ad g 1)), (1, .int u1_)]) dX7_putOnTape_43 rfl rfl (nle rfl) rfl ?_
    refine r_goto (pc := 46) (tgt := 3) dX7_putOnTape_46 rfl ?_
    exact r_pick (ls1 := [(0, .ref (ad g 1)), (1, .int u1_), (2, .int (v2_ + (-8 : Int32)))]) [1, 2, 0] rfl (ih (v2_ + (-8 : Int32)) σ_ hr hw_)
  replace hr := ite_f hc hr
  refine r_aload_n (pc := 17) (j := 0) dX7_putOnTape_17 rfl rfl ?_
  refine gf7_0 (pc := 18) tw_2_109 hw_ dX7_putOnTape_18 ?_
  refine r_aload_n (pc := 21) (j := 0) dX7_putOnTape_21 rfl rfl ?_
  refine gf7_1 (pc := 22) tw_2_110 rfl dX7_putOnTape_22 ?_
  refine r_iload_n (pc := 25) (j := 1) dX7_putOnTape_25 rfl rfl ?_
  refine r_iload_n (pc := 26) (j := 2) dX7_putOnTape_26 rfl rfl ?_
  refine r_ishr (pc := 27) dX7_putOnTape_27 ?_
  refine r_sipush (pc := 28) (v := (255 : Int32)) dX7_putOnTape_28 rfl ?_
  refine r_iand (pc := 31) dX7_putOnTape_31 ?_
  obtain ⟨h1, hr⟩ := grd_inv hr
  refine x_iast (pc := 32) (j := (Int32.toNatClampNeg (gI σ_ 1 1))) rfl h1 rfl dX7_putOnTape_32 fun σ2 eσ2 => ?_
  replace hr := vthen_inv hr σ2 eσ2
  have hσ2 := wtI eσ2 hw_
  refine r_aload_n (pc := 33) (j := 0) dX7_putOnTape_33 rfl rfl ?_
  refine r_dup (pc := 34) dX7_putOnTape_34 rfl ?_
  refine gf7_1 (pc := 35) tw_2_110 rfl dX7_putOnTape_35 ?_
  refine r_iconst (pc := 38) (v := (1 : Int32)) dX7_putOnTape_38 rfl ?_
  refine r_iadd (pc := 39) dX7_putOnTape_39 ?_
  refine pf7_1 (pc := 40) tw_2_110 rfl dX7_putOnTape_40 fun σ3 eσ3 => ?_
  replace hr := vthen_inv hr σ3 eσ3
  have hσ3 := wtI eσ3 hσ2
  refine r_iinc (pc := 43) (j := 2) (v := (v2_ + (-8 : Int32))) (ls1 := [(2, .int (v2_ + (-8 : Int32))), (0, .ref (ad g 1)), (1, .int u1_)]) dX7_putOnTape_43 rfl rfl (nle rfl) rfl ?_
  refine r_goto (pc := 46) (tgt := 3) dX7_putOnTape_46 rfl ?_
  exact r_pick (ls1 := [(0, .ref (ad g 1)), (1, .int u1_), (2, .int (v2_ + (-8 : Int32)))]) [1, 2, 0] rfl (ih (v2_ + (-8 : Int32)) σ3 hr hσ3)

set_option maxRecDepth 20000 in
theorem sX7_putOnTape {g : GG} {σ : SS} {a1 : Int32} {r : SS} (hr : fX7_putOnTape σ a1 = some r)  : Ct g mX7_putOnTape [.ref (ad g 1), .int a1] NF σ none NF r := by
  refine Ct.of (by decide +kernel) (nle rfl) fun hw0 => ?_
  have hw := hw0 rfl
  unfold fX7_putOnTape at hr
  change RR g mX7_putOnTape (FinR g mX7_putOnTape none NF r) zF 0 [(0, .ref (ad g 1)), (1, .int a1)] [] σ
  refine r_bipush (pc := 0) (v := (24 : Int32)) dX7_putOnTape_0 rfl ?_
  refine r_istore_n (pc := 2) (ls1 := [(2, .int (24 : Int32)), (0, .ref (ad g 1)), (1, .int a1)]) dX7_putOnTape_2 rfl (nle rfl) rfl ?_
  refine r_pick (ls1 := [(0, .ref (ad g 1)), (1, .int a1), (2, .int (24 : Int32))]) [1, 2, 0] rfl ?_
  refine sX7_putOnTape_L3     fuel (24 : Int32) σ hr hw

theorem kX7_putOnTape {g : GG} {σ : SS} {a1 : Int32} {σ2 : SS} {M : MM} {F : State → Array Value → List Frame → State → Prop} {pc index : Nat} {ls : List (Nat × Value)} {rest : List Value} (hf : fX7_putOnTape σ a1 = some σ2)  (hl : Cond.methodLink M.1.cls index yX7_putOnTape ∈ lw_gt) (hR : mX7_putOnTape.2.2.2.2.frames + 1 ≤ M.2.2.2.2.frames ∧ 8 + (mX7_putOnTape.2.2.1 + 11) + mX7_putOnTape.2.2.2.2.locals ≤ M.2.2.2.2.locals) (hrest : (rest.map fun v => v.category).sum ≤ 8) (hd : decode M.2.1 pc = .ok (.invokevirtual index, 3)) (k : WT σ2 → RR g M F zF (pc + 3) ls rest σ2) : RR g M F zF pc ls (.int a1 :: .ref (ad g 1) :: rest) σ :=
  r_callV (z := zF) (N := mX7_putOnTape) (nn := 1) (o1 := none) (sX7_putOnTape hf ) (rfl : shp 1 = (7, 0)) (by decide) (shp_le (rfl : shp 1 = (7, 0)) (nle rfl)) (ci := 7) rfl rfl tw_2_159 tw_1_1 hl tw_2_158 tp_0 ⟨by decide, by decide, rfl⟩ hR rfl hrest hd ⟨Nat.zero_le _, Nat.zero_le _⟩ rfl (fun h => k (h rfl))

theorem dX7_feed_0 : decode cX7_feed 0 = .ok (.aload_n 0, 1) := by decide +kernel
theorem dX7_feed_1 : decode cX7_feed 1 = .ok (.getfield 77, 3) := by decide +kernel
theorem dX7_feed_4 : decode cX7_feed 4 = .ok (.bipush 20, 2) := by decide +kernel
theorem dX7_feed_6 : decode cX7_feed 6 = .ok (.iadd, 1) := by decide +kernel
theorem dX7_feed_7 : decode cX7_feed 7 = .ok (.sipush 480, 3) := by decide +kernel
theorem dX7_feed_10 : decode cX7_feed 10 = .ok (.if_icmp .le 5, 3) := by decide +kernel
theorem dX7_feed_13 : decode cX7_feed 13 = .ok (.iconst (-1), 1) := by decide +kernel
theorem dX7_feed_14 : decode cX7_feed 14 = .ok (.ireturn, 1) := by decide +kernel
theorem dX7_feed_15 : decode cX7_feed 15 = .ok (.aload_n 0, 1) := by decide +kernel
theorem dX7_feed_16 : decode cX7_feed 16 = .ok (.iload_n 1, 1) := by decide +kernel
theorem dX7_feed_17 : decode cX7_feed 17 = .ok (.invokevirtual 80, 3) := by decide +kernel
theorem dX7_feed_20 : decode cX7_feed 20 = .ok (.aload_n 0, 1) := by decide +kernel
theorem dX7_feed_21 : decode cX7_feed 21 = .ok (.iload_n 2, 1) := by decide +kernel
theorem dX7_feed_22 : decode cX7_feed 22 = .ok (.invokevirtual 80, 3) := by decide +kernel
theorem dX7_feed_25 : decode cX7_feed 25 = .ok (.aload_n 0, 1) := by decide +kernel
theorem dX7_feed_26 : decode cX7_feed 26 = .ok (.iload_n 3, 1) := by decide +kernel
theorem dX7_feed_27 : decode cX7_feed 27 = .ok (.invokevirtual 80, 3) := by decide +kernel
theorem dX7_feed_30 : decode cX7_feed 30 = .ok (.aload_n 0, 1) := by decide +kernel
theorem dX7_feed_31 : decode cX7_feed 31 = .ok (.iload 4, 2) := by decide +kernel
theorem dX7_feed_33 : decode cX7_feed 33 = .ok (.invokevirtual 80, 3) := by decide +kernel
theorem dX7_feed_36 : decode cX7_feed 36 = .ok (.aload_n 0, 1) := by decide +kernel
theorem dX7_feed_37 : decode cX7_feed 37 = .ok (.iload 5, 2) := by decide +kernel
theorem dX7_feed_39 : decode cX7_feed 39 = .ok (.invokevirtual 80, 3) := by decide +kernel
theorem dX7_feed_42 : decode cX7_feed 42 = .ok (.aload_n 0, 1) := by decide +kernel
theorem dX7_feed_43 : decode cX7_feed 43 = .ok (.getfield 77, 3) := by decide +kernel
theorem dX7_feed_46 : decode cX7_feed 46 = .ok (.ireturn, 1) := by decide +kernel
def mX7_feed : MM := (yX7_feed, cX7_feed, 6, Option.some Jvm.ClassFile.FieldType.int, { frames := 1, cells := 0, slots := 0, locals := 22 })
def fX7_feed (σ : SS) (a1 : Int32) (a2 : Int32) (a3 : Int32) (a4 : Int32) (a5 : Int32) : Option (Int32 × SS) :=
  if ((gI σ 1 1) + (20 : Int32)) ≤ (480 : Int32) then (
    bnd1 (fX7_putOnTape σ a1) fun σ1 =>
    bnd1 (fX7_putOnTape σ1 a2) fun σ2 =>
    bnd1 (fX7_putOnTape σ2 a3) fun σ3 =>
    bnd1 (fX7_putOnTape σ3 a4) fun σ4 =>
    bnd1 (fX7_putOnTape σ4 a5) fun σ5 =>
    some ((gI σ5 1 1), σ5)
    ) else (
    some ((-1 : Int32), σ)
    )

set_option maxRecDepth 20000 in
theorem sX7_feed {g : GG} {σ : SS} {a1 : Int32} {a2 : Int32} {a3 : Int32} {a4 : Int32} {a5 : Int32} {r : Int32 × SS} (hr : fX7_feed σ a1 a2 a3 a4 a5 = some r)  : Ct g mX7_feed [.ref (ad g 1), .int a1, .int a2, .int a3, .int a4, .int a5] NF σ (some (.int r.1)) NF r.2 := by
  refine Ct.of (by decide +kernel) (nle rfl) fun hw0 => ?_
  have hw := hw0 rfl
  unfold fX7_feed at hr
  change RR g mX7_feed (FinR g mX7_feed (some (.int r.1)) NF r.2) zF 0 [(0, .ref (ad g 1)), (1, .int a1), (2, .int a2), (3, .int a3), (4, .int a4), (5, .int a5)] [] σ
  refine r_aload_n (pc := 0) (j := 0) dX7_feed_0 rfl rfl ?_
  refine gf7_1 (pc := 1) tw_2_110 rfl dX7_feed_1 ?_
  refine r_bipush (pc := 4) (v := (20 : Int32)) dX7_feed_4 rfl ?_
  refine r_iadd (pc := 6) dX7_feed_6 ?_
  refine r_sipush (pc := 7) (v := (480 : Int32)) dX7_feed_7 rfl ?_
  refine r_icmp_le (pc := 10) (tgt := 15) dX7_feed_10 rfl (fun hc => ?_) (fun hc => ?_)
  · replace hr := ite_t hc hr
    refine r_aload_n (pc := 15) (j := 0) dX7_feed_15 rfl rfl ?_
    refine r_iload_n (pc := 16) (j := 1) dX7_feed_16 rfl rfl ?_
    obtain ⟨σ1, eσ1, hr⟩ := bnd1_inv hr
    refine kX7_putOnTape (pc := 17) eσ1 tw_2_156 ⟨nle rfl, nle rfl⟩ (nle rfl) dX7_feed_17 fun hσ1 => ?_
    refine r_aload_n (pc := 20) (j := 0) dX7_feed_20 rfl rfl ?_
    refine r_iload_n (pc := 21) (j := 2) dX7_feed_21 rfl rfl ?_
    obtain ⟨σ2, eσ2, hr⟩ := bnd1_inv hr
    refine kX7_putOnTape (pc := 22) eσ2 tw_2_156 ⟨nle rfl, nle rfl⟩ (nle rfl) dX7_feed_22 fun hσ2 => ?_
    refine r_aload_n (pc := 25) (j := 0) dX7_feed_25 rfl rfl ?_
    refine r_iload_n (pc := 26) (j := 3) dX7_feed_26 rfl rfl ?_
    obtain ⟨σ3, eσ3, hr⟩ := bnd1_inv hr
    refine kX7_putOnTape (pc := 27) eσ3 tw_2_156 ⟨nle rfl, nle rfl⟩ (nle rfl) dX7_feed_27 fun hσ3 => ?_
    refine r_aload_n (pc := 30) (j := 0) dX7_feed_30 rfl rfl ?_
    refine r_iload (pc := 31) (j := 4) dX7_feed_31 rfl ?_
    obtain ⟨σ4, eσ4, hr⟩ := bnd1_inv hr
    refine kX7_putOnTape (pc := 33) eσ4 tw_2_156 ⟨nle rfl, nle rfl⟩ (nle rfl) dX7_feed_33 fun hσ4 => ?_
    refine r_aload_n (pc := 36) (j := 0) dX7_feed_36 rfl rfl ?_
    refine r_iload (pc := 37) (j := 5) dX7_feed_37 rfl ?_
    obtain ⟨σ5, eσ5, hr⟩ := bnd1_inv hr
    refine kX7_putOnTape (pc := 39) eσ5 tw_2_156 ⟨nle rfl, nle rfl⟩ (nle rfl) dX7_feed_39 fun hσ5 => ?_
    refine r_aload_n (pc := 42) (j := 0) dX7_feed_42 rfl rfl ?_
    refine gf7_1 (pc := 43) tw_2_110 rfl dX7_feed_43 ?_
    exact l_osi hr (r_iret (pc := 46) (v := (gI σ5 1 1)) rfl rfl ⟨Nat.le_refl _, Nat.le_refl _⟩ dX7_feed_46)
  replace hr := ite_f hc hr
  refine r_iconst (pc := 13) (v := (-1 : Int32)) dX7_feed_13 rfl ?_
  exact l_osi hr (r_iret (pc := 14) (v := (-1 : Int32)) rfl rfl ⟨Nat.le_refl _, Nat.le_refl _⟩ dX7_feed_14)

theorem kX7_feed {g : GG} {σ : SS} {a1 : Int32} {a2 : Int32} {a3 : Int32} {a4 : Int32} {a5 : Int32} {v : Int32} {σ2 : SS} {M : MM} {F : State → Array Value → List Frame → State → Prop} {pc index : Nat} {ls : List (Nat × Value)} {rest : List Value} (hf : fX7_feed σ a1 a2 a3 a4 a5 = some (v, σ2))  (hl : Cond.methodLink M.1.cls index yX7_feed ∈ lw_gt) (hR : mX7_feed.2.2.2.2.frames + 1 ≤ M.2.2.2.2.frames ∧ 8 + (mX7_feed.2.2.1 + 11) + mX7_feed.2.2.2.2.locals ≤ M.2.2.2.2.locals) (hrest : (rest.map fun v => v.category).sum ≤ 8) (hd : decode M.2.1 pc = .ok (.invokevirtual index, 3)) (k : WT σ2 → RR g M F zF (pc + 3) ls (.int v :: rest) σ2) : RR g M F zF pc ls (.int a5 :: .int a4 :: .int a3 :: .int a2 :: .int a1 :: .ref (ad g 1) :: rest) σ :=
  r_callV (z := zF) (N := mX7_feed) (nn := 5) (o1 := some (.int v)) (sX7_feed hf ) (rfl : shp 1 = (7, 0)) (by decide) (shp_le (rfl : shp 1 = (7, 0)) (nle rfl)) (ci := 7) rfl rfl tw_2_155 tw_1_1 hl tw_2_153 tw_2_154 ⟨by decide, by decide, rfl⟩ hR rfl hrest hd ⟨Nat.zero_le _, Nat.zero_le _⟩ rfl (fun h => k (h rfl))

theorem dX8_typed4_0 : decode cX8_typed4 0 = .ok (.iconst 3, 1) := by decide +kernel
theorem dX8_typed4_1 : decode cX8_typed4 1 = .ok (.istore_n 2, 1) := by decide +kernel
theorem dX8_typed4_2 : decode cX8_typed4 2 = .ok (.iload_n 2, 1) := by decide +kernel
theorem dX8_typed4_3 : decode cX8_typed4 3 = .ok (.ifCond .lt 35, 3) := by decide +kernel
theorem dX8_typed4_6 : decode cX8_typed4 6 = .ok (.aload_n 0, 1) := by decide +kernel
theorem dX8_typed4_7 : decode cX8_typed4 7 = .ok (.getfield 7, 3) := by decide +kernel
theorem dX8_typed4_10 : decode cX8_typed4 10 = .ok (.aload_n 0, 1) := by decide +kernel
theorem dX8_typed4_11 : decode cX8_typed4 11 = .ok (.getfield 142, 3) := by decide +kernel
theorem dX8_typed4_14 : decode cX8_typed4 14 = .ok (.iload_n 1, 1) := by decide +kernel
theorem dX8_typed4_15 : decode cX8_typed4 15 = .ok (.bipush 8, 2) := by decide +kernel
theorem dX8_typed4_17 : decode cX8_typed4 17 = .ok (.iload_n 2, 1) := by decide +kernel
theorem dX8_typed4_18 : decode cX8_typed4 18 = .ok (.imul, 1) := by decide +kernel
theorem dX8_typed4_19 : decode cX8_typed4 19 = .ok (.ishr, 1) := by decide +kernel
theorem dX8_typed4_20 : decode cX8_typed4 20 = .ok (.i2b, 1) := by decide +kernel
theorem dX8_typed4_21 : decode cX8_typed4 21 = .ok (.bastore, 1) := by decide +kernel
theorem dX8_typed4_22 : decode cX8_typed4 22 = .ok (.aload_n 0, 1) := by decide +kernel
theorem dX8_typed4_23 : decode cX8_typed4 23 = .ok (.aload_n 0, 1) := by decide +kernel
theorem dX8_typed4_24 : decode cX8_typed4 24 = .ok (.getfield 142, 3) := by decide +kernel
theorem dX8_typed4_27 : decode cX8_typed4 27 = .ok (.iconst 1, 1) := by decide +kernel
theorem dX8_typed4_28 : decode cX8_typed4 28 = .ok (.iadd, 1) := by decide +kernel
theorem dX8_typed4_29 : decode cX8_typed4 29 = .ok (.putfield 142, 3) := by decide +kernel
theorem dX8_typed4_32 : decode cX8_typed4 32 = .ok (.iinc 2 (-1), 3) := by decide +kernel
theorem dX8_typed4_35 : decode cX8_typed4 35 = .ok (.goto (-33), 3) := by decide +kernel
theorem dX8_typed4_38 : decode cX8_typed4 38 = .ok (.return_, 1) := by decide +kernel
def mX8_typed4 : MM := (yX8_typed4, cX8_typed4, 3, none, { frames := 0, cells := 0, slots := 0, locals := 0 })
def X8_typed4_L2 (u1_ : Int32)  : Nat → Int32 → SS → Option SS :=
  lp (fun _ _ => none) fun rec v2_ σ_ =>
    if v2_ < 0 then (
      some σ_
      ) else (
      grd (inb (gI σ_ 73 1) 480) <|
      vthen (sI σ_ 74 (Int32.toNatClampNeg (gI σ_ 73 1)) (Int8.toInt32 (Int32.toInt8 (Int8.toInt32 (Int32.toInt8 (u1_ >>> (((8 : Int32) * v2_) &&& 31))))))) fun σ2 =>
      vthen (sI σ2 73 1 ((gI σ2 73 1) + (1 : Int32))) fun σ3 =>
      rec (v2_ + (-1 : Int32)) σ3
      )

def fX8_typed4 (σ : SS) (a1 : Int32) : Option SS :=
  X8_typed4_L2 a1
  fuel (3 : Int32) σ

set_option maxRecDepth 20000 in
theorem sX8_typed4_L2 {g : GG} {r : SS} {u1_ : Int32}  
    (n : Nat) : ∀ (v2_ : Int32) (σ_ : SS), X8_typed4_L2 u1_ n v2_ σ_ = some r → WT σ_ → RR g mX8_typed4 (FinR g mX8_typed4 none NF r) zF 2 [(0, .ref (ad g 73)), (1, .int u1_), (2, .int v2_)] [] σ_ := by
  unfold X8_typed4_L2
  refine lp_ind (P := fun (rec : Int32 → SS → Option SS) => ∀ (v2_ : Int32) (σ_ : SS), rec v2_ σ_ = some r → WT σ_ → RR g mX8_typed4 (FinR g mX8_typed4 none NF r) zF 2 [(0, .ref (ad g 73)), (1, .int u1_), (2, .int v2_)] [] σ_) ?_ ?_ n
  · intro v2_ σ_ hr; cases hr
  intro rec ih v2_ σ_ hr hw_
  refine r_iload_n (pc := 2) (j := 2) dX8_typed4_2 rfl rfl ?_
  refine r_if_lt (pc := 3) (tgt := 38) dX8_typed4_3 rfl (fun hc => ?_) (fun hc => ?_)
  · replace hr := ite_t hc hr
    exact l_ov hr (r_vret (pc := 38) rfl rfl ⟨Nat.le_refl _, Nat.le_refl _⟩ dX8_typed4_38)
  replace hr := ite_f hc hr
  refine r_aload_n (pc := 6) (j := 0) dX8_typed4_6 rfl rfl ?_
  refine gf8_0 (pc := 7) tw_5_94 hw_ dX8_typed4_7 ?_
  refine r_aload_n (pc := 10) (j := 0) dX8_typed4_10 rfl rfl ?_
  refine gf8_1 (pc := 11) tw_5_95 rfl dX8_typed4_11 ?_
  refine r_iload_n (pc := 14) (j := 1) dX8_typed4_14 rfl rfl ?_
  refine r_bipush (pc := 15) (v := (8 : Int32)) dX8_typed4_15 rfl ?_
  refine r_iload_n (pc := 17) (j := 2) dX8_typed4_17 rfl rfl ?_
  refine r_imul (pc := 18) dX8_typed4_18 ?_
  refine r_ishr (pc := 19) dX8_typed4_19 ?_
  refine r_i2b (pc := 20) dX8_typed4_20 ?_
  obtain ⟨h1, hr⟩ := grd_inv hr
  refine x_bast (pc := 21) (j := (Int32.toNatClampNeg (gI σ_ 73 1))) rfl h1 rfl dX8_typed4_21 fun σ2 eσ2 => ?_
  replace hr := vthen_inv hr σ2 eσ2
  have hσ2 := wtI eσ2 hw_
  refine r_aload_n (pc := 22) (j := 0) dX8_typed4_22 rfl rfl ?_
  refine r_aload_n (pc := 23) (j := 0) dX8_typed4_23 rfl rfl ?_
  refine gf8_1 (pc := 24) tw_5_95 rfl dX8_typed4_24 ?_
  refine r_iconst (pc := 27) (v := (1 : Int32)) dX8_typed4_27 rfl ?_
  refine r_iadd (pc := 28) dX8_typed4_28 ?_
  refine pf8_1 (pc := 29) tw_5_95 rfl dX8_typed4_29 fun σ3 eσ3 => ?_
  replace hr := vthen_inv hr σ3 eσ3
  have hσ3 := wtI eσ3 hσ2
  refine r_iinc (pc := 32) (j := 2) (v := (v2_ + (-1 : Int32))) (ls1 := [(2, .int (v2_ + (-1 : Int32))), (0, .ref (ad g 73)), (1, .int u1_)]) dX8_typed4_32 rfl rfl (nle rfl) rfl ?_
  refine r_goto (pc := 35) (tgt := 2) dX8_typed4_35 rfl ?_
  exact r_pick (ls1 := [(0, .ref (ad g 73)), (1, .int u1_), (2, .int (v2_ + (-1 : Int32)))]) [1, 2, 0] rfl (ih (v2_ + (-1 : Int32)) σ3 hr hσ3)

set_option maxRecDepth 20000 in
theorem sX8_typed4 {g : GG} {σ : SS} {a1 : Int32} {r : SS} (hr : fX8_typed4 σ a1 = some r)  : Ct g mX8_typed4 [.ref (ad g 73), .int a1] NF σ none NF r := by
  refine Ct.of (by decide +kernel) (nle rfl) fun hw0 => ?_
  have hw := hw0 rfl
  unfold fX8_typed4 at hr
  change RR g mX8_typed4 (FinR g mX8_typed4 none NF r) zF 0 [(0, .ref (ad g 73)), (1, .int a1)] [] σ
  refine r_iconst (pc := 0) (v := (3 : Int32)) dX8_typed4_0 rfl ?_
  refine r_istore_n (pc := 1) (ls1 := [(2, .int (3 : Int32)), (0, .ref (ad g 73)), (1, .int a1)]) dX8_typed4_1 rfl (nle rfl) rfl ?_
  refine r_pick (ls1 := [(0, .ref (ad g 73)), (1, .int a1), (2, .int (3 : Int32))]) [1, 2, 0] rfl ?_
  refine sX8_typed4_L2     fuel (3 : Int32) σ hr hw

theorem kX8_typed4 {g : GG} {σ : SS} {a1 : Int32} {σ2 : SS} {M : MM} {F : State → Array Value → List Frame → State → Prop} {pc index : Nat} {ls : List (Nat × Value)} {rest : List Value} (hf : fX8_typed4 σ a1 = some σ2)  (hl : Cond.methodLink M.1.cls index yX8_typed4 ∈ lw_gt) (hR : mX8_typed4.2.2.2.2.frames + 1 ≤ M.2.2.2.2.frames ∧ 8 + (mX8_typed4.2.2.1 + 11) + mX8_typed4.2.2.2.2.locals ≤ M.2.2.2.2.locals) (hrest : (rest.map fun v => v.category).sum ≤ 8) (hd : decode M.2.1 pc = .ok (.invokevirtual index, 3)) (k : WT σ2 → RR g M F zF (pc + 3) ls rest σ2) : RR g M F zF pc ls (.int a1 :: .ref (ad g 73) :: rest) σ :=
  r_callV (z := zF) (N := mX8_typed4) (nn := 1) (o1 := none) (sX8_typed4 hf ) (rfl : shp 73 = (8, 0)) (by decide) (shp_le (rfl : shp 73 = (8, 0)) (nle rfl)) (ci := 8) rfl rfl tw_6_60 tw_1_10 hl tw_6_59 tp_33 ⟨by decide, by decide, rfl⟩ hR rfl hrest hd ⟨Nat.zero_le _, Nat.zero_le _⟩ rfl (fun h => k (h rfl))

theorem dX8_feed_0 : decode cX8_feed 0 = .ok (.aload_n 0, 1) := by decide +kernel
theorem dX8_feed_1 : decode cX8_feed 1 = .ok (.getfield 142, 3) := by decide +kernel
theorem dX8_feed_4 : decode cX8_feed 4 = .ok (.bipush 20, 2) := by decide +kernel
theorem dX8_feed_6 : decode cX8_feed 6 = .ok (.iadd, 1) := by decide +kernel
theorem dX8_feed_7 : decode cX8_feed 7 = .ok (.sipush 480, 3) := by decide +kernel
theorem dX8_feed_10 : decode cX8_feed 10 = .ok (.if_icmp .le 5, 3) := by decide +kernel
theorem dX8_feed_13 : decode cX8_feed 13 = .ok (.iconst (-1), 1) := by decide +kernel
theorem dX8_feed_14 : decode cX8_feed 14 = .ok (.ireturn, 1) := by decide +kernel
theorem dX8_feed_15 : decode cX8_feed 15 = .ok (.aload_n 0, 1) := by decide +kernel
theorem dX8_feed_16 : decode cX8_feed 16 = .ok (.iload_n 1, 1) := by decide +kernel
theorem dX8_feed_17 : decode cX8_feed 17 = .ok (.invokevirtual 145, 3) := by decide +kernel
theorem dX8_feed_20 : decode cX8_feed 20 = .ok (.aload_n 0, 1) := by decide +kernel
theorem dX8_feed_21 : decode cX8_feed 21 = .ok (.iload_n 2, 1) := by decide +kernel
theorem dX8_feed_22 : decode cX8_feed 22 = .ok (.invokevirtual 145, 3) := by decide +kernel
theorem dX8_feed_25 : decode cX8_feed 25 = .ok (.aload_n 0, 1) := by decide +kernel
theorem dX8_feed_26 : decode cX8_feed 26 = .ok (.iload_n 3, 1) := by decide +kernel
theorem dX8_feed_27 : decode cX8_feed 27 = .ok (.invokevirtual 145, 3) := by decide +kernel
theorem dX8_feed_30 : decode cX8_feed 30 = .ok (.aload_n 0, 1) := by decide +kernel
theorem dX8_feed_31 : decode cX8_feed 31 = .ok (.iload 4, 2) := by decide +kernel
theorem dX8_feed_33 : decode cX8_feed 33 = .ok (.invokevirtual 145, 3) := by decide +kernel
theorem dX8_feed_36 : decode cX8_feed 36 = .ok (.aload_n 0, 1) := by decide +kernel
theorem dX8_feed_37 : decode cX8_feed 37 = .ok (.iload 5, 2) := by decide +kernel
theorem dX8_feed_39 : decode cX8_feed 39 = .ok (.invokevirtual 145, 3) := by decide +kernel
theorem dX8_feed_42 : decode cX8_feed 42 = .ok (.aload_n 0, 1) := by decide +kernel
theorem dX8_feed_43 : decode cX8_feed 43 = .ok (.getfield 142, 3) := by decide +kernel
theorem dX8_feed_46 : decode cX8_feed 46 = .ok (.ireturn, 1) := by decide +kernel
def mX8_feed : MM := (yX8_feed, cX8_feed, 6, Option.some Jvm.ClassFile.FieldType.int, { frames := 1, cells := 0, slots := 0, locals := 22 })
def fX8_feed (σ : SS) (a1 : Int32) (a2 : Int32) (a3 : Int32) (a4 : Int32) (a5 : Int32) : Option (Int32 × SS) :=
  if ((gI σ 73 1) + (20 : Int32)) ≤ (480 : Int32) then (
    bnd1 (fX8_typed4 σ a1) fun σ1 =>
    bnd1 (fX8_typed4 σ1 a2) fun σ2 =>
    bnd1 (fX8_typed4 σ2 a3) fun σ3 =>
    bnd1 (fX8_typed4 σ3 a4) fun σ4 =>
    bnd1 (fX8_typed4 σ4 a5) fun σ5 =>
    some ((gI σ5 73 1), σ5)
    ) else (
    some ((-1 : Int32), σ)
    )

set_option maxRecDepth 20000 in
theorem sX8_feed {g : GG} {σ : SS} {a1 : Int32} {a2 : Int32} {a3 : Int32} {a4 : Int32} {a5 : Int32} {r : Int32 × SS} (hr : fX8_feed σ a1 a2 a3 a4 a5 = some r)  : Ct g mX8_feed [.ref (ad g 73), .int a1, .int a2, .int a3, .int a4, .int a5] NF σ (some (.int r.1)) NF r.2 := by
  refine Ct.of (by decide +kernel) (nle rfl) fun hw0 => ?_
  have hw := hw0 rfl
  unfold fX8_feed at hr
  change RR g mX8_feed (FinR g mX8_feed (some (.int r.1)) NF r.2) zF 0 [(0, .ref (ad g 73)), (1, .int a1), (2, .int a2), (3, .int a3), (4, .int a4), (5, .int a5)] [] σ
  refine r_aload_n (pc := 0) (j := 0) dX8_feed_0 rfl rfl ?_
  refine gf8_1 (pc := 1) tw_5_95 rfl dX8_feed_1 ?_
  refine r_bipush (pc := 4) (v := (20 : Int32)) dX8_feed_4 rfl ?_
  refine r_iadd (pc := 6) dX8_feed_6 ?_
  refine r_sipush (pc := 7) (v := (480 : Int32)) dX8_feed_7 rfl ?_
  refine r_icmp_le (pc := 10) (tgt := 15) dX8_feed_10 rfl (fun hc => ?_) (fun hc => ?_)
  · replace hr := ite_t hc hr
    refine r_aload_n (pc := 15) (j := 0) dX8_feed_15 rfl rfl ?_
    refine r_iload_n (pc := 16) (j := 1) dX8_feed_16 rfl rfl ?_
    obtain ⟨σ1, eσ1, hr⟩ := bnd1_inv hr
    refine kX8_typed4 (pc := 17) eσ1 tw_6_57 ⟨nle rfl, nle rfl⟩ (nle rfl) dX8_feed_17 fun hσ1 => ?_
    refine r_aload_n (pc := 20) (j := 0) dX8_feed_20 rfl rfl ?_
    refine r_iload_n (pc := 21) (j := 2) dX8_feed_21 rfl rfl ?_
    obtain ⟨σ2, eσ2, hr⟩ := bnd1_inv hr
    refine kX8_typed4 (pc := 22) eσ2 tw_6_57 ⟨nle rfl, nle rfl⟩ (nle rfl) dX8_feed_22 fun hσ2 => ?_
    refine r_aload_n (pc := 25) (j := 0) dX8_feed_25 rfl rfl ?_
    refine r_iload_n (pc := 26) (j := 3) dX8_feed_26 rfl rfl ?_
    obtain ⟨σ3, eσ3, hr⟩ := bnd1_inv hr
    refine kX8_typed4 (pc := 27) eσ3 tw_6_57 ⟨nle rfl, nle rfl⟩ (nle rfl) dX8_feed_27 fun hσ3 => ?_
    refine r_aload_n (pc := 30) (j := 0) dX8_feed_30 rfl rfl ?_
    refine r_iload (pc := 31) (j := 4) dX8_feed_31 rfl ?_
    obtain ⟨σ4, eσ4, hr⟩ := bnd1_inv hr
    refine kX8_typed4 (pc := 33) eσ4 tw_6_57 ⟨nle rfl, nle rfl⟩ (nle rfl) dX8_feed_33 fun hσ4 => ?_
    refine r_aload_n (pc := 36) (j := 0) dX8_feed_36 rfl rfl ?_
    refine r_iload (pc := 37) (j := 5) dX8_feed_37 rfl ?_
    obtain ⟨σ5, eσ5, hr⟩ := bnd1_inv hr
    refine kX8_typed4 (pc := 39) eσ5 tw_6_57 ⟨nle rfl, nle rfl⟩ (nle rfl) dX8_feed_39 fun hσ5 => ?_
    refine r_aload_n (pc := 42) (j := 0) dX8_feed_42 rfl rfl ?_
    refine gf8_1 (pc := 43) tw_5_95 rfl dX8_feed_43 ?_
    exact l_osi hr (r_iret (pc := 46) (v := (gI σ5 73 1)) rfl rfl ⟨Nat.le_refl _, Nat.le_refl _⟩ dX8_feed_46)
  replace hr := ite_f hc hr
  refine r_iconst (pc := 13) (v := (-1 : Int32)) dX8_feed_13 rfl ?_
  exact l_osi hr (r_iret (pc := 14) (v := (-1 : Int32)) rfl rfl ⟨Nat.le_refl _, Nat.le_refl _⟩ dX8_feed_14)

theorem kX8_feed {g : GG} {σ : SS} {a1 : Int32} {a2 : Int32} {a3 : Int32} {a4 : Int32} {a5 : Int32} {v : Int32} {σ2 : SS} {M : MM} {F : State → Array Value → List Frame → State → Prop} {pc index : Nat} {ls : List (Nat × Value)} {rest : List Value} (hf : fX8_feed σ a1 a2 a3 a4 a5 = some (v, σ2))  (hl : Cond.methodLink M.1.cls index yX8_feed ∈ lw_gt) (hR : mX8_feed.2.2.2.2.frames + 1 ≤ M.2.2.2.2.frames ∧ 8 + (mX8_feed.2.2.1 + 11) + mX8_feed.2.2.2.2.locals ≤ M.2.2.2.2.locals) (hrest : (rest.map fun v => v.category).sum ≤ 8) (hd : decode M.2.1 pc = .ok (.invokevirtual index, 3)) (k : WT σ2 → RR g M F zF (pc + 3) ls (.int v :: rest) σ2) : RR g M F zF pc ls (.int a5 :: .int a4 :: .int a3 :: .int a2 :: .int a1 :: .ref (ad g 73) :: rest) σ :=
  r_callV (z := zF) (N := mX8_feed) (nn := 5) (o1 := some (.int v)) (sX8_feed hf ) (rfl : shp 73 = (8, 0)) (by decide) (shp_le (rfl : shp 73 = (8, 0)) (nle rfl)) (ci := 8) rfl rfl tw_6_56 tw_1_10 hl tw_6_54 tw_6_55 ⟨by decide, by decide, rfl⟩ hR rfl hrest hd ⟨Nat.zero_le _, Nat.zero_le _⟩ rfl (fun h => k (h rfl))

theorem dX1_empty_0 : decode cX1_empty 0 = .ok (.aload_n 0, 1) := by decide +kernel
theorem dX1_empty_1 : decode cX1_empty 1 = .ok (.iconst 0, 1) := by decide +kernel
theorem dX1_empty_2 : decode cX1_empty 2 = .ok (.putfield 34, 3) := by decide +kernel
theorem dX1_empty_5 : decode cX1_empty 5 = .ok (.aload_n 0, 1) := by decide +kernel
theorem dX1_empty_6 : decode cX1_empty 6 = .ok (.iconst 0, 1) := by decide +kernel
theorem dX1_empty_7 : decode cX1_empty 7 = .ok (.putfield 38, 3) := by decide +kernel
theorem dX1_empty_10 : decode cX1_empty 10 = .ok (.aload_n 0, 1) := by decide +kernel
theorem dX1_empty_11 : decode cX1_empty 11 = .ok (.iconst 0, 1) := by decide +kernel
theorem dX1_empty_12 : decode cX1_empty 12 = .ok (.putfield 42, 3) := by decide +kernel
theorem dX1_empty_15 : decode cX1_empty 15 = .ok (.aload_n 0, 1) := by decide +kernel
theorem dX1_empty_16 : decode cX1_empty 16 = .ok (.iconst 0, 1) := by decide +kernel
theorem dX1_empty_17 : decode cX1_empty 17 = .ok (.putfield 45, 3) := by decide +kernel
theorem dX1_empty_20 : decode cX1_empty 20 = .ok (.aload_n 0, 1) := by decide +kernel
theorem dX1_empty_21 : decode cX1_empty 21 = .ok (.iconst 0, 1) := by decide +kernel
theorem dX1_empty_22 : decode cX1_empty 22 = .ok (.putfield 48, 3) := by decide +kernel
theorem dX1_empty_25 : decode cX1_empty 25 = .ok (.aload_n 0, 1) := by decide +kernel
theorem dX1_empty_26 : decode cX1_empty 26 = .ok (.iconst 0, 1) := by decide +kernel
theorem dX1_empty_27 : decode cX1_empty 27 = .ok (.putfield 51, 3) := by decide +kernel
theorem dX1_empty_30 : decode cX1_empty 30 = .ok (.aload_n 0, 1) := by decide +kernel
theorem dX1_empty_31 : decode cX1_empty 31 = .ok (.iconst 0, 1) := by decide +kernel
theorem dX1_empty_32 : decode cX1_empty 32 = .ok (.putfield 54, 3) := by decide +kernel
theorem dX1_empty_35 : decode cX1_empty 35 = .ok (.return_, 1) := by decide +kernel
def mX1_empty : MM := (yX1_empty, cX1_empty, 1, none, { frames := 0, cells := 0, slots := 0, locals := 0 })
def fX1_empty (σ : SS) (a0 : Nat) : Option SS :=
  vthen (sI σ a0 0 (0 : Int32)) fun σ1 =>
  vthen (sI σ1 a0 1 (0 : Int32)) fun σ2 =>
  vthen (sI σ2 a0 2 (0 : Int32)) fun σ3 =>
  vthen (sI σ3 a0 3 (0 : Int32)) fun σ4 =>
  vthen (sI σ4 a0 4 (0 : Int32)) fun σ5 =>
  vthen (sI σ5 a0 5 (0 : Int32)) fun σ6 =>
  vthen (sI σ6 a0 6 (0 : Int32)) fun σ7 =>
  some σ7

set_option maxRecDepth 20000 in
theorem sX1_empty {g : GG} {σ : SS} {a0 : Nat} {r : SS} (hr : fX1_empty σ a0 = some r) (hs0 : shp a0 = (1, 0)) : Ct g mX1_empty [.ref (ad g a0)] NF σ none NF r := by
  refine Ct.of (by decide +kernel) (nle rfl) fun hw0 => ?_
  have hw := hw0 rfl
  unfold fX1_empty at hr
  change RR g mX1_empty (FinR g mX1_empty none NF r) zF 0 [(0, .ref (ad g a0))] [] σ
  refine r_aload_n (pc := 0) (j := 0) dX1_empty_0 rfl rfl ?_
  refine r_iconst (pc := 1) (v := (0 : Int32)) dX1_empty_1 rfl ?_
  refine pf1_0 (pc := 2) tw_1_59 hs0 rfl dX1_empty_2 fun σ1 eσ1 => ?_
  replace hr := vthen_inv hr σ1 eσ1
  have hσ1 := wtI eσ1 hw
  refine r_aload_n (pc := 5) (j := 0) dX1_empty_5 rfl rfl ?_
  refine r_iconst (pc := 6) (v := (0 : Int32)) dX1_empty_6 rfl ?_
  refine pf1_1 (pc := 7) tw_1_62 hs0 dX1_empty_7 fun σ2 eσ2 => ?_
  replace hr := vthen_inv hr σ2 eσ2
  have hσ2 := wtI eσ2 hσ1
  refine r_aload_n (pc := 10) (j := 0) dX1_empty_10 rfl rfl ?_
  refine r_iconst (pc := 11) (v := (0 : Int32)) dX1_empty_11 rfl ?_
  refine pf1_2 (pc := 12) tw_1_66 hs0 dX1_empty_12 fun σ3 eσ3 => ?_
  replace hr := vthen_inv hr σ3 eσ3
  have hσ3 := wtI eσ3 hσ2
  refine r_aload_n (pc := 15) (j := 0) dX1_empty_15 rfl rfl ?_
  refine r_iconst (pc := 16) (v := (0 : Int32)) dX1_empty_16 rfl ?_
  refine pf1_3 (pc := 17) tw_1_70 hs0 dX1_empty_17 fun σ4 eσ4 => ?_
  replace hr := vthen_inv hr σ4 eσ4
  have hσ4 := wtI eσ4 hσ3
  refine r_aload_n (pc := 20) (j := 0) dX1_empty_20 rfl rfl ?_
  refine r_iconst (pc := 21) (v := (0 : Int32)) dX1_empty_21 rfl ?_
  refine pf1_4 (pc := 22) tw_1_74 hs0 dX1_empty_22 fun σ5 eσ5 => ?_
  replace hr := vthen_inv hr σ5 eσ5
  have hσ5 := wtI eσ5 hσ4
  refine r_aload_n (pc := 25) (j := 0) dX1_empty_25 rfl rfl ?_
  refine r_iconst (pc := 26) (v := (0 : Int32)) dX1_empty_26 rfl ?_
  refine pf1_5 (pc := 27) tw_1_78 hs0 dX1_empty_27 fun σ6 eσ6 => ?_
  replace hr := vthen_inv hr σ6 eσ6
  have hσ6 := wtI eσ6 hσ5
  refine r_aload_n (pc := 30) (j := 0) dX1_empty_30 rfl rfl ?_
  refine r_iconst (pc := 31) (v := (0 : Int32)) dX1_empty_31 rfl ?_
  refine pf1_6 (pc := 32) tw_1_82 hs0 dX1_empty_32 fun σ7 eσ7 => ?_
  replace hr := vthen_inv hr σ7 eσ7
  have hσ7 := wtI eσ7 hσ6
  exact l_ov hr (r_vret (pc := 35) rfl rfl ⟨Nat.le_refl _, Nat.le_refl _⟩ dX1_empty_35)

theorem kX1_empty {g : GG} {σ : SS} {a0 : Nat} {σ2 : SS} {M : MM} {F : State → Array Value → List Frame → State → Prop} {pc index : Nat} {ls : List (Nat × Value)} {rest : List Value} (hf : fX1_empty σ a0 = some σ2) (hs0 : shp a0 = (1, 0)) (hl : Cond.methodLink M.1.cls index yX1_empty ∈ lw_gt) (hR : mX1_empty.2.2.2.2.frames + 1 ≤ M.2.2.2.2.frames ∧ 8 + (mX1_empty.2.2.1 + 11) + mX1_empty.2.2.2.2.locals ≤ M.2.2.2.2.locals) (hrest : (rest.map fun v => v.category).sum ≤ 8) (hd : decode M.2.1 pc = .ok (.invokevirtual index, 3)) (k : WT σ2 → RR g M F zF (pc + 3) ls rest σ2) : RR g M F zF pc ls (.ref (ad g a0) :: rest) σ :=
  r_callV (z := zF) (N := mX1_empty) (nn := 0) (o1 := none) (sX1_empty hf hs0) hs0 (by decide) (shp_le hs0 (nle rfl)) (ci := 1) rfl rfl tw_2_177 tw_1_3 hl tw_2_175 tw_2_176 ⟨by decide, by decide, rfl⟩ hR rfl hrest hd ⟨Nat.zero_le _, Nat.zero_le _⟩ rfl (fun h => k (h rfl))

theorem dX2_kindOf_0 : decode cX2_kindOf 0 = .ok (.iload_n 0, 1) := by decide +kernel
theorem dX2_kindOf_1 : decode cX2_kindOf 1 = .ok (.bipush 97, 2) := by decide +kernel
theorem dX2_kindOf_3 : decode cX2_kindOf 3 = .ok (.if_icmp .lt 11, 3) := by decide +kernel
theorem dX2_kindOf_6 : decode cX2_kindOf 6 = .ok (.iload_n 0, 1) := by decide +kernel
theorem dX2_kindOf_7 : decode cX2_kindOf 7 = .ok (.bipush 122, 2) := by decide +kernel
theorem dX2_kindOf_9 : decode cX2_kindOf 9 = .ok (.if_icmp .gt 5, 3) := by decide +kernel
theorem dX2_kindOf_12 : decode cX2_kindOf 12 = .ok (.iconst 1, 1) := by decide +kernel
theorem dX2_kindOf_13 : decode cX2_kindOf 13 = .ok (.ireturn, 1) := by decide +kernel
theorem dX2_kindOf_14 : decode cX2_kindOf 14 = .ok (.iload_n 0, 1) := by decide +kernel
theorem dX2_kindOf_15 : decode cX2_kindOf 15 = .ok (.bipush 48, 2) := by decide +kernel
theorem dX2_kindOf_17 : decode cX2_kindOf 17 = .ok (.if_icmp .lt 11, 3) := by decide +kernel
theorem dX2_kindOf_20 : decode cX2_kindOf 20 = .ok (.iload_n 0, 1) := by decide +kernel
theorem dX2_kindOf_21 : decode cX2_kindOf 21 = .ok (.bipush 57, 2) := by decide +kernel
theorem dX2_kindOf_23 : decode cX2_kindOf 23 = .ok (.if_icmp .gt 5, 3) := by decide +kernel
theorem dX2_kindOf_26 : decode cX2_kindOf 26 = .ok (.iconst 2, 1) := by decide +kernel
theorem dX2_kindOf_27 : decode cX2_kindOf 27 = .ok (.ireturn, 1) := by decide +kernel
theorem dX2_kindOf_28 : decode cX2_kindOf 28 = .ok (.iload_n 0, 1) := by decide +kernel
theorem dX2_kindOf_29 : decode cX2_kindOf 29 = .ok (.bipush 44, 2) := by decide +kernel
theorem dX2_kindOf_31 : decode cX2_kindOf 31 = .ok (.if_icmp .ne 5, 3) := by decide +kernel
theorem dX2_kindOf_34 : decode cX2_kindOf 34 = .ok (.iconst 3, 1) := by decide +kernel
theorem dX2_kindOf_35 : decode cX2_kindOf 35 = .ok (.ireturn, 1) := by decide +kernel
theorem dX2_kindOf_36 : decode cX2_kindOf 36 = .ok (.iload_n 0, 1) := by decide +kernel
theorem dX2_kindOf_37 : decode cX2_kindOf 37 = .ok (.bipush 59, 2) := by decide +kernel
theorem dX2_kindOf_39 : decode cX2_kindOf 39 = .ok (.if_icmp .ne 7, 3) := by decide +kernel
theorem dX2_kindOf_42 : decode cX2_kindOf 42 = .ok (.iconst 4, 1) := by decide +kernel
theorem dX2_kindOf_43 : decode cX2_kindOf 43 = .ok (.goto 4, 3) := by decide +kernel
theorem dX2_kindOf_46 : decode cX2_kindOf 46 = .ok (.iconst 5, 1) := by decide +kernel
theorem dX2_kindOf_47 : decode cX2_kindOf 47 = .ok (.ireturn, 1) := by decide +kernel
def mX2_kindOf : MM := (yX2_kindOf, cX2_kindOf, 1, Option.some Jvm.ClassFile.FieldType.int, { frames := 0, cells := 0, slots := 0, locals := 0 })
def fX2_kindOf (σ0 : SS) (a0 : Int32) : Int32 :=
  vthen (fun (_u : Unit) =>
    vthen (fun (_u : Unit) =>
      if a0 = (44 : Int32) then (
        (3 : Int32)
        ) else (
        if a0 = (59 : Int32) then (
          (4 : Int32)
          ) else (
          (5 : Int32)
          )
        )
      ) fun j28 =>
    if a0 < (48 : Int32) then (
      j28 ()
      ) else (
      if (57 : Int32) < a0 then (
        j28 ()
        ) else (
        (2 : Int32)
        )
      )
    ) fun j14 =>
  if a0 < (97 : Int32) then (
    j14 ()
    ) else (
    if (122 : Int32) < a0 then (
      j14 ()
      ) else (
      (1 : Int32)
      )
    )

set_option maxRecDepth 20000 in
theorem sX2_kindOf {g : GG} {σ0 : SS} {a0 : Int32} {r : Int32} (hr : fX2_kindOf σ0 a0 = r)  : Ct g mX2_kindOf [.int a0] NF σ0 (some (.int r)) NF σ0 := by
  refine Ct.of (by decide +kernel) (nle rfl) fun hw0 => ?_
  have hw := hw0 rfl
  unfold fX2_kindOf at hr
  change RR g mX2_kindOf (FinR g mX2_kindOf (some (.int r)) NF σ0) zF 0 [(0, .int a0)] [] σ0
  refine r_iload_n (pc := 0) (j := 0) dX2_kindOf_0 rfl rfl ?_
  refine r_bipush (pc := 1) (v := (97 : Int32)) dX2_kindOf_1 rfl ?_
  obtain ⟨j14, ej14, hr⟩ := vth_ex hr
  have hj14 : j14 () = r → RR g mX2_kindOf (FinR g mX2_kindOf (some (.int r)) NF σ0) zF 14 [(0, .int a0)] [] σ0 := by
    intro  hr
    replace hr := (congrFun ej14 ()).symm.trans hr
    refine r_iload_n (pc := 14) (j := 0) dX2_kindOf_14 rfl rfl ?_
    refine r_bipush (pc := 15) (v := (48 : Int32)) dX2_kindOf_15 rfl ?_
    obtain ⟨j28, ej28, hr⟩ := vth_ex hr
    have hj28 : j28 () = r → RR g mX2_kindOf (FinR g mX2_kindOf (some (.int r)) NF σ0) zF 28 [(0, .int a0)] [] σ0 := by
      intro  hr
      replace hr := (congrFun ej28 ()).symm.trans hr
      refine r_iload_n (pc := 28) (j := 0) dX2_kindOf_28 rfl rfl ?_
      refine r_bipush (pc := 29) (v := (44 : Int32)) dX2_kindOf_29 rfl ?_
      refine r_icmp_ne (pc := 31) (tgt := 36) dX2_kindOf_31 rfl (fun hc => ?_) (fun hc => ?_)
      · replace hr := ite_f hc hr
        refine r_iload_n (pc := 36) (j := 0) dX2_kindOf_36 rfl rfl ?_
        refine r_bipush (pc := 37) (v := (59 : Int32)) dX2_kindOf_37 rfl ?_
        refine r_icmp_ne (pc := 39) (tgt := 46) dX2_kindOf_39 rfl (fun hc => ?_) (fun hc => ?_)
        · replace hr := ite_f hc hr
          refine r_iconst (pc := 46) (v := (5 : Int32)) dX2_kindOf_46 rfl ?_
          exact l_pi hr (r_iret (pc := 47) (v := (5 : Int32)) rfl rfl ⟨Nat.le_refl _, Nat.le_refl _⟩ dX2_kindOf_47)
        replace hr := ite_t hc hr
        refine r_iconst (pc := 42) (v := (4 : Int32)) dX2_kindOf_42 rfl ?_
        refine r_goto (pc := 43) (tgt := 47) dX2_kindOf_43 rfl ?_
        exact l_pi hr (r_iret (pc := 47) (v := (4 : Int32)) rfl rfl ⟨Nat.le_refl _, Nat.le_refl _⟩ dX2_kindOf_47)
      replace hr := ite_t hc hr
      refine r_iconst (pc := 34) (v := (3 : Int32)) dX2_kindOf_34 rfl ?_
      exact l_pi hr (r_iret (pc := 35) (v := (3 : Int32)) rfl rfl ⟨Nat.le_refl _, Nat.le_refl _⟩ dX2_kindOf_35)
    refine r_icmp_lt (pc := 17) (tgt := 28) dX2_kindOf_17 rfl (fun hc => ?_) (fun hc => ?_)
    · replace hr := ite_t hc hr
      exact r_pick (ls1 := [(0, .int a0)]) [0] rfl (hj28  hr)
    replace hr := ite_f hc hr
    refine r_iload_n (pc := 20) (j := 0) dX2_kindOf_20 rfl rfl ?_
    refine r_bipush (pc := 21) (v := (57 : Int32)) dX2_kindOf_21 rfl ?_
    refine r_icmp_gt (pc := 23) (tgt := 28) dX2_kindOf_23 rfl (fun hc => ?_) (fun hc => ?_)
    · replace hr := ite_t hc hr
      exact r_pick (ls1 := [(0, .int a0)]) [0] rfl (hj28  hr)
    replace hr := ite_f hc hr
    refine r_iconst (pc := 26) (v := (2 : Int32)) dX2_kindOf_26 rfl ?_
    exact l_pi hr (r_iret (pc := 27) (v := (2 : Int32)) rfl rfl ⟨Nat.le_refl _, Nat.le_refl _⟩ dX2_kindOf_27)
  refine r_icmp_lt (pc := 3) (tgt := 14) dX2_kindOf_3 rfl (fun hc => ?_) (fun hc => ?_)
  · replace hr := ite_t hc hr
    exact r_pick (ls1 := [(0, .int a0)]) [0] rfl (hj14  hr)
  replace hr := ite_f hc hr
  refine r_iload_n (pc := 6) (j := 0) dX2_kindOf_6 rfl rfl ?_
  refine r_bipush (pc := 7) (v := (122 : Int32)) dX2_kindOf_7 rfl ?_
  refine r_icmp_gt (pc := 9) (tgt := 14) dX2_kindOf_9 rfl (fun hc => ?_) (fun hc => ?_)
  · replace hr := ite_t hc hr
    exact r_pick (ls1 := [(0, .int a0)]) [0] rfl (hj14  hr)
  replace hr := ite_f hc hr
  refine r_iconst (pc := 12) (v := (1 : Int32)) dX2_kindOf_12 rfl ?_
  exact l_pi hr (r_iret (pc := 13) (v := (1 : Int32)) rfl rfl ⟨Nat.le_refl _, Nat.le_refl _⟩ dX2_kindOf_13)

theorem kX2_kindOf {g : GG} {σ0 : SS} {a0 : Int32} {v : Int32} {M : MM} {F : State → Array Value → List Frame → State → Prop} {pc index : Nat} {ls : List (Nat × Value)} {rest : List Value} (hf : fX2_kindOf σ0 a0 = v)  (hl : Cond.methodLink M.1.cls index yX2_kindOf ∈ lw_gt) (hR : mX2_kindOf.2.2.2.2.frames + 1 ≤ M.2.2.2.2.frames ∧ 8 + (mX2_kindOf.2.2.1 + 11) + mX2_kindOf.2.2.2.2.locals ≤ M.2.2.2.2.locals) (hrest : (rest.map fun v => v.category).sum ≤ 8) (hd : decode M.2.1 pc = .ok (.invokestatic index, 3)) (k : RR g M F zF (pc + 3) ls (.int v :: rest) σ0) : RR g M F zF pc ls (.int a0 :: rest) σ0 :=
  r_callS (z := zF) (N := mX2_kindOf) (nn := 1) (o1 := some (.int v)) (sX2_kindOf hf ) tw_2_184 tw_1_4 hl tw_2_183 ⟨by decide, by decide, rfl⟩ hR rfl hrest hd ⟨Nat.zero_le _, Nat.zero_le _⟩ rfl (fun h => k)

theorem dX2_numberRead_0 : decode cX2_numberRead 0 = .ok (.iconst 0, 1) := by decide +kernel
theorem dX2_numberRead_1 : decode cX2_numberRead 1 = .ok (.istore_n 1, 1) := by decide +kernel
theorem dX2_numberRead_2 : decode cX2_numberRead 2 = .ok (.aload_n 0, 1) := by decide +kernel
theorem dX2_numberRead_3 : decode cX2_numberRead 3 = .ok (.getfield 136, 3) := by decide +kernel
theorem dX2_numberRead_6 : decode cX2_numberRead 6 = .ok (.istore_n 2, 1) := by decide +kernel
theorem dX2_numberRead_7 : decode cX2_numberRead 7 = .ok (.iload_n 2, 1) := by decide +kernel
theorem dX2_numberRead_8 : decode cX2_numberRead 8 = .ok (.aload_n 0, 1) := by decide +kernel
theorem dX2_numberRead_9 : decode cX2_numberRead 9 = .ok (.getfield 31, 3) := by decide +kernel
theorem dX2_numberRead_12 : decode cX2_numberRead 12 = .ok (.if_icmp .ge 35, 3) := by decide +kernel
theorem dX2_numberRead_15 : decode cX2_numberRead 15 = .ok (.iload_n 1, 1) := by decide +kernel
theorem dX2_numberRead_16 : decode cX2_numberRead 16 = .ok (.bipush 10, 2) := by decide +kernel
theorem dX2_numberRead_18 : decode cX2_numberRead 18 = .ok (.imul, 1) := by decide +kernel
theorem dX2_numberRead_19 : decode cX2_numberRead 19 = .ok (.aload_n 0, 1) := by decide +kernel
theorem dX2_numberRead_20 : decode cX2_numberRead 20 = .ok (.getfield 9, 3) := by decide +kernel
theorem dX2_numberRead_23 : decode cX2_numberRead 23 = .ok (.iload_n 2, 1) := by decide +kernel
theorem dX2_numberRead_24 : decode cX2_numberRead 24 = .ok (.iaload, 1) := by decide +kernel
theorem dX2_numberRead_25 : decode cX2_numberRead 25 = .ok (.iadd, 1) := by decide +kernel
theorem dX2_numberRead_26 : decode cX2_numberRead 26 = .ok (.bipush 48, 2) := by decide +kernel
theorem dX2_numberRead_28 : decode cX2_numberRead 28 = .ok (.isub, 1) := by decide +kernel
theorem dX2_numberRead_29 : decode cX2_numberRead 29 = .ok (.istore_n 1, 1) := by decide +kernel
theorem dX2_numberRead_30 : decode cX2_numberRead 30 = .ok (.iload_n 1, 1) := by decide +kernel
theorem dX2_numberRead_31 : decode cX2_numberRead 31 = .ok (.sipush 999, 3) := by decide +kernel
theorem dX2_numberRead_34 : decode cX2_numberRead 34 = .ok (.if_icmp .le 7, 3) := by decide +kernel
theorem dX2_numberRead_37 : decode cX2_numberRead 37 = .ok (.sipush 999, 3) := by decide +kernel
theorem dX2_numberRead_40 : decode cX2_numberRead 40 = .ok (.istore_n 1, 1) := by decide +kernel
theorem dX2_numberRead_41 : decode cX2_numberRead 41 = .ok (.iinc 2 1, 3) := by decide +kernel
theorem dX2_numberRead_44 : decode cX2_numberRead 44 = .ok (.goto (-37), 3) := by decide +kernel
theorem dX2_numberRead_47 : decode cX2_numberRead 47 = .ok (.iload_n 1, 1) := by decide +kernel
theorem dX2_numberRead_48 : decode cX2_numberRead 48 = .ok (.ireturn, 1) := by decide +kernel
def mX2_numberRead : MM := (yX2_numberRead, cX2_numberRead, 3, Option.some Jvm.ClassFile.FieldType.int, { frames := 0, cells := 0, slots := 0, locals := 0 })
def X2_numberRead_L7 (σ_ : SS)   : Nat → Int32 → Int32 → Option Int32 :=
  lp (fun _ _ => none) fun rec v1_ v2_ =>
    if (gI σ_ 26 3) ≤ v2_ then (
      some v1_
      ) else (
      grd (inb v2_ 400) <|
      vthen (((v1_ * (10 : Int32)) + (gI σ_ 27 (Int32.toNatClampNeg v2_))) - (48 : Int32)) fun v3 =>
      if v3 ≤ (999 : Int32) then (
        rec v3 (v2_ + (1 : Int32))
        ) else (
        rec (999 : Int32) (v2_ + (1 : Int32))
        )
      )

def fX2_numberRead (σ0 : SS)  : Option Int32 :=
  vthen (gI σ0 26 2) fun v1 =>
  X2_numberRead_L7 σ0
  fuel (0 : Int32) v1

set_option maxRecDepth 20000 in
theorem sX2_numberRead_L7 {g : GG} {r : Int32} {σ_ : SS} {σ0 : SS}   
    (hw_ : WT σ_)
    (h0_ : σ_ = σ0)
    (n : Nat) : ∀ (v1_ : Int32) (v2_ : Int32), X2_numberRead_L7 σ_ n v1_ v2_ = some r → RR g mX2_numberRead (FinR g mX2_numberRead (some (.int r)) NF σ0) zF 7 [(0, .ref (ad g 26)), (1, .int v1_), (2, .int v2_)] [] σ_ := by
  unfold X2_numberRead_L7
  refine lp_ind (P := fun (rec : Int32 → Int32 → Option Int32) => ∀ (v1_ : Int32) (v2_ : Int32), rec v1_ v2_ = some r → RR g mX2_numberRead (FinR g mX2_numberRead (some (.int r)) NF σ0) zF 7 [(0, .ref (ad g 26)), (1, .int v1_), (2, .int v2_)] [] σ_) ?_ ?_ n
  · intro v1_ v2_ hr; cases hr
  intro rec ih v1_ v2_ hr
  subst h0_
  refine r_iload_n (pc := 7) (j := 2) dX2_numberRead_7 rfl rfl ?_
  refine r_aload_n (pc := 8) (j := 0) dX2_numberRead_8 rfl rfl ?_
  refine gf2_3 (pc := 9) tw_1_149 rfl dX2_numberRead_9 ?_
  refine r_icmp_ge (pc := 12) (tgt := 47) dX2_numberRead_12 rfl (fun hc => ?_) (fun hc => ?_)
  · replace hr := ite_t hc hr
    refine r_iload_n (pc := 47) (j := 1) dX2_numberRead_47 rfl rfl ?_
    exact l_opi hr (r_iret (pc := 48) (v := v1_) rfl rfl ⟨Nat.le_refl _, Nat.le_refl _⟩ dX2_numberRead_48)
  replace hr := ite_f hc hr
  refine r_iload_n (pc := 15) (j := 1) dX2_numberRead_15 rfl rfl ?_
  refine r_bipush (pc := 16) (v := (10 : Int32)) dX2_numberRead_16 rfl ?_
  refine r_imul (pc := 18) dX2_numberRead_18 ?_
  refine r_aload_n (pc := 19) (j := 0) dX2_numberRead_19 rfl rfl ?_
  refine gf2_0 (pc := 20) tw_1_146 hw_ dX2_numberRead_20 ?_
  refine r_iload_n (pc := 23) (j := 2) dX2_numberRead_23 rfl rfl ?_
  obtain ⟨h2, hr⟩ := grd_inv hr
  refine x_iald (pc := 24) (k := (Int32.toNatClampNeg v2_)) rfl h2 rfl dX2_numberRead_24 ?_
  refine r_iadd (pc := 25) dX2_numberRead_25 ?_
  refine r_bipush (pc := 26) (v := (48 : Int32)) dX2_numberRead_26 rfl ?_
  refine r_isub (pc := 28) dX2_numberRead_28 ?_
  refine r_topi fun v3 ev3 => ?_
  replace hr := vthen_inv hr v3 ev3
  refine r_istore_n (pc := 29) (ls1 := [(1, .int v3), (0, .ref (ad g 26)), (2, .int v2_)]) dX2_numberRead_29 rfl (nle rfl) rfl ?_
  refine r_iload_n (pc := 30) (j := 0) dX2_numberRead_30 rfl rfl ?_
  refine r_sipush (pc := 31) (v := (999 : Int32)) dX2_numberRead_31 rfl ?_
  refine r_icmp_le (pc := 34) (tgt := 41) dX2_numberRead_34 rfl (fun hc => ?_) (fun hc => ?_)
  · replace hr := ite_t hc hr
    refine r_iinc (pc := 41) (j := 2) (v := (v2_ + (1 : Int32))) (ls1 := [(2, .int (v2_ + (1 : Int32))), (1, .int v3), (0, .ref (ad g 26))]) dX2_numberRead_41 rfl rfl (nle rfl) rfl ?_
    refine r_goto (pc := 44) (tgt := 7) dX2_numberRead_44 rfl ?_
    exact r_pick (ls1 := [(0, .ref (ad g 26)), (1, .int v3), (2, .int (v2_ + (1 : Int32)))]) [2, 1, 0] rfl (ih v3 (v2_ + (1 : Int32)) hr)
  replace hr := ite_f hc hr
  refine r_sipush (pc := 37) (v := (999 : Int32)) dX2_numberRead_37 rfl ?_
  refine r_istore_n (pc := 40) (ls1 := [(1, .int (999 : Int32)), (0, .ref (ad g 26)), (2, .int v2_)]) dX2_numberRead_40 rfl (nle rfl) rfl ?_
  refine r_iinc (pc := 41) (j := 2) (v := (v2_ + (1 : Int32))) (ls1 := [(2, .int (v2_ + (1 : Int32))), (1, .int (999 : Int32)), (0, .ref (ad g 26))]) dX2_numberRead_41 rfl rfl (nle rfl) rfl ?_
  refine r_goto (pc := 44) (tgt := 7) dX2_numberRead_44 rfl ?_
  exact r_pick (ls1 := [(0, .ref (ad g 26)), (1, .int (999 : Int32)), (2, .int (v2_ + (1 : Int32)))]) [2, 1, 0] rfl (ih (999 : Int32) (v2_ + (1 : Int32)) hr)

set_option maxRecDepth 20000 in
theorem sX2_numberRead {g : GG} {σ0 : SS}  {r : Int32} (hr : fX2_numberRead σ0 = some r)  : Ct g mX2_numberRead [.ref (ad g 26)] NF σ0 (some (.int r)) NF σ0 := by
  refine Ct.of (by decide +kernel) (nle rfl) fun hw0 => ?_
  have hw := hw0 rfl
  unfold fX2_numberRead at hr
  change RR g mX2_numberRead (FinR g mX2_numberRead (some (.int r)) NF σ0) zF 0 [(0, .ref (ad g 26))] [] σ0
  refine r_iconst (pc := 0) (v := (0 : Int32)) dX2_numberRead_0 rfl ?_
  refine r_istore_n (pc := 1) (ls1 := [(1, .int (0 : Int32)), (0, .ref (ad g 26))]) dX2_numberRead_1 rfl (nle rfl) rfl ?_
  refine r_aload_n (pc := 2) (j := 1) dX2_numberRead_2 rfl rfl ?_
  refine gf2_2 (pc := 3) tw_1_148 rfl dX2_numberRead_3 ?_
  refine r_topi fun v1 ev1 => ?_
  replace hr := vthen_inv hr v1 ev1
  refine r_istore_n (pc := 6) (ls1 := [(2, .int v1), (1, .int (0 : Int32)), (0, .ref (ad g 26))]) dX2_numberRead_6 rfl (nle rfl) rfl ?_
  refine r_pick (ls1 := [(0, .ref (ad g 26)), (1, .int (0 : Int32)), (2, .int v1)]) [2, 1, 0] rfl ?_
  refine sX2_numberRead_L7  hw rfl  fuel (0 : Int32) v1 hr

theorem kX2_numberRead {g : GG} {σ0 : SS}  {v : Int32} {M : MM} {F : State → Array Value → List Frame → State → Prop} {pc index : Nat} {ls : List (Nat × Value)} {rest : List Value} (hf : fX2_numberRead σ0 = some v)  (hl : Cond.methodLink M.1.cls index yX2_numberRead ∈ lw_gt) (hR : mX2_numberRead.2.2.2.2.frames + 1 ≤ M.2.2.2.2.frames ∧ 8 + (mX2_numberRead.2.2.1 + 11) + mX2_numberRead.2.2.2.2.locals ≤ M.2.2.2.2.locals) (hrest : (rest.map fun v => v.category).sum ≤ 8) (hd : decode M.2.1 pc = .ok (.invokevirtual index, 3)) (k : RR g M F zF (pc + 3) ls (.int v :: rest) σ0) : RR g M F zF pc ls (.ref (ad g 26) :: rest) σ0 :=
  r_callV (z := zF) (N := mX2_numberRead) (nn := 0) (o1 := some (.int v)) (sX2_numberRead hf ) (rfl : shp 26 = (2, 0)) (by decide) (shp_le (rfl : shp 26 = (2, 0)) (nle rfl)) (ci := 2) rfl rfl tw_2_188 tw_1_4 hl tw_2_187 tp_2 ⟨by decide, by decide, rfl⟩ hR rfl hrest hd ⟨Nat.zero_le _, Nat.zero_le _⟩ rfl (fun h => k)

theorem dX2_advance_0 : decode cX2_advance 0 = .ok (.aload_n 0, 1) := by decide +kernel
theorem dX2_advance_1 : decode cX2_advance 1 = .ok (.aload_n 0, 1) := by decide +kernel
theorem dX2_advance_2 : decode cX2_advance 2 = .ok (.getfield 31, 3) := by decide +kernel
theorem dX2_advance_5 : decode cX2_advance 5 = .ok (.putfield 136, 3) := by decide +kernel
theorem dX2_advance_8 : decode cX2_advance 8 = .ok (.aload_n 0, 1) := by decide +kernel
theorem dX2_advance_9 : decode cX2_advance 9 = .ok (.getfield 136, 3) := by decide +kernel
theorem dX2_advance_12 : decode cX2_advance 12 = .ok (.aload_n 0, 1) := by decide +kernel
theorem dX2_advance_13 : decode cX2_advance 13 = .ok (.getfield 21, 3) := by decide +kernel
theorem dX2_advance_16 : decode cX2_advance 16 = .ok (.if_icmp .ge 44, 3) := by decide +kernel
theorem dX2_advance_19 : decode cX2_advance 19 = .ok (.aload_n 0, 1) := by decide +kernel
theorem dX2_advance_20 : decode cX2_advance 20 = .ok (.getfield 9, 3) := by decide +kernel
theorem dX2_advance_23 : decode cX2_advance 23 = .ok (.aload_n 0, 1) := by decide +kernel
theorem dX2_advance_24 : decode cX2_advance 24 = .ok (.getfield 136, 3) := by decide +kernel
theorem dX2_advance_27 : decode cX2_advance 27 = .ok (.iaload, 1) := by decide +kernel
theorem dX2_advance_28 : decode cX2_advance 28 = .ok (.bipush 32, 2) := by decide +kernel
theorem dX2_advance_30 : decode cX2_advance 30 = .ok (.if_icmp .eq 17, 3) := by decide +kernel
theorem dX2_advance_33 : decode cX2_advance 33 = .ok (.aload_n 0, 1) := by decide +kernel
theorem dX2_advance_34 : decode cX2_advance 34 = .ok (.getfield 9, 3) := by decide +kernel
theorem dX2_advance_37 : decode cX2_advance 37 = .ok (.aload_n 0, 1) := by decide +kernel
theorem dX2_advance_38 : decode cX2_advance 38 = .ok (.getfield 136, 3) := by decide +kernel
theorem dX2_advance_41 : decode cX2_advance 41 = .ok (.iaload, 1) := by decide +kernel
theorem dX2_advance_42 : decode cX2_advance 42 = .ok (.bipush 10, 2) := by decide +kernel
theorem dX2_advance_44 : decode cX2_advance 44 = .ok (.if_icmp .ne 16, 3) := by decide +kernel
theorem dX2_advance_47 : decode cX2_advance 47 = .ok (.aload_n 0, 1) := by decide +kernel
theorem dX2_advance_48 : decode cX2_advance 48 = .ok (.dup, 1) := by decide +kernel
theorem dX2_advance_49 : decode cX2_advance 49 = .ok (.getfield 136, 3) := by decide +kernel
theorem dX2_advance_52 : decode cX2_advance 52 = .ok (.iconst 1, 1) := by decide +kernel
theorem dX2_advance_53 : decode cX2_advance 53 = .ok (.iadd, 1) := by decide +kernel
theorem dX2_advance_54 : decode cX2_advance 54 = .ok (.putfield 136, 3) := by decide +kernel
theorem dX2_advance_57 : decode cX2_advance 57 = .ok (.goto (-49), 3) := by decide +kernel
theorem dX2_advance_60 : decode cX2_advance 60 = .ok (.aload_n 0, 1) := by decide +kernel
theorem dX2_advance_61 : decode cX2_advance 61 = .ok (.aload_n 0, 1) := by decide +kernel
theorem dX2_advance_62 : decode cX2_advance 62 = .ok (.getfield 136, 3) := by decide +kernel
theorem dX2_advance_65 : decode cX2_advance 65 = .ok (.putfield 31, 3) := by decide +kernel
theorem dX2_advance_68 : decode cX2_advance 68 = .ok (.aload_n 0, 1) := by decide +kernel
theorem dX2_advance_69 : decode cX2_advance 69 = .ok (.getfield 136, 3) := by decide +kernel
theorem dX2_advance_72 : decode cX2_advance 72 = .ok (.aload_n 0, 1) := by decide +kernel
theorem dX2_advance_73 : decode cX2_advance 73 = .ok (.getfield 21, 3) := by decide +kernel
theorem dX2_advance_76 : decode cX2_advance 76 = .ok (.if_icmp .lt 9, 3) := by decide +kernel
theorem dX2_advance_79 : decode cX2_advance 79 = .ok (.aload_n 0, 1) := by decide +kernel
theorem dX2_advance_80 : decode cX2_advance 80 = .ok (.iconst 0, 1) := by decide +kernel
theorem dX2_advance_81 : decode cX2_advance 81 = .ok (.putfield 87, 3) := by decide +kernel
theorem dX2_advance_84 : decode cX2_advance 84 = .ok (.return_, 1) := by decide +kernel
theorem dX2_advance_85 : decode cX2_advance 85 = .ok (.aload_n 0, 1) := by decide +kernel
theorem dX2_advance_86 : decode cX2_advance 86 = .ok (.aload_n 0, 1) := by decide +kernel
theorem dX2_advance_87 : decode cX2_advance 87 = .ok (.getfield 9, 3) := by decide +kernel
theorem dX2_advance_90 : decode cX2_advance 90 = .ok (.aload_n 0, 1) := by decide +kernel
theorem dX2_advance_91 : decode cX2_advance 91 = .ok (.getfield 136, 3) := by decide +kernel
theorem dX2_advance_94 : decode cX2_advance 94 = .ok (.iaload, 1) := by decide +kernel
theorem dX2_advance_95 : decode cX2_advance 95 = .ok (.invokestatic 159, 3) := by decide +kernel
theorem dX2_advance_98 : decode cX2_advance 98 = .ok (.putfield 87, 3) := by decide +kernel
theorem dX2_advance_101 : decode cX2_advance 101 = .ok (.aload_n 0, 1) := by decide +kernel
theorem dX2_advance_102 : decode cX2_advance 102 = .ok (.dup, 1) := by decide +kernel
theorem dX2_advance_103 : decode cX2_advance 103 = .ok (.getfield 31, 3) := by decide +kernel
theorem dX2_advance_106 : decode cX2_advance 106 = .ok (.iconst 1, 1) := by decide +kernel
theorem dX2_advance_107 : decode cX2_advance 107 = .ok (.iadd, 1) := by decide +kernel
theorem dX2_advance_108 : decode cX2_advance 108 = .ok (.putfield 31, 3) := by decide +kernel
theorem dX2_advance_111 : decode cX2_advance 111 = .ok (.aload_n 0, 1) := by decide +kernel
theorem dX2_advance_112 : decode cX2_advance 112 = .ok (.getfield 87, 3) := by decide +kernel
theorem dX2_advance_115 : decode cX2_advance 115 = .ok (.iconst 1, 1) := by decide +kernel
theorem dX2_advance_116 : decode cX2_advance 116 = .ok (.if_icmp .eq 11, 3) := by decide +kernel
theorem dX2_advance_119 : decode cX2_advance 119 = .ok (.aload_n 0, 1) := by decide +kernel
theorem dX2_advance_120 : decode cX2_advance 120 = .ok (.getfield 87, 3) := by decide +kernel
theorem dX2_advance_123 : decode cX2_advance 123 = .ok (.iconst 2, 1) := by decide +kernel
theorem dX2_advance_124 : decode cX2_advance 124 = .ok (.if_icmp .ne 46, 3) := by decide +kernel
theorem dX2_advance_127 : decode cX2_advance 127 = .ok (.aload_n 0, 1) := by decide +kernel
theorem dX2_advance_128 : decode cX2_advance 128 = .ok (.getfield 31, 3) := by decide +kernel
theorem dX2_advance_131 : decode cX2_advance 131 = .ok (.aload_n 0, 1) := by decide +kernel
theorem dX2_advance_132 : decode cX2_advance 132 = .ok (.getfield 21, 3) := by decide +kernel
theorem dX2_advance_135 : decode cX2_advance 135 = .ok (.if_icmp .ge 35, 3) := by decide +kernel
theorem dX2_advance_138 : decode cX2_advance 138 = .ok (.aload_n 0, 1) := by decide +kernel
theorem dX2_advance_139 : decode cX2_advance 139 = .ok (.getfield 9, 3) := by decide +kernel
theorem dX2_advance_142 : decode cX2_advance 142 = .ok (.aload_n 0, 1) := by decide +kernel
theorem dX2_advance_143 : decode cX2_advance 143 = .ok (.getfield 31, 3) := by decide +kernel
theorem dX2_advance_146 : decode cX2_advance 146 = .ok (.iaload, 1) := by decide +kernel
theorem dX2_advance_147 : decode cX2_advance 147 = .ok (.invokestatic 159, 3) := by decide +kernel
theorem dX2_advance_150 : decode cX2_advance 150 = .ok (.aload_n 0, 1) := by decide +kernel
theorem dX2_advance_151 : decode cX2_advance 151 = .ok (.getfield 87, 3) := by decide +kernel
theorem dX2_advance_154 : decode cX2_advance 154 = .ok (.if_icmp .ne 16, 3) := by decide +kernel
theorem dX2_advance_157 : decode cX2_advance 157 = .ok (.aload_n 0, 1) := by decide +kernel
theorem dX2_advance_158 : decode cX2_advance 158 = .ok (.dup, 1) := by decide +kernel
theorem dX2_advance_159 : decode cX2_advance 159 = .ok (.getfield 31, 3) := by decide +kernel
theorem dX2_advance_162 : decode cX2_advance 162 = .ok (.iconst 1, 1) := by decide +kernel
theorem dX2_advance_163 : decode cX2_advance 163 = .ok (.iadd, 1) := by decide +kernel
theorem dX2_advance_164 : decode cX2_advance 164 = .ok (.putfield 31, 3) := by decide +kernel
theorem dX2_advance_167 : decode cX2_advance 167 = .ok (.goto (-40), 3) := by decide +kernel
theorem dX2_advance_170 : decode cX2_advance 170 = .ok (.aload_n 0, 1) := by decide +kernel
theorem dX2_advance_171 : decode cX2_advance 171 = .ok (.getfield 87, 3) := by decide +kernel
theorem dX2_advance_174 : decode cX2_advance 174 = .ok (.iconst 2, 1) := by decide +kernel
theorem dX2_advance_175 : decode cX2_advance 175 = .ok (.if_icmp .ne 11, 3) := by decide +kernel
theorem dX2_advance_178 : decode cX2_advance 178 = .ok (.aload_n 0, 1) := by decide +kernel
theorem dX2_advance_179 : decode cX2_advance 179 = .ok (.aload_n 0, 1) := by decide +kernel
theorem dX2_advance_180 : decode cX2_advance 180 = .ok (.invokevirtual 163, 3) := by decide +kernel
theorem dX2_advance_183 : decode cX2_advance 183 = .ok (.putfield 120, 3) := by decide +kernel
theorem dX2_advance_186 : decode cX2_advance 186 = .ok (.return_, 1) := by decide +kernel
def mX2_advance : MM := (yX2_advance, cX2_advance, 1, none, { frames := 1, cells := 0, slots := 0, locals := 22 })
def X2_advance_L8  (k60 : SS → Option SS) : Nat → SS → Option SS :=
  lp (fun _ => none) fun rec σ_ =>
    if (gI σ_ 26 1) ≤ (gI σ_ 26 2) then (
      k60 σ_
      ) else (
      grd (inb (gI σ_ 26 2) 400) <|
      vthen (fun (_u : Unit) =>
        vthen (sI σ_ 26 2 ((gI σ_ 26 2) + (1 : Int32))) fun σ3 =>
        rec σ3
        ) fun j47 =>
      if (gI σ_ 27 (Int32.toNatClampNeg (gI σ_ 26 2))) = (32 : Int32) then (
        j47 ()
        ) else (
        if (gI σ_ 27 (Int32.toNatClampNeg (gI σ_ 26 2))) = (10 : Int32) then (
          j47 ()
          ) else (
          k60 σ_
          )
        )
      )

def X2_advance_L127  (k170 : SS → Option SS) : Nat → SS → Option SS :=
  lp (fun _ => none) fun rec σ_ =>
    if (gI σ_ 26 1) ≤ (gI σ_ 26 3) then (
      k170 σ_
      ) else (
      grd (inb (gI σ_ 26 3) 400) <|
      if (fX2_kindOf σ_ (gI σ_ 27 (Int32.toNatClampNeg (gI σ_ 26 3)))) = (gI σ_ 26 4) then (
        vthen (sI σ_ 26 3 ((gI σ_ 26 3) + (1 : Int32))) fun σ15 =>
        rec σ15
        ) else (
        k170 σ_
        )
      )

def fX2_advance (σ : SS)  : Option SS :=
  vthen (sI σ 26 2 (gI σ 26 3)) fun σ1 =>
  X2_advance_L8
  (fun σ4 =>
    vthen (sI σ4 26 3 (gI σ4 26 2)) fun σ5 =>
    if (gI σ5 26 2) < (gI σ5 26 1) then (
      grd (inb (gI σ5 26 2) 400) <|
      vthen (sI σ5 26 4 (fX2_kindOf σ5 (gI σ5 27 (Int32.toNatClampNeg (gI σ5 26 2))))) fun σ7 =>
      vthen (sI σ7 26 3 ((gI σ7 26 3) + (1 : Int32))) fun σ8 =>
      vthen (fun  (σ9 : SS) =>
        if (gI σ9 26 4) = (2 : Int32) then (
          bnd1 (fX2_numberRead σ9) fun v10 =>
          vthen (sI σ9 26 5 v10) fun σ13 =>
          some σ13
          ) else (
          some σ9
          )
        ) fun j170 =>
      vthen (fun (_u : Unit) =>
        X2_advance_L127
        (fun σ16 =>
          j170 σ16
          )
        fuel σ8
        ) fun j127 =>
      if (gI σ8 26 4) = (1 : Int32) then (
        j127 ()
        ) else (
        if (gI σ8 26 4) = (2 : Int32) then (
          j127 ()
          ) else (
          j170 σ8
          )
        )
      ) else (
      vthen (sI σ5 26 4 (0 : Int32)) fun σ17 =>
      some σ17
      )
    )
  fuel σ1

set_option maxRecDepth 20000 in
theorem sX2_advance_L8 {g : GG} {r : SS}  {k60 : SS → Option SS} 
    (hk60 : ∀ (σ_ : SS), k60 σ_ = some r → WT σ_ → RR g mX2_advance (FinR g mX2_advance none NF r) zF 60 [(0, .ref (ad g 26))] [] σ_)
    (n : Nat) : ∀ (σ_ : SS), X2_advance_L8 k60 n σ_ = some r → WT σ_ → RR g mX2_advance (FinR g mX2_advance none NF r) zF 8 [(0, .ref (ad g 26))] [] σ_ := by
  unfold X2_advance_L8
  refine lp_ind (P := fun (rec : SS → Option SS) => ∀ (σ_ : SS), rec σ_ = some r → WT σ_ → RR g mX2_advance (FinR g mX2_advance none NF r) zF 8 [(0, .ref (ad g 26))] [] σ_) ?_ ?_ n
  · intro σ_ hr; cases hr
  intro rec ih σ_ hr hw_
  refine r_aload_n (pc := 8) (j := 0) dX2_advance_8 rfl rfl ?_
  refine gf2_2 (pc := 9) tw_1_148 rfl dX2_advance_9 ?_
  refine r_aload_n (pc := 12) (j := 0) dX2_advance_12 rfl rfl ?_
  refine gf2_1 (pc := 13) tw_1_147 rfl dX2_advance_13 ?_
  refine r_icmp_ge (pc := 16) (tgt := 60) dX2_advance_16 rfl (fun hc => ?_) (fun hc => ?_)
  · replace hr := ite_t hc hr
    exact r_pick (ls1 := [(0, .ref (ad g 26))]) [0] rfl (hk60 σ_ hr hw_)
  replace hr := ite_f hc hr
  refine r_aload_n (pc := 19) (j := 0) dX2_advance_19 rfl rfl ?_
  refine gf2_0 (pc := 20) tw_1_146 hw_ dX2_advance_20 ?_
  refine r_aload_n (pc := 23) (j := 0) dX2_advance_23 rfl rfl ?_
  refine gf2_2 (pc := 24) tw_1_148 rfl dX2_advance_24 ?_
  obtain ⟨h2, hr⟩ := grd_inv hr
  refine x_iald (pc := 27) (k := (Int32.toNatClampNeg (gI σ_ 26 2))) rfl h2 rfl dX2_advance_27 ?_
  refine r_bipush (pc := 28) (v := (32 : Int32)) dX2_advance_28 rfl ?_
  obtain ⟨j47, ej47, hr⟩ := vth_ex hr
  have hj47 : j47 () = some r → RR g mX2_advance (FinR g mX2_advance none NF r) zF 47 [(0, .ref (ad g 26))] [] σ_ := by
    intro  hr
    replace hr := (congrFun ej47 ()).symm.trans hr
    refine r_aload_n (pc := 47) (j := 0) dX2_advance_47 rfl rfl ?_
    refine r_dup (pc := 48) dX2_advance_48 rfl ?_
    refine gf2_2 (pc := 49) tw_1_148 rfl dX2_advance_49 ?_
    refine r_iconst (pc := 52) (v := (1 : Int32)) dX2_advance_52 rfl ?_
    refine r_iadd (pc := 53) dX2_advance_53 ?_
    refine pf2_2 (pc := 54) tw_1_148 rfl dX2_advance_54 fun σ3 eσ3 => ?_
    replace hr := vthen_inv hr σ3 eσ3
    have hσ3 := wtI eσ3 hw_
    refine r_goto (pc := 57) (tgt := 8) dX2_advance_57 rfl ?_
    exact r_pick (ls1 := [(0, .ref (ad g 26))]) [0] rfl (ih σ3 hr hσ3)
  refine r_icmp_eq (pc := 30) (tgt := 47) dX2_advance_30 rfl (fun hc => ?_) (fun hc => ?_)
  · replace hr := ite_t hc hr
    exact r_pick (ls1 := [(0, .ref (ad g 26))]) [0] rfl (hj47  hr)
  replace hr := ite_f hc hr
  refine r_aload_n (pc := 33) (j := 0) dX2_advance_33 rfl rfl ?_
  refine gf2_0 (pc := 34) tw_1_146 hw_ dX2_advance_34 ?_
  refine r_aload_n (pc := 37) (j := 0) dX2_advance_37 rfl rfl ?_
  refine gf2_2 (pc := 38) tw_1_148 rfl dX2_advance_38 ?_
  refine x_iald (pc := 41) (k := (Int32.toNatClampNeg (gI σ_ 26 2))) rfl h2 rfl dX2_advance_41 ?_
  refine r_bipush (pc := 42) (v := (10 : Int32)) dX2_advance_42 rfl ?_
  refine r_icmp_ne (pc := 44) (tgt := 60) dX2_advance_44 rfl (fun hc => ?_) (fun hc => ?_)
  · replace hr := ite_f hc hr
    exact r_pick (ls1 := [(0, .ref (ad g 26))]) [0] rfl (hk60 σ_ hr hw_)
  replace hr := ite_t hc hr
  exact r_pick (ls1 := [(0, .ref (ad g 26))]) [0] rfl (hj47  hr)

set_option maxRecDepth 20000 in
theorem sX2_advance_L127 {g : GG} {r : SS}  {k170 : SS → Option SS} 
    (hk170 : ∀ (σ_ : SS), k170 σ_ = some r → WT σ_ → RR g mX2_advance (FinR g mX2_advance none NF r) zF 170 [(0, .ref (ad g 26))] [] σ_)
    (n : Nat) : ∀ (σ_ : SS), X2_advance_L127 k170 n σ_ = some r → WT σ_ → RR g mX2_advance (FinR g mX2_advance none NF r) zF 127 [(0, .ref (ad g 26))] [] σ_ := by
  unfold X2_advance_L127
  refine lp_ind (P := fun (rec : SS → Option SS) => ∀ (σ_ : SS), rec σ_ = some r → WT σ_ → RR g mX2_advance (FinR g mX2_advance none NF r) zF 127 [(0, .ref (ad g 26))] [] σ_) ?_ ?_ n
  · intro σ_ hr; cases hr
  intro rec ih σ_ hr hw_
  refine r_aload_n (pc := 127) (j := 0) dX2_advance_127 rfl rfl ?_
  refine gf2_3 (pc := 128) tw_1_149 rfl dX2_advance_128 ?_
  refine r_aload_n (pc := 131) (j := 0) dX2_advance_131 rfl rfl ?_
  refine gf2_1 (pc := 132) tw_1_147 rfl dX2_advance_132 ?_
  refine r_icmp_ge (pc := 135) (tgt := 170) dX2_advance_135 rfl (fun hc => ?_) (fun hc => ?_)
  · replace hr := ite_t hc hr
    exact r_pick (ls1 := [(0, .ref (ad g 26))]) [0] rfl (hk170 σ_ hr hw_)
  replace hr := ite_f hc hr
  refine r_aload_n (pc := 138) (j := 0) dX2_advance_138 rfl rfl ?_
  refine gf2_0 (pc := 139) tw_1_146 hw_ dX2_advance_139 ?_
  refine r_aload_n (pc := 142) (j := 0) dX2_advance_142 rfl rfl ?_
  refine gf2_3 (pc := 143) tw_1_149 rfl dX2_advance_143 ?_
  obtain ⟨h14, hr⟩ := grd_inv hr
  refine x_iald (pc := 146) (k := (Int32.toNatClampNeg (gI σ_ 26 3))) rfl h14 rfl dX2_advance_146 ?_
  refine kX2_kindOf (pc := 147) (hf := rfl) tw_2_182 ⟨nle rfl, nle rfl⟩ (nle rfl) dX2_advance_147 ?_
  refine r_aload_n (pc := 150) (j := 0) dX2_advance_150 rfl rfl ?_
  refine gf2_4 (pc := 151) tw_1_150 rfl dX2_advance_151 ?_
  refine r_icmp_ne (pc := 154) (tgt := 170) dX2_advance_154 rfl (fun hc => ?_) (fun hc => ?_)
  · replace hr := ite_f hc hr
    exact r_pick (ls1 := [(0, .ref (ad g 26))]) [0] rfl (hk170 σ_ hr hw_)
  replace hr := ite_t hc hr
  refine r_aload_n (pc := 157) (j := 0) dX2_advance_157 rfl rfl ?_
  refine r_dup (pc := 158) dX2_advance_158 rfl ?_
  refine gf2_3 (pc := 159) tw_1_149 rfl dX2_advance_159 ?_
  refine r_iconst (pc := 162) (v := (1 : Int32)) dX2_advance_162 rfl ?_
  refine r_iadd (pc := 163) dX2_advance_163 ?_
  refine pf2_3 (pc := 164) tw_1_149 rfl dX2_advance_164 fun σ15 eσ15 => ?_
  replace hr := vthen_inv hr σ15 eσ15
  have hσ15 := wtI eσ15 hw_
  refine r_goto (pc := 167) (tgt := 127) dX2_advance_167 rfl ?_
  exact r_pick (ls1 := [(0, .ref (ad g 26))]) [0] rfl (ih σ15 hr hσ15)

set_option maxRecDepth 20000 in
theorem sX2_advance {g : GG} {σ : SS}  {r : SS} (hr : fX2_advance σ = some r)  : Ct g mX2_advance [.ref (ad g 26)] NF σ none NF r := by
  refine Ct.of (by decide +kernel) (nle rfl) fun hw0 => ?_
  have hw := hw0 rfl
  unfold fX2_advance at hr
  change RR g mX2_advance (FinR g mX2_advance none NF r) zF 0 [(0, .ref (ad g 26))] [] σ
  refine r_aload_n (pc := 0) (j := 0) dX2_advance_0 rfl rfl ?_
  refine r_aload_n (pc := 1) (j := 0) dX2_advance_1 rfl rfl ?_
  refine gf2_3 (pc := 2) tw_1_149 rfl dX2_advance_2 ?_
  refine pf2_2 (pc := 5) tw_1_148 rfl dX2_advance_5 fun σ1 eσ1 => ?_
  replace hr := vthen_inv hr σ1 eσ1
  have hσ1 := wtI eσ1 hw
  refine r_pick (ls1 := [(0, .ref (ad g 26))]) [0] rfl ?_
  refine sX2_advance_L8    (fun σ4 hr hσ4 => ?_) fuel σ1 hr hσ1
  refine r_aload_n (pc := 60) (j := 0) dX2_advance_60 rfl rfl ?_
  refine r_aload_n (pc := 61) (j := 0) dX2_advance_61 rfl rfl ?_
  refine gf2_2 (pc := 62) tw_1_148 rfl dX2_advance_62 ?_
  refine pf2_3 (pc := 65) tw_1_149 rfl dX2_advance_65 fun σ5 eσ5 => ?_
  replace hr := vthen_inv hr σ5 eσ5
  have hσ5 := wtI eσ5 hσ4
  refine r_aload_n (pc := 68) (j := 0) dX2_advance_68 rfl rfl ?_
  refine gf2_2 (pc := 69) tw_1_148 rfl dX2_advance_69 ?_
  refine r_aload_n (pc := 72) (j := 0) dX2_advance_72 rfl rfl ?_
  refine gf2_1 (pc := 73) tw_1_147 rfl dX2_advance_73 ?_
  refine r_icmp_lt (pc := 76) (tgt := 85) dX2_advance_76 rfl (fun hc => ?_) (fun hc => ?_)
  · replace hr := ite_t hc hr
    refine r_aload_n (pc := 85) (j := 0) dX2_advance_85 rfl rfl ?_
    refine r_aload_n (pc := 86) (j := 0) dX2_advance_86 rfl rfl ?_
    refine gf2_0 (pc := 87) tw_1_146 hσ5 dX2_advance_87 ?_
    refine r_aload_n (pc := 90) (j := 0) dX2_advance_90 rfl rfl ?_
    refine gf2_2 (pc := 91) tw_1_148 rfl dX2_advance_91 ?_
    obtain ⟨h6, hr⟩ := grd_inv hr
    refine x_iald (pc := 94) (k := (Int32.toNatClampNeg (gI σ5 26 2))) rfl h6 rfl dX2_advance_94 ?_
    refine kX2_kindOf (pc := 95) (hf := rfl) tw_2_182 ⟨nle rfl, nle rfl⟩ (nle rfl) dX2_advance_95 ?_
    refine pf2_4 (pc := 98) tw_1_150 rfl dX2_advance_98 fun σ7 eσ7 => ?_
    replace hr := vthen_inv hr σ7 eσ7
    have hσ7 := wtI eσ7 hσ5
    refine r_aload_n (pc := 101) (j := 0) dX2_advance_101 rfl rfl ?_
    refine r_dup (pc := 102) dX2_advance_102 rfl ?_
    refine gf2_3 (pc := 103) tw_1_149 rfl dX2_advance_103 ?_
    refine r_iconst (pc := 106) (v := (1 : Int32)) dX2_advance_106 rfl ?_
    refine r_iadd (pc := 107) dX2_advance_107 ?_
    refine pf2_3 (pc := 108) tw_1_149 rfl dX2_advance_108 fun σ8 eσ8 => ?_
    replace hr := vthen_inv hr σ8 eσ8
    have hσ8 := wtI eσ8 hσ7
    refine r_aload_n (pc := 111) (j := 0) dX2_advance_111 rfl rfl ?_
    refine gf2_4 (pc := 112) tw_1_150 rfl dX2_advance_112 ?_
    refine r_iconst (pc := 115) (v := (1 : Int32)) dX2_advance_115 rfl ?_
    obtain ⟨j170, ej170, hr⟩ := vth_ex hr
    have hj170 : ∀ (σ9 : SS), j170 σ9 = some r → WT σ9 → RR g mX2_advance (FinR g mX2_advance none NF r) zF 170 [(0, .ref (ad g 26))] [] σ9 := by
      intro σ9 hr hσ9
      replace hr := (congrFun ej170 σ9).symm.trans hr
      refine r_aload_n (pc := 170) (j := 0) dX2_advance_170 rfl rfl ?_
      refine gf2_4 (pc := 171) tw_1_150 rfl dX2_advance_171 ?_
      refine r_iconst (pc := 174) (v := (2 : Int32)) dX2_advance_174 rfl ?_
      refine r_icmp_ne (pc := 175) (tgt := 186) dX2_advance_175 rfl (fun hc => ?_) (fun hc => ?_)
      · replace hr := ite_f hc hr
        exact l_ov hr (r_vret (pc := 186) rfl rfl ⟨Nat.le_refl _, Nat.le_refl _⟩ dX2_advance_186)
      replace hr := ite_t hc hr
      refine r_aload_n (pc := 178) (j := 0) dX2_advance_178 rfl rfl ?_
      refine r_aload_n (pc := 179) (j := 0) dX2_advance_179 rfl rfl ?_
      obtain ⟨v10, hv10, hr⟩ := bnd1_inv hr
      refine kX2_numberRead (pc := 180) hv10 tw_2_185 ⟨nle rfl, nle rfl⟩ (nle rfl) dX2_advance_180 ?_
      refine pf2_5 (pc := 183) tw_1_151 rfl dX2_advance_183 fun σ13 eσ13 => ?_
      replace hr := vthen_inv hr σ13 eσ13
      have hσ13 := wtI eσ13 hσ9
      exact l_ov hr (r_vret (pc := 186) rfl rfl ⟨Nat.le_refl _, Nat.le_refl _⟩ dX2_advance_186)
    obtain ⟨j127, ej127, hr⟩ := vth_ex hr
    have hj127 : j127 () = some r → RR g mX2_advance (FinR g mX2_advance none NF r) zF 127 [(0, .ref (ad g 26))] [] σ8 := by
      intro  hr
      replace hr := (congrFun ej127 ()).symm.trans hr
      refine r_pick (ls1 := [(0, .ref (ad g 26))]) [0] rfl ?_
      refine sX2_advance_L127    (fun σ16 hr hσ16 => ?_) fuel σ8 hr hσ8
      exact r_pick (ls1 := [(0, .ref (ad g 26))]) [0] rfl (hj170 σ16 hr hσ16)
    refine r_icmp_eq (pc := 116) (tgt := 127) dX2_advance_116 rfl (fun hc => ?_) (fun hc => ?_)
    · replace hr := ite_t hc hr
      exact r_pick (ls1 := [(0, .ref (ad g 26))]) [0] rfl (hj127  hr)
    replace hr := ite_f hc hr
    refine r_aload_n (pc := 119) (j := 0) dX2_advance_119 rfl rfl ?_
    refine gf2_4 (pc := 120) tw_1_150 rfl dX2_advance_120 ?_
    refine r_iconst (pc := 123) (v := (2 : Int32)) dX2_advance_123 rfl ?_
    refine r_icmp_ne (pc := 124) (tgt := 170) dX2_advance_124 rfl (fun hc => ?_) (fun hc => ?_)
    · replace hr := ite_f hc hr
      exact r_pick (ls1 := [(0, .ref (ad g 26))]) [0] rfl (hj170 σ8 hr hσ8)
    replace hr := ite_t hc hr
    exact r_pick (ls1 := [(0, .ref (ad g 26))]) [0] rfl (hj127  hr)
  replace hr := ite_f hc hr
  refine r_aload_n (pc := 79) (j := 0) dX2_advance_79 rfl rfl ?_
  refine r_iconst (pc := 80) (v := (0 : Int32)) dX2_advance_80 rfl ?_
  refine pf2_4 (pc := 81) tw_1_150 rfl dX2_advance_81 fun σ17 eσ17 => ?_
  replace hr := vthen_inv hr σ17 eσ17
  have hσ17 := wtI eσ17 hσ5
  exact l_ov hr (r_vret (pc := 84) rfl rfl ⟨Nat.le_refl _, Nat.le_refl _⟩ dX2_advance_84)

theorem kX2_advance {g : GG} {σ : SS}  {σ2 : SS} {M : MM} {F : State → Array Value → List Frame → State → Prop} {pc index : Nat} {ls : List (Nat × Value)} {rest : List Value} (hf : fX2_advance σ = some σ2)  (hl : Cond.methodLink M.1.cls index yX2_advance ∈ lw_gt) (hR : mX2_advance.2.2.2.2.frames + 1 ≤ M.2.2.2.2.frames ∧ 8 + (mX2_advance.2.2.1 + 11) + mX2_advance.2.2.2.2.locals ≤ M.2.2.2.2.locals) (hrest : (rest.map fun v => v.category).sum ≤ 8) (hd : decode M.2.1 pc = .ok (.invokevirtual index, 3)) (k : WT σ2 → RR g M F zF (pc + 3) ls rest σ2) : RR g M F zF pc ls (.ref (ad g 26) :: rest) σ :=
  r_callV (z := zF) (N := mX2_advance) (nn := 0) (o1 := none) (sX2_advance hf ) (rfl : shp 26 = (2, 0)) (by decide) (shp_le (rfl : shp 26 = (2, 0)) (nle rfl)) (ci := 2) rfl rfl tw_2_181 tw_1_4 hl tw_2_180 tp_1 ⟨by decide, by decide, rfl⟩ hR rfl hrest hd ⟨Nat.zero_le _, Nat.zero_le _⟩ rfl (fun h => k (h rfl))

theorem dX2_isWord_0 : decode cX2_isWord 0 = .ok (.aload_n 0, 1) := by decide +kernel
theorem dX2_isWord_1 : decode cX2_isWord 1 = .ok (.getfield 87, 3) := by decide +kernel
theorem dX2_isWord_4 : decode cX2_isWord 4 = .ok (.iconst 1, 1) := by decide +kernel
theorem dX2_isWord_5 : decode cX2_isWord 5 = .ok (.if_icmp .ne 19, 3) := by decide +kernel
theorem dX2_isWord_8 : decode cX2_isWord 8 = .ok (.aload_n 0, 1) := by decide +kernel
theorem dX2_isWord_9 : decode cX2_isWord 9 = .ok (.getfield 31, 3) := by decide +kernel
theorem dX2_isWord_12 : decode cX2_isWord 12 = .ok (.aload_n 0, 1) := by decide +kernel
theorem dX2_isWord_13 : decode cX2_isWord 13 = .ok (.getfield 136, 3) := by decide +kernel
theorem dX2_isWord_16 : decode cX2_isWord 16 = .ok (.isub, 1) := by decide +kernel
theorem dX2_isWord_17 : decode cX2_isWord 17 = .ok (.aload_n 1, 1) := by decide +kernel
theorem dX2_isWord_18 : decode cX2_isWord 18 = .ok (.invokevirtual 150, 3) := by decide +kernel
theorem dX2_isWord_21 : decode cX2_isWord 21 = .ok (.if_icmp .eq 5, 3) := by decide +kernel
theorem dX2_isWord_24 : decode cX2_isWord 24 = .ok (.iconst 0, 1) := by decide +kernel
theorem dX2_isWord_25 : decode cX2_isWord 25 = .ok (.ireturn, 1) := by decide +kernel
theorem dX2_isWord_26 : decode cX2_isWord 26 = .ok (.iconst 0, 1) := by decide +kernel
theorem dX2_isWord_27 : decode cX2_isWord 27 = .ok (.istore_n 2, 1) := by decide +kernel
theorem dX2_isWord_28 : decode cX2_isWord 28 = .ok (.iload_n 2, 1) := by decide +kernel
theorem dX2_isWord_29 : decode cX2_isWord 29 = .ok (.aload_n 1, 1) := by decide +kernel
theorem dX2_isWord_30 : decode cX2_isWord 30 = .ok (.invokevirtual 150, 3) := by decide +kernel
theorem dX2_isWord_33 : decode cX2_isWord 33 = .ok (.if_icmp .ge 30, 3) := by decide +kernel
theorem dX2_isWord_36 : decode cX2_isWord 36 = .ok (.aload_n 0, 1) := by decide +kernel
theorem dX2_isWord_37 : decode cX2_isWord 37 = .ok (.getfield 9, 3) := by decide +kernel
theorem dX2_isWord_40 : decode cX2_isWord 40 = .ok (.aload_n 0, 1) := by decide +kernel
theorem dX2_isWord_41 : decode cX2_isWord 41 = .ok (.getfield 136, 3) := by decide +kernel
theorem dX2_isWord_44 : decode cX2_isWord 44 = .ok (.iload_n 2, 1) := by decide +kernel
theorem dX2_isWord_45 : decode cX2_isWord 45 = .ok (.iadd, 1) := by decide +kernel
theorem dX2_isWord_46 : decode cX2_isWord 46 = .ok (.iaload, 1) := by decide +kernel
theorem dX2_isWord_47 : decode cX2_isWord 47 = .ok (.aload_n 1, 1) := by decide +kernel
theorem dX2_isWord_48 : decode cX2_isWord 48 = .ok (.iload_n 2, 1) := by decide +kernel
theorem dX2_isWord_49 : decode cX2_isWord 49 = .ok (.invokevirtual 155, 3) := by decide +kernel
theorem dX2_isWord_52 : decode cX2_isWord 52 = .ok (.if_icmp .eq 5, 3) := by decide +kernel
theorem dX2_isWord_55 : decode cX2_isWord 55 = .ok (.iconst 0, 1) := by decide +kernel
theorem dX2_isWord_56 : decode cX2_isWord 56 = .ok (.ireturn, 1) := by decide +kernel
theorem dX2_isWord_57 : decode cX2_isWord 57 = .ok (.iinc 2 1, 3) := by decide +kernel
theorem dX2_isWord_60 : decode cX2_isWord 60 = .ok (.goto (-32), 3) := by decide +kernel
theorem dX2_isWord_63 : decode cX2_isWord 63 = .ok (.iconst 1, 1) := by decide +kernel
theorem dX2_isWord_64 : decode cX2_isWord 64 = .ok (.ireturn, 1) := by decide +kernel
def mX2_isWord : MM := (yX2_isWord, cX2_isWord, 3, Option.some Jvm.ClassFile.FieldType.boolean, { frames := 5, cells := 0, slots := 0, locals := 150 })
def X2_isWord_L28 (σ_ : SS) (o1_ : Nat)  : Nat → Int32 → Option Bool :=
  lp (fun _ => none) fun rec v2_ =>
    if (stLen o1_) ≤ v2_ then (
      some true
      ) else (
      grd (inb ((gI σ_ 26 2) + v2_) 400) <|
      grd (inb v2_ (stL.getD o1_ 0)) <|
      if (gI σ_ 27 (Int32.toNatClampNeg ((gI σ_ 26 2) + v2_))) = (stCh o1_ (Int32.toNatClampNeg v2_)) then (
        rec (v2_ + (1 : Int32))
        ) else (
        some false
        )
      )

def fX2_isWord (σ0 : SS) (a1 : Nat) : Option Bool :=
  if (gI σ0 26 4) = (1 : Int32) then (
    if ((gI σ0 26 3) - (gI σ0 26 2)) = (stLen a1) then (
      X2_isWord_L28 σ0 a1
      fuel (0 : Int32)
      ) else (
      some false
      )
    ) else (
    some false
    )

set_option maxRecDepth 20000 in
theorem sX2_isWord_L28 {g : GG} {r : Bool} {σ_ : SS} {σ0 : SS} {o1_ : Nat}  (hs1_ : o1_ < 6)
    (hw_ : WT σ_)
    (h0_ : σ_ = σ0)
    (n : Nat) : ∀ (v2_ : Int32), X2_isWord_L28 σ_ o1_ n v2_ = some r → RR g mX2_isWord (FinR g mX2_isWord (some (.int (b2i r))) NF σ0) zF 28 [(0, .ref (ad g 26)), (1, .ref (ad g (1010 + o1_))), (2, .int v2_)] [] σ_ := by
  unfold X2_isWord_L28
  refine lp_ind (P := fun (rec : Int32 → Option Bool) => ∀ (v2_ : Int32), rec v2_ = some r → RR g mX2_isWord (FinR g mX2_isWord (some (.int (b2i r))) NF σ0) zF 28 [(0, .ref (ad g 26)), (1, .ref (ad g (1010 + o1_))), (2, .int v2_)] [] σ_) ?_ ?_ n
  · intro v2_ hr; cases hr
  intro rec ih v2_ hr
  subst h0_
  refine r_iload_n (pc := 28) (j := 2) dX2_isWord_28 rfl rfl ?_
  refine r_aload_n (pc := 29) (j := 1) dX2_isWord_29 rfl rfl ?_
  refine x_slen (pc := 30) (w := o1_) hs1_ tw_2_202 ⟨nle rfl, nle rfl⟩ (nle rfl) dX2_isWord_30 ?_
  refine r_icmp_ge (pc := 33) (tgt := 63) dX2_isWord_33 rfl (fun hc => ?_) (fun hc => ?_)
  · replace hr := ite_t hc hr
    refine r_iconst (pc := 63) (v := (1 : Int32)) dX2_isWord_63 rfl ?_
    exact l_opz hr (r_zret (pc := 64) (v := b2i true) (ty := .boolean) rfl (b2i_nar _) rfl ⟨Nat.le_refl _, Nat.le_refl _⟩ dX2_isWord_64)
  replace hr := ite_f hc hr
  refine r_aload_n (pc := 36) (j := 0) dX2_isWord_36 rfl rfl ?_
  refine gf2_0 (pc := 37) tw_1_146 hw_ dX2_isWord_37 ?_
  refine r_aload_n (pc := 40) (j := 0) dX2_isWord_40 rfl rfl ?_
  refine gf2_2 (pc := 41) tw_1_148 rfl dX2_isWord_41 ?_
  refine r_iload_n (pc := 44) (j := 2) dX2_isWord_44 rfl rfl ?_
  refine r_iadd (pc := 45) dX2_isWord_45 ?_
  obtain ⟨h1, hr⟩ := grd_inv hr
  refine x_iald (pc := 46) (k := (Int32.toNatClampNeg ((gI σ_ 26 2) + v2_))) rfl h1 rfl dX2_isWord_46 ?_
  refine r_aload_n (pc := 47) (j := 1) dX2_isWord_47 rfl rfl ?_
  refine r_iload_n (pc := 48) (j := 2) dX2_isWord_48 rfl rfl ?_
  obtain ⟨h2, hr⟩ := grd_inv hr
  refine x_sch (pc := 49) (w := o1_) hs1_ h2 tw_2_212 ⟨nle rfl, nle rfl⟩ (nle rfl) dX2_isWord_49 ?_
  refine r_icmp_eq (pc := 52) (tgt := 57) dX2_isWord_52 rfl (fun hc => ?_) (fun hc => ?_)
  · replace hr := ite_t hc hr
    refine r_iinc (pc := 57) (j := 2) (v := (v2_ + (1 : Int32))) (ls1 := [(2, .int (v2_ + (1 : Int32))), (0, .ref (ad g 26)), (1, .ref (ad g (1010 + o1_)))]) dX2_isWord_57 rfl rfl (nle rfl) rfl ?_
    refine r_goto (pc := 60) (tgt := 28) dX2_isWord_60 rfl ?_
    exact r_pick (ls1 := [(0, .ref (ad g 26)), (1, .ref (ad g (1010 + o1_))), (2, .int (v2_ + (1 : Int32)))]) [1, 2, 0] rfl (ih (v2_ + (1 : Int32)) hr)
  replace hr := ite_f hc hr
  refine r_iconst (pc := 55) (v := (0 : Int32)) dX2_isWord_55 rfl ?_
  exact l_opz hr (r_zret (pc := 56) (v := b2i false) (ty := .boolean) rfl (b2i_nar _) rfl ⟨Nat.le_refl _, Nat.le_refl _⟩ dX2_isWord_56)

set_option maxRecDepth 20000 in
theorem sX2_isWord {g : GG} {σ0 : SS} {a1 : Nat} {r : Bool} (hr : fX2_isWord σ0 a1 = some r) (hs1 : a1 < 6) : Ct g mX2_isWord [.ref (ad g 26), .ref (ad g (1010 + a1))] NF σ0 (some (.int (b2i r))) NF σ0 := by
  refine Ct.of (by decide +kernel) (nle rfl) fun hw0 => ?_
  have hw := hw0 rfl
  unfold fX2_isWord at hr
  change RR g mX2_isWord (FinR g mX2_isWord (some (.int (b2i r))) NF σ0) zF 0 [(0, .ref (ad g 26)), (1, .ref (ad g (1010 + a1)))] [] σ0
  refine r_aload_n (pc := 0) (j := 0) dX2_isWord_0 rfl rfl ?_
  refine gf2_4 (pc := 1) tw_1_150 rfl dX2_isWord_1 ?_
  refine r_iconst (pc := 4) (v := (1 : Int32)) dX2_isWord_4 rfl ?_
  refine r_icmp_ne (pc := 5) (tgt := 24) dX2_isWord_5 rfl (fun hc => ?_) (fun hc => ?_)
  · replace hr := ite_f hc hr
    refine r_iconst (pc := 24) (v := (0 : Int32)) dX2_isWord_24 rfl ?_
    exact l_opz hr (r_zret (pc := 25) (v := b2i false) (ty := .boolean) rfl (b2i_nar _) rfl ⟨Nat.le_refl _, Nat.le_refl _⟩ dX2_isWord_25)
  replace hr := ite_t hc hr
  refine r_aload_n (pc := 8) (j := 0) dX2_isWord_8 rfl rfl ?_
  refine gf2_3 (pc := 9) tw_1_149 rfl dX2_isWord_9 ?_
  refine r_aload_n (pc := 12) (j := 0) dX2_isWord_12 rfl rfl ?_
  refine gf2_2 (pc := 13) tw_1_148 rfl dX2_isWord_13 ?_
  refine r_isub (pc := 16) dX2_isWord_16 ?_
  refine r_aload_n (pc := 17) (j := 1) dX2_isWord_17 rfl rfl ?_
  refine x_slen (pc := 18) (w := a1) hs1 tw_2_202 ⟨nle rfl, nle rfl⟩ (nle rfl) dX2_isWord_18 ?_
  refine r_icmp_eq (pc := 21) (tgt := 26) dX2_isWord_21 rfl (fun hc => ?_) (fun hc => ?_)
  · replace hr := ite_t hc hr
    refine r_iconst (pc := 26) (v := (0 : Int32)) dX2_isWord_26 rfl ?_
    refine r_istore_n (pc := 27) (ls1 := [(2, .int (0 : Int32)), (0, .ref (ad g 26)), (1, .ref (ad g (1010 + a1)))]) dX2_isWord_27 rfl (nle rfl) rfl ?_
    refine r_pick (ls1 := [(0, .ref (ad g 26)), (1, .ref (ad g (1010 + a1))), (2, .int (0 : Int32))]) [1, 2, 0] rfl ?_
    refine sX2_isWord_L28 hs1 hw rfl  fuel (0 : Int32) hr
  replace hr := ite_f hc hr
  refine r_iconst (pc := 24) (v := (0 : Int32)) dX2_isWord_24 rfl ?_
  exact l_opz hr (r_zret (pc := 25) (v := b2i false) (ty := .boolean) rfl (b2i_nar _) rfl ⟨Nat.le_refl _, Nat.le_refl _⟩ dX2_isWord_25)

theorem kX2_isWord {g : GG} {σ0 : SS} {a1 : Nat} {v : Bool} {M : MM} {F : State → Array Value → List Frame → State → Prop} {pc index : Nat} {ls : List (Nat × Value)} {rest : List Value} (hf : fX2_isWord σ0 a1 = some v) (hs1 : a1 < 6) (hl : Cond.methodLink M.1.cls index yX2_isWord ∈ lw_gt) (hR : mX2_isWord.2.2.2.2.frames + 1 ≤ M.2.2.2.2.frames ∧ 8 + (mX2_isWord.2.2.1 + 11) + mX2_isWord.2.2.2.2.locals ≤ M.2.2.2.2.locals) (hrest : (rest.map fun v => v.category).sum ≤ 8) (hd : decode M.2.1 pc = .ok (.invokevirtual index, 3)) (k : RR g M F zF (pc + 3) ls (.int (b2i v) :: rest) σ0) : RR g M F zF pc ls (.ref (ad g (1010 + a1)) :: .ref (ad g 26) :: rest) σ0 :=
  r_callV (z := zF) (N := mX2_isWord) (nn := 1) (o1 := some (.int (b2i v))) (sX2_isWord hf hs1) (rfl : shp 26 = (2, 0)) (by decide) (shp_le (rfl : shp 26 = (2, 0)) (nle rfl)) (ci := 2) rfl rfl tw_2_201 tw_1_4 hl tw_2_200 tp_5 ⟨by decide, by decide, rfl⟩ hR rfl hrest hd ⟨Nat.zero_le _, Nat.zero_le _⟩ rfl (fun h => k)

theorem dX2_refuse_0 : decode cX2_refuse 0 = .ok (.aload_n 0, 1) := by decide +kernel
theorem dX2_refuse_1 : decode cX2_refuse 1 = .ok (.sipush (-1000), 3) := by decide +kernel
theorem dX2_refuse_4 : decode cX2_refuse 4 = .ok (.iload_n 1, 1) := by decide +kernel
theorem dX2_refuse_5 : decode cX2_refuse 5 = .ok (.imul, 1) := by decide +kernel
theorem dX2_refuse_6 : decode cX2_refuse 6 = .ok (.aload_n 0, 1) := by decide +kernel
theorem dX2_refuse_7 : decode cX2_refuse 7 = .ok (.getfield 136, 3) := by decide +kernel
theorem dX2_refuse_10 : decode cX2_refuse 10 = .ok (.isub, 1) := by decide +kernel
theorem dX2_refuse_11 : decode cX2_refuse 11 = .ok (.putfield 34, 3) := by decide +kernel
theorem dX2_refuse_14 : decode cX2_refuse 14 = .ok (.iconst 0, 1) := by decide +kernel
theorem dX2_refuse_15 : decode cX2_refuse 15 = .ok (.ireturn, 1) := by decide +kernel
def mX2_refuse : MM := (yX2_refuse, cX2_refuse, 2, Option.some Jvm.ClassFile.FieldType.boolean, { frames := 0, cells := 0, slots := 0, locals := 0 })
def fX2_refuse (σ : SS) (a1 : Int32) : Option (Bool × SS) :=
  vthen (sI σ 26 7 (((-1000 : Int32) * a1) - (gI σ 26 2))) fun σ1 =>
  some (false, σ1)

set_option maxRecDepth 20000 in
theorem sX2_refuse {g : GG} {σ : SS} {a1 : Int32} {r : Bool × SS} (hr : fX2_refuse σ a1 = some r)  : Ct g mX2_refuse [.ref (ad g 26), .int a1] NF σ (some (.int (b2i r.1))) NF r.2 := by
  refine Ct.of (by decide +kernel) (nle rfl) fun hw0 => ?_
  have hw := hw0 rfl
  unfold fX2_refuse at hr
  change RR g mX2_refuse (FinR g mX2_refuse (some (.int (b2i r.1))) NF r.2) zF 0 [(0, .ref (ad g 26)), (1, .int a1)] [] σ
  refine r_aload_n (pc := 0) (j := 0) dX2_refuse_0 rfl rfl ?_
  refine r_sipush (pc := 1) (v := (-1000 : Int32)) dX2_refuse_1 rfl ?_
  refine r_iload_n (pc := 4) (j := 1) dX2_refuse_4 rfl rfl ?_
  refine r_imul (pc := 5) dX2_refuse_5 ?_
  refine r_aload_n (pc := 6) (j := 0) dX2_refuse_6 rfl rfl ?_
  refine gf2_2 (pc := 7) tw_1_148 rfl dX2_refuse_7 ?_
  refine r_isub (pc := 10) dX2_refuse_10 ?_
  refine pf2_7 (pc := 11) tw_1_153 rfl dX2_refuse_11 fun σ1 eσ1 => ?_
  replace hr := vthen_inv hr σ1 eσ1
  have hσ1 := wtI eσ1 hw
  refine r_iconst (pc := 14) (v := (0 : Int32)) dX2_refuse_14 rfl ?_
  exact l_osz hr (r_zret (pc := 15) (v := b2i false) (ty := .boolean) rfl (b2i_nar _) rfl ⟨Nat.le_refl _, Nat.le_refl _⟩ dX2_refuse_15)

theorem kX2_refuse {g : GG} {σ : SS} {a1 : Int32} {v : Bool} {σ2 : SS} {M : MM} {F : State → Array Value → List Frame → State → Prop} {pc index : Nat} {ls : List (Nat × Value)} {rest : List Value} (hf : fX2_refuse σ a1 = some (v, σ2))  (hl : Cond.methodLink M.1.cls index yX2_refuse ∈ lw_gt) (hR : mX2_refuse.2.2.2.2.frames + 1 ≤ M.2.2.2.2.frames ∧ 8 + (mX2_refuse.2.2.1 + 11) + mX2_refuse.2.2.2.2.locals ≤ M.2.2.2.2.locals) (hrest : (rest.map fun v => v.category).sum ≤ 8) (hd : decode M.2.1 pc = .ok (.invokevirtual index, 3)) (k : WT σ2 → RR g M F zF (pc + 3) ls (.int (b2i v) :: rest) σ2) : RR g M F zF pc ls (.int a1 :: .ref (ad g 26) :: rest) σ :=
  r_callV (z := zF) (N := mX2_refuse) (nn := 1) (o1 := some (.int (b2i v))) (sX2_refuse hf ) (rfl : shp 26 = (2, 0)) (by decide) (shp_le (rfl : shp 26 = (2, 0)) (nle rfl)) (ci := 2) rfl rfl tw_3_13 tw_1_4 hl tw_3_12 tp_6 ⟨by decide, by decide, rfl⟩ hR rfl hrest hd ⟨Nat.zero_le _, Nat.zero_le _⟩ rfl (fun h => k (h rfl))

theorem dX2_takeWord_0 : decode cX2_takeWord 0 = .ok (.aload_n 0, 1) := by decide +kernel
theorem dX2_takeWord_1 : decode cX2_takeWord 1 = .ok (.aload_n 1, 1) := by decide +kernel
theorem dX2_takeWord_2 : decode cX2_takeWord 2 = .ok (.invokevirtual 92, 3) := by decide +kernel
theorem dX2_takeWord_5 : decode cX2_takeWord 5 = .ok (.ifCond .ne 9, 3) := by decide +kernel
theorem dX2_takeWord_8 : decode cX2_takeWord 8 = .ok (.aload_n 0, 1) := by decide +kernel
theorem dX2_takeWord_9 : decode cX2_takeWord 9 = .ok (.iconst 1, 1) := by decide +kernel
theorem dX2_takeWord_10 : decode cX2_takeWord 10 = .ok (.invokevirtual 97, 3) := by decide +kernel
theorem dX2_takeWord_13 : decode cX2_takeWord 13 = .ok (.ireturn, 1) := by decide +kernel
theorem dX2_takeWord_14 : decode cX2_takeWord 14 = .ok (.aload_n 0, 1) := by decide +kernel
theorem dX2_takeWord_15 : decode cX2_takeWord 15 = .ok (.invokevirtual 42, 3) := by decide +kernel
theorem dX2_takeWord_18 : decode cX2_takeWord 18 = .ok (.iconst 1, 1) := by decide +kernel
theorem dX2_takeWord_19 : decode cX2_takeWord 19 = .ok (.ireturn, 1) := by decide +kernel
def mX2_takeWord : MM := (yX2_takeWord, cX2_takeWord, 2, Option.some Jvm.ClassFile.FieldType.boolean, { frames := 6, cells := 0, slots := 0, locals := 172 })
def fX2_takeWord (σ : SS) (a1 : Nat) : Option (Bool × SS) :=
  bnd1 (fX2_isWord σ a1) fun b2 =>
  if b2 = true then (
    bnd1 (fX2_advance σ) fun σ4 =>
    some (true, σ4)
    ) else (
    bnd (fX2_refuse σ (1 : Int32)) fun b6 σ8 =>
    some (b6, σ8)
    )

set_option maxRecDepth 20000 in
theorem sX2_takeWord {g : GG} {σ : SS} {a1 : Nat} {r : Bool × SS} (hr : fX2_takeWord σ a1 = some r) (hs1 : a1 < 6) : Ct g mX2_takeWord [.ref (ad g 26), .ref (ad g (1010 + a1))] NF σ (some (.int (b2i r.1))) NF r.2 := by
  refine Ct.of (by decide +kernel) (nle rfl) fun hw0 => ?_
  have hw := hw0 rfl
  unfold fX2_takeWord at hr
  change RR g mX2_takeWord (FinR g mX2_takeWord (some (.int (b2i r.1))) NF r.2) zF 0 [(0, .ref (ad g 26)), (1, .ref (ad g (1010 + a1)))] [] σ
  refine r_aload_n (pc := 0) (j := 0) dX2_takeWord_0 rfl rfl ?_
  refine r_aload_n (pc := 1) (j := 1) dX2_takeWord_1 rfl rfl ?_
  obtain ⟨b2, hb2, hr⟩ := bnd1_inv hr
  refine kX2_isWord (pc := 2) hb2 hs1 tw_2_198 ⟨nle rfl, nle rfl⟩ (nle rfl) dX2_takeWord_2 ?_
  refine r_ifB_ne (pc := 5) (tgt := 14) dX2_takeWord_5 rfl (fun hc => ?_) (fun hc => ?_)
  · replace hr := ite_t hc hr
    refine r_aload_n (pc := 14) (j := 0) dX2_takeWord_14 rfl rfl ?_
    obtain ⟨σ4, eσ4, hr⟩ := bnd1_inv hr
    refine kX2_advance (pc := 15) eσ4 tw_2_178 ⟨nle rfl, nle rfl⟩ (nle rfl) dX2_takeWord_15 fun hσ4 => ?_
    refine r_iconst (pc := 18) (v := (1 : Int32)) dX2_takeWord_18 rfl ?_
    exact l_osz hr (r_zret (pc := 19) (v := b2i true) (ty := .boolean) rfl (b2i_nar _) rfl ⟨Nat.le_refl _, Nat.le_refl _⟩ dX2_takeWord_19)
  replace hr := ite_f hc hr
  refine r_aload_n (pc := 8) (j := 0) dX2_takeWord_8 rfl rfl ?_
  refine r_iconst (pc := 9) (v := (1 : Int32)) dX2_takeWord_9 rfl ?_
  obtain ⟨b6, σ8, eσ8, hr⟩ := bnd_inv hr
  refine kX2_refuse (pc := 10) eσ8 tw_3_10 ⟨nle rfl, nle rfl⟩ (nle rfl) dX2_takeWord_10 fun hσ8 => ?_
  exact l_osz hr (r_zret (pc := 13) (v := b2i b6) (ty := .boolean) rfl (b2i_nar _) rfl ⟨Nat.le_refl _, Nat.le_refl _⟩ dX2_takeWord_13)

theorem kX2_takeWord {g : GG} {σ : SS} {a1 : Nat} {v : Bool} {σ2 : SS} {M : MM} {F : State → Array Value → List Frame → State → Prop} {pc index : Nat} {ls : List (Nat × Value)} {rest : List Value} (hf : fX2_takeWord σ a1 = some (v, σ2)) (hs1 : a1 < 6) (hl : Cond.methodLink M.1.cls index yX2_takeWord ∈ lw_gt) (hR : mX2_takeWord.2.2.2.2.frames + 1 ≤ M.2.2.2.2.frames ∧ 8 + (mX2_takeWord.2.2.1 + 11) + mX2_takeWord.2.2.2.2.locals ≤ M.2.2.2.2.locals) (hrest : (rest.map fun v => v.category).sum ≤ 8) (hd : decode M.2.1 pc = .ok (.invokevirtual index, 3)) (k : WT σ2 → RR g M F zF (pc + 3) ls (.int (b2i v) :: rest) σ2) : RR g M F zF pc ls (.ref (ad g (1010 + a1)) :: .ref (ad g 26) :: rest) σ :=
  r_callV (z := zF) (N := mX2_takeWord) (nn := 1) (o1 := some (.int (b2i v))) (sX2_takeWord hf hs1) (rfl : shp 26 = (2, 0)) (by decide) (shp_le (rfl : shp 26 = (2, 0)) (nle rfl)) (ci := 2) rfl rfl tw_2_197 tw_1_4 hl tw_2_196 tp_4 ⟨by decide, by decide, rfl⟩ hR rfl hrest hd ⟨Nat.zero_le _, Nat.zero_le _⟩ rfl (fun h => k (h rfl))

theorem dX2_isNumber_0 : decode cX2_isNumber 0 = .ok (.aload_n 0, 1) := by decide +kernel
theorem dX2_isNumber_1 : decode cX2_isNumber 1 = .ok (.getfield 87, 3) := by decide +kernel
theorem dX2_isNumber_4 : decode cX2_isNumber 4 = .ok (.iconst 2, 1) := by decide +kernel
theorem dX2_isNumber_5 : decode cX2_isNumber 5 = .ok (.if_icmp .eq 9, 3) := by decide +kernel
theorem dX2_isNumber_8 : decode cX2_isNumber 8 = .ok (.aload_n 0, 1) := by decide +kernel
theorem dX2_isNumber_9 : decode cX2_isNumber 9 = .ok (.iconst 1, 1) := by decide +kernel
theorem dX2_isNumber_10 : decode cX2_isNumber 10 = .ok (.invokevirtual 97, 3) := by decide +kernel
theorem dX2_isNumber_13 : decode cX2_isNumber 13 = .ok (.ireturn, 1) := by decide +kernel
theorem dX2_isNumber_14 : decode cX2_isNumber 14 = .ok (.aload_n 0, 1) := by decide +kernel
theorem dX2_isNumber_15 : decode cX2_isNumber 15 = .ok (.getfield 120, 3) := by decide +kernel
theorem dX2_isNumber_18 : decode cX2_isNumber 18 = .ok (.iload_n 1, 1) := by decide +kernel
theorem dX2_isNumber_19 : decode cX2_isNumber 19 = .ok (.if_icmp .lt 11, 3) := by decide +kernel
theorem dX2_isNumber_22 : decode cX2_isNumber 22 = .ok (.aload_n 0, 1) := by decide +kernel
theorem dX2_isNumber_23 : decode cX2_isNumber 23 = .ok (.getfield 120, 3) := by decide +kernel
theorem dX2_isNumber_26 : decode cX2_isNumber 26 = .ok (.iload_n 2, 1) := by decide +kernel
theorem dX2_isNumber_27 : decode cX2_isNumber 27 = .ok (.if_icmp .le 11, 3) := by decide +kernel
theorem dX2_isNumber_30 : decode cX2_isNumber 30 = .ok (.aload_n 0, 1) := by decide +kernel
theorem dX2_isNumber_31 : decode cX2_isNumber 31 = .ok (.iconst 2, 1) := by decide +kernel
theorem dX2_isNumber_32 : decode cX2_isNumber 32 = .ok (.invokevirtual 97, 3) := by decide +kernel
theorem dX2_isNumber_35 : decode cX2_isNumber 35 = .ok (.ifCond .eq 7, 3) := by decide +kernel
theorem dX2_isNumber_38 : decode cX2_isNumber 38 = .ok (.iconst 1, 1) := by decide +kernel
theorem dX2_isNumber_39 : decode cX2_isNumber 39 = .ok (.goto 4, 3) := by decide +kernel
theorem dX2_isNumber_42 : decode cX2_isNumber 42 = .ok (.iconst 0, 1) := by decide +kernel
theorem dX2_isNumber_43 : decode cX2_isNumber 43 = .ok (.ireturn, 1) := by decide +kernel
def mX2_isNumber : MM := (yX2_isNumber, cX2_isNumber, 3, Option.some Jvm.ClassFile.FieldType.boolean, { frames := 1, cells := 0, slots := 0, locals := 21 })
def fX2_isNumber (σ : SS) (a1 : Int32) (a2 : Int32) : Option (Bool × SS) :=
  if (gI σ 26 4) = (2 : Int32) then (
    vthen (fun  (σ1 : SS) =>
      some (true, σ1)
      ) fun j38 =>
    vthen (fun (_u : Unit) =>
      bnd (fX2_refuse σ (2 : Int32)) fun b3 σ5 =>
      if b3 = true then (
        j38 σ5
        ) else (
        some (false, σ5)
        )
      ) fun j30 =>
    if (gI σ 26 5) < a1 then (
      j30 ()
      ) else (
      if (gI σ 26 5) ≤ a2 then (
        j38 σ
        ) else (
        j30 ()
        )
      )
    ) else (
    bnd (fX2_refuse σ (1 : Int32)) fun b7 σ9 =>
    some (b7, σ9)
    )

set_option maxRecDepth 20000 in
theorem sX2_isNumber {g : GG} {σ : SS} {a1 : Int32} {a2 : Int32} {r : Bool × SS} (hr : fX2_isNumber σ a1 a2 = some r)  : Ct g mX2_isNumber [.ref (ad g 26), .int a1, .int a2] NF σ (some (.int (b2i r.1))) NF r.2 := by
  refine Ct.of (by decide +kernel) (nle rfl) fun hw0 => ?_
  have hw := hw0 rfl
  unfold fX2_isNumber at hr
  change RR g mX2_isNumber (FinR g mX2_isNumber (some (.int (b2i r.1))) NF r.2) zF 0 [(0, .ref (ad g 26)), (1, .int a1), (2, .int a2)] [] σ
  refine r_aload_n (pc := 0) (j := 0) dX2_isNumber_0 rfl rfl ?_
  refine gf2_4 (pc := 1) tw_1_150 rfl dX2_isNumber_1 ?_
  refine r_iconst (pc := 4) (v := (2 : Int32)) dX2_isNumber_4 rfl ?_
  refine r_icmp_eq (pc := 5) (tgt := 14) dX2_isNumber_5 rfl (fun hc => ?_) (fun hc => ?_)
  · replace hr := ite_t hc hr
    refine r_aload_n (pc := 14) (j := 0) dX2_isNumber_14 rfl rfl ?_
    refine gf2_5 (pc := 15) tw_1_151 rfl dX2_isNumber_15 ?_
    refine r_iload_n (pc := 18) (j := 1) dX2_isNumber_18 rfl rfl ?_
    obtain ⟨j38, ej38, hr⟩ := vth_ex hr
    have hj38 : ∀ (σ1 : SS), j38 σ1 = some r → WT σ1 → RR g mX2_isNumber (FinR g mX2_isNumber (some (.int (b2i r.1))) NF r.2) zF 38 [] [] σ1 := by
      intro σ1 hr hσ1
      replace hr := (congrFun ej38 σ1).symm.trans hr
      refine r_iconst (pc := 38) (v := (1 : Int32)) dX2_isNumber_38 rfl ?_
      refine r_goto (pc := 39) (tgt := 43) dX2_isNumber_39 rfl ?_
      exact l_osz hr (r_zret (pc := 43) (v := b2i true) (ty := .boolean) rfl (b2i_nar _) rfl ⟨Nat.le_refl _, Nat.le_refl _⟩ dX2_isNumber_43)
    obtain ⟨j30, ej30, hr⟩ := vth_ex hr
    have hj30 : j30 () = some r → RR g mX2_isNumber (FinR g mX2_isNumber (some (.int (b2i r.1))) NF r.2) zF 30 [(0, .ref (ad g 26))] [] σ := by
      intro  hr
      replace hr := (congrFun ej30 ()).symm.trans hr
      refine r_aload_n (pc := 30) (j := 0) dX2_isNumber_30 rfl rfl ?_
      refine r_iconst (pc := 31) (v := (2 : Int32)) dX2_isNumber_31 rfl ?_
      obtain ⟨b3, σ5, eσ5, hr⟩ := bnd_inv hr
      refine kX2_refuse (pc := 32) eσ5 tw_3_10 ⟨nle rfl, nle rfl⟩ (nle rfl) dX2_isNumber_32 fun hσ5 => ?_
      refine r_ifB_eq (pc := 35) (tgt := 42) dX2_isNumber_35 rfl (fun hc => ?_) (fun hc => ?_)
      · replace hr := ite_f hc hr
        refine r_iconst (pc := 42) (v := (0 : Int32)) dX2_isNumber_42 rfl ?_
        exact l_osz hr (r_zret (pc := 43) (v := b2i false) (ty := .boolean) rfl (b2i_nar _) rfl ⟨Nat.le_refl _, Nat.le_refl _⟩ dX2_isNumber_43)
      replace hr := ite_t hc hr
      exact r_pick (ls1 := []) [] rfl (hj38 σ5 hr hσ5)
    refine r_icmp_lt (pc := 19) (tgt := 30) dX2_isNumber_19 rfl (fun hc => ?_) (fun hc => ?_)
    · replace hr := ite_t hc hr
      exact r_pick (ls1 := [(0, .ref (ad g 26))]) [0] rfl (hj30  hr)
    replace hr := ite_f hc hr
    refine r_aload_n (pc := 22) (j := 0) dX2_isNumber_22 rfl rfl ?_
    refine gf2_5 (pc := 23) tw_1_151 rfl dX2_isNumber_23 ?_
    refine r_iload_n (pc := 26) (j := 2) dX2_isNumber_26 rfl rfl ?_
    refine r_icmp_le (pc := 27) (tgt := 38) dX2_isNumber_27 rfl (fun hc => ?_) (fun hc => ?_)
    · replace hr := ite_t hc hr
      exact r_pick (ls1 := []) [] rfl (hj38 σ hr hw)
    replace hr := ite_f hc hr
    exact r_pick (ls1 := [(0, .ref (ad g 26))]) [0] rfl (hj30  hr)
  replace hr := ite_f hc hr
  refine r_aload_n (pc := 8) (j := 0) dX2_isNumber_8 rfl rfl ?_
  refine r_iconst (pc := 9) (v := (1 : Int32)) dX2_isNumber_9 rfl ?_
  obtain ⟨b7, σ9, eσ9, hr⟩ := bnd_inv hr
  refine kX2_refuse (pc := 10) eσ9 tw_3_10 ⟨nle rfl, nle rfl⟩ (nle rfl) dX2_isNumber_10 fun hσ9 => ?_
  exact l_osz hr (r_zret (pc := 13) (v := b2i b7) (ty := .boolean) rfl (b2i_nar _) rfl ⟨Nat.le_refl _, Nat.le_refl _⟩ dX2_isNumber_13)

theorem kX2_isNumber {g : GG} {σ : SS} {a1 : Int32} {a2 : Int32} {v : Bool} {σ2 : SS} {M : MM} {F : State → Array Value → List Frame → State → Prop} {pc index : Nat} {ls : List (Nat × Value)} {rest : List Value} (hf : fX2_isNumber σ a1 a2 = some (v, σ2))  (hl : Cond.methodLink M.1.cls index yX2_isNumber ∈ lw_gt) (hR : mX2_isNumber.2.2.2.2.frames + 1 ≤ M.2.2.2.2.frames ∧ 8 + (mX2_isNumber.2.2.1 + 11) + mX2_isNumber.2.2.2.2.locals ≤ M.2.2.2.2.locals) (hrest : (rest.map fun v => v.category).sum ≤ 8) (hd : decode M.2.1 pc = .ok (.invokevirtual index, 3)) (k : WT σ2 → RR g M F zF (pc + 3) ls (.int (b2i v) :: rest) σ2) : RR g M F zF pc ls (.int a2 :: .int a1 :: .ref (ad g 26) :: rest) σ :=
  r_callV (z := zF) (N := mX2_isNumber) (nn := 2) (o1 := some (.int (b2i v))) (sX2_isNumber hf ) (rfl : shp 26 = (2, 0)) (by decide) (shp_le (rfl : shp 26 = (2, 0)) (nle rfl)) (ci := 2) rfl rfl tw_3_21 tw_1_4 hl tw_3_20 tp_8 ⟨by decide, by decide, rfl⟩ hR rfl hrest hd ⟨Nat.zero_le _, Nat.zero_le _⟩ rfl (fun h => k (h rfl))

theorem dX2_takeNumber_0 : decode cX2_takeNumber 0 = .ok (.aload_n 0, 1) := by decide +kernel
theorem dX2_takeNumber_1 : decode cX2_takeNumber 1 = .ok (.iload_n 1, 1) := by decide +kernel
theorem dX2_takeNumber_2 : decode cX2_takeNumber 2 = .ok (.iload_n 2, 1) := by decide +kernel
theorem dX2_takeNumber_3 : decode cX2_takeNumber 3 = .ok (.invokevirtual 117, 3) := by decide +kernel
theorem dX2_takeNumber_6 : decode cX2_takeNumber 6 = .ok (.ifCond .ne 5, 3) := by decide +kernel
theorem dX2_takeNumber_9 : decode cX2_takeNumber 9 = .ok (.iconst 0, 1) := by decide +kernel
theorem dX2_takeNumber_10 : decode cX2_takeNumber 10 = .ok (.ireturn, 1) := by decide +kernel
theorem dX2_takeNumber_11 : decode cX2_takeNumber 11 = .ok (.aload_n 0, 1) := by decide +kernel
theorem dX2_takeNumber_12 : decode cX2_takeNumber 12 = .ok (.aload_n 0, 1) := by decide +kernel
theorem dX2_takeNumber_13 : decode cX2_takeNumber 13 = .ok (.getfield 120, 3) := by decide +kernel
theorem dX2_takeNumber_16 : decode cX2_takeNumber 16 = .ok (.putfield 66, 3) := by decide +kernel
theorem dX2_takeNumber_19 : decode cX2_takeNumber 19 = .ok (.aload_n 0, 1) := by decide +kernel
theorem dX2_takeNumber_20 : decode cX2_takeNumber 20 = .ok (.invokevirtual 42, 3) := by decide +kernel
theorem dX2_takeNumber_23 : decode cX2_takeNumber 23 = .ok (.iconst 1, 1) := by decide +kernel
theorem dX2_takeNumber_24 : decode cX2_takeNumber 24 = .ok (.ireturn, 1) := by decide +kernel
def mX2_takeNumber : MM := (yX2_takeNumber, cX2_takeNumber, 3, Option.some Jvm.ClassFile.FieldType.boolean, { frames := 2, cells := 0, slots := 0, locals := 43 })
def fX2_takeNumber (σ : SS) (a1 : Int32) (a2 : Int32) : Option (Bool × SS) :=
  bnd (fX2_isNumber σ a1 a2) fun b2 σ4 =>
  if b2 = true then (
    vthen (sI σ4 26 6 (gI σ4 26 5)) fun σ5 =>
    bnd1 (fX2_advance σ5) fun σ6 =>
    some (true, σ6)
    ) else (
    some (false, σ4)
    )

set_option maxRecDepth 20000 in
theorem sX2_takeNumber {g : GG} {σ : SS} {a1 : Int32} {a2 : Int32} {r : Bool × SS} (hr : fX2_takeNumber σ a1 a2 = some r)  : Ct g mX2_takeNumber [.ref (ad g 26), .int a1, .int a2] NF σ (some (.int (b2i r.1))) NF r.2 := by
  refine Ct.of (by decide +kernel) (nle rfl) fun hw0 => ?_
  have hw := hw0 rfl
  unfold fX2_takeNumber at hr
  change RR g mX2_takeNumber (FinR g mX2_takeNumber (some (.int (b2i r.1))) NF r.2) zF 0 [(0, .ref (ad g 26)), (1, .int a1), (2, .int a2)] [] σ
  refine r_aload_n (pc := 0) (j := 0) dX2_takeNumber_0 rfl rfl ?_
  refine r_iload_n (pc := 1) (j := 1) dX2_takeNumber_1 rfl rfl ?_
  refine r_iload_n (pc := 2) (j := 2) dX2_takeNumber_2 rfl rfl ?_
  obtain ⟨b2, σ4, eσ4, hr⟩ := bnd_inv hr
  refine kX2_isNumber (pc := 3) eσ4 tw_3_18 ⟨nle rfl, nle rfl⟩ (nle rfl) dX2_takeNumber_3 fun hσ4 => ?_
  refine r_ifB_ne (pc := 6) (tgt := 11) dX2_takeNumber_6 rfl (fun hc => ?_) (fun hc => ?_)
  · replace hr := ite_t hc hr
    refine r_aload_n (pc := 11) (j := 0) dX2_takeNumber_11 rfl rfl ?_
    refine r_aload_n (pc := 12) (j := 0) dX2_takeNumber_12 rfl rfl ?_
    refine gf2_5 (pc := 13) tw_1_151 rfl dX2_takeNumber_13 ?_
    refine pf2_6 (pc := 16) tw_1_152 rfl dX2_takeNumber_16 fun σ5 eσ5 => ?_
    replace hr := vthen_inv hr σ5 eσ5
    have hσ5 := wtI eσ5 hσ4
    refine r_aload_n (pc := 19) (j := 0) dX2_takeNumber_19 rfl rfl ?_
    obtain ⟨σ6, eσ6, hr⟩ := bnd1_inv hr
    refine kX2_advance (pc := 20) eσ6 tw_2_178 ⟨nle rfl, nle rfl⟩ (nle rfl) dX2_takeNumber_20 fun hσ6 => ?_
    refine r_iconst (pc := 23) (v := (1 : Int32)) dX2_takeNumber_23 rfl ?_
    exact l_osz hr (r_zret (pc := 24) (v := b2i true) (ty := .boolean) rfl (b2i_nar _) rfl ⟨Nat.le_refl _, Nat.le_refl _⟩ dX2_takeNumber_24)
  replace hr := ite_f hc hr
  refine r_iconst (pc := 9) (v := (0 : Int32)) dX2_takeNumber_9 rfl ?_
  exact l_osz hr (r_zret (pc := 10) (v := b2i false) (ty := .boolean) rfl (b2i_nar _) rfl ⟨Nat.le_refl _, Nat.le_refl _⟩ dX2_takeNumber_10)

theorem kX2_takeNumber {g : GG} {σ : SS} {a1 : Int32} {a2 : Int32} {v : Bool} {σ2 : SS} {M : MM} {F : State → Array Value → List Frame → State → Prop} {pc index : Nat} {ls : List (Nat × Value)} {rest : List Value} (hf : fX2_takeNumber σ a1 a2 = some (v, σ2))  (hl : Cond.methodLink M.1.cls index yX2_takeNumber ∈ lw_gt) (hR : mX2_takeNumber.2.2.2.2.frames + 1 ≤ M.2.2.2.2.frames ∧ 8 + (mX2_takeNumber.2.2.1 + 11) + mX2_takeNumber.2.2.2.2.locals ≤ M.2.2.2.2.locals) (hrest : (rest.map fun v => v.category).sum ≤ 8) (hd : decode M.2.1 pc = .ok (.invokevirtual index, 3)) (k : WT σ2 → RR g M F zF (pc + 3) ls (.int (b2i v) :: rest) σ2) : RR g M F zF pc ls (.int a2 :: .int a1 :: .ref (ad g 26) :: rest) σ :=
  r_callV (z := zF) (N := mX2_takeNumber) (nn := 2) (o1 := some (.int (b2i v))) (sX2_takeNumber hf ) (rfl : shp 26 = (2, 0)) (by decide) (shp_le (rfl : shp 26 = (2, 0)) (nle rfl)) (ci := 2) rfl rfl tw_3_17 tw_1_4 hl tw_3_16 tp_7 ⟨by decide, by decide, rfl⟩ hR rfl hrest hd ⟨Nat.zero_le _, Nat.zero_le _⟩ rfl (fun h => k (h rfl))

theorem dX2_takeSign_0 : decode cX2_takeSign 0 = .ok (.aload_n 0, 1) := by decide +kernel
theorem dX2_takeSign_1 : decode cX2_takeSign 1 = .ok (.getfield 87, 3) := by decide +kernel
theorem dX2_takeSign_4 : decode cX2_takeSign 4 = .ok (.iload_n 1, 1) := by decide +kernel
theorem dX2_takeSign_5 : decode cX2_takeSign 5 = .ok (.if_icmp .eq 9, 3) := by decide +kernel
theorem dX2_takeSign_8 : decode cX2_takeSign 8 = .ok (.aload_n 0, 1) := by decide +kernel
theorem dX2_takeSign_9 : decode cX2_takeSign 9 = .ok (.iconst 1, 1) := by decide +kernel
theorem dX2_takeSign_10 : decode cX2_takeSign 10 = .ok (.invokevirtual 97, 3) := by decide +kernel
theorem dX2_takeSign_13 : decode cX2_takeSign 13 = .ok (.ireturn, 1) := by decide +kernel
theorem dX2_takeSign_14 : decode cX2_takeSign 14 = .ok (.aload_n 0, 1) := by decide +kernel
theorem dX2_takeSign_15 : decode cX2_takeSign 15 = .ok (.invokevirtual 42, 3) := by decide +kernel
theorem dX2_takeSign_18 : decode cX2_takeSign 18 = .ok (.iconst 1, 1) := by decide +kernel
theorem dX2_takeSign_19 : decode cX2_takeSign 19 = .ok (.ireturn, 1) := by decide +kernel
def mX2_takeSign : MM := (yX2_takeSign, cX2_takeSign, 2, Option.some Jvm.ClassFile.FieldType.boolean, { frames := 2, cells := 0, slots := 0, locals := 42 })
def fX2_takeSign (σ : SS) (a1 : Int32) : Option (Bool × SS) :=
  if (gI σ 26 4) = a1 then (
    bnd1 (fX2_advance σ) fun σ1 =>
    some (true, σ1)
    ) else (
    bnd (fX2_refuse σ (1 : Int32)) fun b3 σ5 =>
    some (b3, σ5)
    )

set_option maxRecDepth 20000 in
theorem sX2_takeSign {g : GG} {σ : SS} {a1 : Int32} {r : Bool × SS} (hr : fX2_takeSign σ a1 = some r)  : Ct g mX2_takeSign [.ref (ad g 26), .int a1] NF σ (some (.int (b2i r.1))) NF r.2 := by
  refine Ct.of (by decide +kernel) (nle rfl) fun hw0 => ?_
  have hw := hw0 rfl
  unfold fX2_takeSign at hr
  change RR g mX2_takeSign (FinR g mX2_takeSign (some (.int (b2i r.1))) NF r.2) zF 0 [(0, .ref (ad g 26)), (1, .int a1)] [] σ
  refine r_aload_n (pc := 0) (j := 0) dX2_takeSign_0 rfl rfl ?_
  refine gf2_4 (pc := 1) tw_1_150 rfl dX2_takeSign_1 ?_
  refine r_iload_n (pc := 4) (j := 1) dX2_takeSign_4 rfl rfl ?_
  refine r_icmp_eq (pc := 5) (tgt := 14) dX2_takeSign_5 rfl (fun hc => ?_) (fun hc => ?_)
  · replace hr := ite_t hc hr
    refine r_aload_n (pc := 14) (j := 0) dX2_takeSign_14 rfl rfl ?_
    obtain ⟨σ1, eσ1, hr⟩ := bnd1_inv hr
    refine kX2_advance (pc := 15) eσ1 tw_2_178 ⟨nle rfl, nle rfl⟩ (nle rfl) dX2_takeSign_15 fun hσ1 => ?_
    refine r_iconst (pc := 18) (v := (1 : Int32)) dX2_takeSign_18 rfl ?_
    exact l_osz hr (r_zret (pc := 19) (v := b2i true) (ty := .boolean) rfl (b2i_nar _) rfl ⟨Nat.le_refl _, Nat.le_refl _⟩ dX2_takeSign_19)
  replace hr := ite_f hc hr
  refine r_aload_n (pc := 8) (j := 0) dX2_takeSign_8 rfl rfl ?_
  refine r_iconst (pc := 9) (v := (1 : Int32)) dX2_takeSign_9 rfl ?_
  obtain ⟨b3, σ5, eσ5, hr⟩ := bnd_inv hr
  refine kX2_refuse (pc := 10) eσ5 tw_3_10 ⟨nle rfl, nle rfl⟩ (nle rfl) dX2_takeSign_10 fun hσ5 => ?_
  exact l_osz hr (r_zret (pc := 13) (v := b2i b3) (ty := .boolean) rfl (b2i_nar _) rfl ⟨Nat.le_refl _, Nat.le_refl _⟩ dX2_takeSign_13)

theorem kX2_takeSign {g : GG} {σ : SS} {a1 : Int32} {v : Bool} {σ2 : SS} {M : MM} {F : State → Array Value → List Frame → State → Prop} {pc index : Nat} {ls : List (Nat × Value)} {rest : List Value} (hf : fX2_takeSign σ a1 = some (v, σ2))  (hl : Cond.methodLink M.1.cls index yX2_takeSign ∈ lw_gt) (hR : mX2_takeSign.2.2.2.2.frames + 1 ≤ M.2.2.2.2.frames ∧ 8 + (mX2_takeSign.2.2.1 + 11) + mX2_takeSign.2.2.2.2.locals ≤ M.2.2.2.2.locals) (hrest : (rest.map fun v => v.category).sum ≤ 8) (hd : decode M.2.1 pc = .ok (.invokevirtual index, 3)) (k : WT σ2 → RR g M F zF (pc + 3) ls (.int (b2i v) :: rest) σ2) : RR g M F zF pc ls (.int a1 :: .ref (ad g 26) :: rest) σ :=
  r_callV (z := zF) (N := mX2_takeSign) (nn := 1) (o1 := some (.int (b2i v))) (sX2_takeSign hf ) (rfl : shp 26 = (2, 0)) (by decide) (shp_le (rfl : shp 26 = (2, 0)) (nle rfl)) (ci := 2) rfl rfl tw_3_25 tw_1_4 hl tw_3_24 tp_9 ⟨by decide, by decide, rfl⟩ hR rfl hrest hd ⟨Nat.zero_le _, Nat.zero_le _⟩ rfl (fun h => k (h rfl))

theorem dX2_readHead_0 : decode cX2_readHead 0 = .ok (.aload_n 0, 1) := by decide +kernel
theorem dX2_readHead_1 : decode cX2_readHead 1 = .ok (.ldc 56, 2) := by decide +kernel
theorem dX2_readHead_3 : decode cX2_readHead 3 = .ok (.invokevirtual 58, 3) := by decide +kernel
theorem dX2_readHead_6 : decode cX2_readHead 6 = .ok (.ifCond .eq 13, 3) := by decide +kernel
theorem dX2_readHead_9 : decode cX2_readHead 9 = .ok (.aload_n 0, 1) := by decide +kernel
theorem dX2_readHead_10 : decode cX2_readHead 10 = .ok (.iconst 4, 1) := by decide +kernel
theorem dX2_readHead_11 : decode cX2_readHead 11 = .ok (.bipush 40, 2) := by decide +kernel
theorem dX2_readHead_13 : decode cX2_readHead 13 = .ok (.invokevirtual 62, 3) := by decide +kernel
theorem dX2_readHead_16 : decode cX2_readHead 16 = .ok (.ifCond .ne 5, 3) := by decide +kernel
theorem dX2_readHead_19 : decode cX2_readHead 19 = .ok (.iconst 0, 1) := by decide +kernel
theorem dX2_readHead_20 : decode cX2_readHead 20 = .ok (.ireturn, 1) := by decide +kernel
theorem dX2_readHead_21 : decode cX2_readHead 21 = .ok (.aload_n 1, 1) := by decide +kernel
theorem dX2_readHead_22 : decode cX2_readHead 22 = .ok (.aload_n 0, 1) := by decide +kernel
theorem dX2_readHead_23 : decode cX2_readHead 23 = .ok (.getfield 66, 3) := by decide +kernel
theorem dX2_readHead_26 : decode cX2_readHead 26 = .ok (.putfield 69, 3) := by decide +kernel
theorem dX2_readHead_29 : decode cX2_readHead 29 = .ok (.aload_n 0, 1) := by decide +kernel
theorem dX2_readHead_30 : decode cX2_readHead 30 = .ok (.iconst 4, 1) := by decide +kernel
theorem dX2_readHead_31 : decode cX2_readHead 31 = .ok (.bipush 40, 2) := by decide +kernel
theorem dX2_readHead_33 : decode cX2_readHead 33 = .ok (.invokevirtual 62, 3) := by decide +kernel
theorem dX2_readHead_36 : decode cX2_readHead 36 = .ok (.ifCond .ne 5, 3) := by decide +kernel
theorem dX2_readHead_39 : decode cX2_readHead 39 = .ok (.iconst 0, 1) := by decide +kernel
theorem dX2_readHead_40 : decode cX2_readHead 40 = .ok (.ireturn, 1) := by decide +kernel
theorem dX2_readHead_41 : decode cX2_readHead 41 = .ok (.aload_n 1, 1) := by decide +kernel
theorem dX2_readHead_42 : decode cX2_readHead 42 = .ok (.aload_n 0, 1) := by decide +kernel
theorem dX2_readHead_43 : decode cX2_readHead 43 = .ok (.getfield 66, 3) := by decide +kernel
theorem dX2_readHead_46 : decode cX2_readHead 46 = .ok (.putfield 72, 3) := by decide +kernel
theorem dX2_readHead_49 : decode cX2_readHead 49 = .ok (.aload_n 0, 1) := by decide +kernel
theorem dX2_readHead_50 : decode cX2_readHead 50 = .ok (.iconst 4, 1) := by decide +kernel
theorem dX2_readHead_51 : decode cX2_readHead 51 = .ok (.invokevirtual 75, 3) := by decide +kernel
theorem dX2_readHead_54 : decode cX2_readHead 54 = .ok (.ifCond .eq 22, 3) := by decide +kernel
theorem dX2_readHead_57 : decode cX2_readHead 57 = .ok (.aload_n 0, 1) := by decide +kernel
theorem dX2_readHead_58 : decode cX2_readHead 58 = .ok (.ldc 79, 2) := by decide +kernel
theorem dX2_readHead_60 : decode cX2_readHead 60 = .ok (.invokevirtual 58, 3) := by decide +kernel
theorem dX2_readHead_63 : decode cX2_readHead 63 = .ok (.ifCond .eq 13, 3) := by decide +kernel
theorem dX2_readHead_66 : decode cX2_readHead 66 = .ok (.aload_n 0, 1) := by decide +kernel
theorem dX2_readHead_67 : decode cX2_readHead 67 = .ok (.iconst 1, 1) := by decide +kernel
theorem dX2_readHead_68 : decode cX2_readHead 68 = .ok (.bipush 6, 2) := by decide +kernel
theorem dX2_readHead_70 : decode cX2_readHead 70 = .ok (.invokevirtual 62, 3) := by decide +kernel
theorem dX2_readHead_73 : decode cX2_readHead 73 = .ok (.ifCond .ne 5, 3) := by decide +kernel
theorem dX2_readHead_76 : decode cX2_readHead 76 = .ok (.iconst 0, 1) := by decide +kernel
theorem dX2_readHead_77 : decode cX2_readHead 77 = .ok (.ireturn, 1) := by decide +kernel
theorem dX2_readHead_78 : decode cX2_readHead 78 = .ok (.aload_n 1, 1) := by decide +kernel
theorem dX2_readHead_79 : decode cX2_readHead 79 = .ok (.aload_n 0, 1) := by decide +kernel
theorem dX2_readHead_80 : decode cX2_readHead 80 = .ok (.getfield 66, 3) := by decide +kernel
theorem dX2_readHead_83 : decode cX2_readHead 83 = .ok (.putfield 81, 3) := by decide +kernel
theorem dX2_readHead_86 : decode cX2_readHead 86 = .ok (.aload_n 0, 1) := by decide +kernel
theorem dX2_readHead_87 : decode cX2_readHead 87 = .ok (.iconst 1, 1) := by decide +kernel
theorem dX2_readHead_88 : decode cX2_readHead 88 = .ok (.bipush 6, 2) := by decide +kernel
theorem dX2_readHead_90 : decode cX2_readHead 90 = .ok (.invokevirtual 62, 3) := by decide +kernel
theorem dX2_readHead_93 : decode cX2_readHead 93 = .ok (.ifCond .ne 5, 3) := by decide +kernel
theorem dX2_readHead_96 : decode cX2_readHead 96 = .ok (.iconst 0, 1) := by decide +kernel
theorem dX2_readHead_97 : decode cX2_readHead 97 = .ok (.ireturn, 1) := by decide +kernel
theorem dX2_readHead_98 : decode cX2_readHead 98 = .ok (.aload_n 1, 1) := by decide +kernel
theorem dX2_readHead_99 : decode cX2_readHead 99 = .ok (.aload_n 0, 1) := by decide +kernel
theorem dX2_readHead_100 : decode cX2_readHead 100 = .ok (.getfield 66, 3) := by decide +kernel
theorem dX2_readHead_103 : decode cX2_readHead 103 = .ok (.putfield 84, 3) := by decide +kernel
theorem dX2_readHead_106 : decode cX2_readHead 106 = .ok (.aload_n 0, 1) := by decide +kernel
theorem dX2_readHead_107 : decode cX2_readHead 107 = .ok (.iconst 4, 1) := by decide +kernel
theorem dX2_readHead_108 : decode cX2_readHead 108 = .ok (.invokevirtual 75, 3) := by decide +kernel
theorem dX2_readHead_111 : decode cX2_readHead 111 = .ok (.ireturn, 1) := by decide +kernel
def mX2_readHead : MM := (yX2_readHead, cX2_readHead, 2, Option.some Jvm.ClassFile.FieldType.boolean, { frames := 7, cells := 0, slots := 0, locals := 193 })
def fX2_readHead (σ : SS) (a1 : Nat) : Option (Bool × SS) :=
  bnd (fX2_takeWord σ 0) fun b2 σ4 =>
  if b2 = true then (
    bnd (fX2_takeNumber σ4 (4 : Int32) (40 : Int32)) fun b6 σ8 =>
    if b6 = true then (
      vthen (sI σ8 a1 1 (gI σ8 26 6)) fun σ9 =>
      bnd (fX2_takeNumber σ9 (4 : Int32) (40 : Int32)) fun b11 σ13 =>
      if b11 = true then (
        vthen (sI σ13 a1 2 (gI σ13 26 6)) fun σ14 =>
        bnd (fX2_takeSign σ14 (4 : Int32)) fun b16 σ18 =>
        if b16 = true then (
          bnd (fX2_takeWord σ18 1) fun b20 σ22 =>
          if b20 = true then (
            bnd (fX2_takeNumber σ22 (1 : Int32) (6 : Int32)) fun b24 σ26 =>
            if b24 = true then (
              vthen (sI σ26 a1 3 (gI σ26 26 6)) fun σ27 =>
              bnd (fX2_takeNumber σ27 (1 : Int32) (6 : Int32)) fun b29 σ31 =>
              if b29 = true then (
                vthen (sI σ31 a1 4 (gI σ31 26 6)) fun σ32 =>
                bnd (fX2_takeSign σ32 (4 : Int32)) fun b34 σ36 =>
                some (b34, σ36)
                ) else (
                some (false, σ31)
                )
              ) else (
              some (false, σ26)
              )
            ) else (
            some (false, σ22)
            )
          ) else (
          some (false, σ18)
          )
        ) else (
        some (false, σ13)
        )
      ) else (
      some (false, σ8)
      )
    ) else (
    some (false, σ4)
    )

set_option maxRecDepth 20000 in
theorem sX2_readHead {g : GG} {σ : SS} {a1 : Nat} {r : Bool × SS} (hr : fX2_readHead σ a1 = some r) (hs1 : shp a1 = (1, 0)) : Ct g mX2_readHead [.ref (ad g 26), .ref (ad g a1)] NF σ (some (.int (b2i r.1))) NF r.2 := by
  refine Ct.of (by decide +kernel) (nle rfl) fun hw0 => ?_
  have hw := hw0 rfl
  unfold fX2_readHead at hr
  change RR g mX2_readHead (FinR g mX2_readHead (some (.int (b2i r.1))) NF r.2) zF 0 [(0, .ref (ad g 26)), (1, .ref (ad g a1))] [] σ
  refine r_aload_n (pc := 0) (j := 0) dX2_readHead_0 rfl rfl ?_
  refine r_ldcs (pc := 1) 0 (by decide) rfl dX2_readHead_1 ?_
  obtain ⟨b2, σ4, eσ4, hr⟩ := bnd_inv hr
  refine kX2_takeWord (pc := 3) eσ4 (by decide) tw_2_194 ⟨nle rfl, nle rfl⟩ (nle rfl) dX2_readHead_3 fun hσ4 => ?_
  refine r_ifB_eq (pc := 6) (tgt := 19) dX2_readHead_6 rfl (fun hc => ?_) (fun hc => ?_)
  · replace hr := ite_f hc hr
    refine r_iconst (pc := 19) (v := (0 : Int32)) dX2_readHead_19 rfl ?_
    exact l_osz hr (r_zret (pc := 20) (v := b2i false) (ty := .boolean) rfl (b2i_nar _) rfl ⟨Nat.le_refl _, Nat.le_refl _⟩ dX2_readHead_20)
  replace hr := ite_t hc hr
  refine r_aload_n (pc := 9) (j := 0) dX2_readHead_9 rfl rfl ?_
  refine r_iconst (pc := 10) (v := (4 : Int32)) dX2_readHead_10 rfl ?_
  refine r_bipush (pc := 11) (v := (40 : Int32)) dX2_readHead_11 rfl ?_
  obtain ⟨b6, σ8, eσ8, hr⟩ := bnd_inv hr
  refine kX2_takeNumber (pc := 13) eσ8 tw_3_14 ⟨nle rfl, nle rfl⟩ (nle rfl) dX2_readHead_13 fun hσ8 => ?_
  refine r_ifB_ne (pc := 16) (tgt := 21) dX2_readHead_16 rfl (fun hc => ?_) (fun hc => ?_)
  · replace hr := ite_t hc hr
    refine r_aload_n (pc := 21) (j := 1) dX2_readHead_21 rfl rfl ?_
    refine r_aload_n (pc := 22) (j := 0) dX2_readHead_22 rfl rfl ?_
    refine gf2_6 (pc := 23) tw_1_152 rfl dX2_readHead_23 ?_
    refine pf1_1 (pc := 26) tw_1_63 hs1 dX2_readHead_26 fun σ9 eσ9 => ?_
    replace hr := vthen_inv hr σ9 eσ9
    have hσ9 := wtI eσ9 hσ8
    refine r_aload_n (pc := 29) (j := 0) dX2_readHead_29 rfl rfl ?_
    refine r_iconst (pc := 30) (v := (4 : Int32)) dX2_readHead_30 rfl ?_
    refine r_bipush (pc := 31) (v := (40 : Int32)) dX2_readHead_31 rfl ?_
    obtain ⟨b11, σ13, eσ13, hr⟩ := bnd_inv hr
    refine kX2_takeNumber (pc := 33) eσ13 tw_3_14 ⟨nle rfl, nle rfl⟩ (nle rfl) dX2_readHead_33 fun hσ13 => ?_
    refine r_ifB_ne (pc := 36) (tgt := 41) dX2_readHead_36 rfl (fun hc => ?_) (fun hc => ?_)
    · replace hr := ite_t hc hr
      refine r_aload_n (pc := 41) (j := 1) dX2_readHead_41 rfl rfl ?_
      refine r_aload_n (pc := 42) (j := 0) dX2_readHead_42 rfl rfl ?_
      refine gf2_6 (pc := 43) tw_1_152 rfl dX2_readHead_43 ?_
      refine pf1_2 (pc := 46) tw_1_67 hs1 dX2_readHead_46 fun σ14 eσ14 => ?_
      replace hr := vthen_inv hr σ14 eσ14
      have hσ14 := wtI eσ14 hσ13
      refine r_aload_n (pc := 49) (j := 0) dX2_readHead_49 rfl rfl ?_
      refine r_iconst (pc := 50) (v := (4 : Int32)) dX2_readHead_50 rfl ?_
      obtain ⟨b16, σ18, eσ18, hr⟩ := bnd_inv hr
      refine kX2_takeSign (pc := 51) eσ18 tw_3_22 ⟨nle rfl, nle rfl⟩ (nle rfl) dX2_readHead_51 fun hσ18 => ?_
      refine r_ifB_eq (pc := 54) (tgt := 76) dX2_readHead_54 rfl (fun hc => ?_) (fun hc => ?_)
      · replace hr := ite_f hc hr
        refine r_iconst (pc := 76) (v := (0 : Int32)) dX2_readHead_76 rfl ?_
        exact l_osz hr (r_zret (pc := 77) (v := b2i false) (ty := .boolean) rfl (b2i_nar _) rfl ⟨Nat.le_refl _, Nat.le_refl _⟩ dX2_readHead_77)
      replace hr := ite_t hc hr
      refine r_aload_n (pc := 57) (j := 0) dX2_readHead_57 rfl rfl ?_
      refine r_ldcs (pc := 58) 1 (by decide) rfl dX2_readHead_58 ?_
      obtain ⟨b20, σ22, eσ22, hr⟩ := bnd_inv hr
      refine kX2_takeWord (pc := 60) eσ22 (by decide) tw_2_194 ⟨nle rfl, nle rfl⟩ (nle rfl) dX2_readHead_60 fun hσ22 => ?_
      refine r_ifB_eq (pc := 63) (tgt := 76) dX2_readHead_63 rfl (fun hc => ?_) (fun hc => ?_)
      · replace hr := ite_f hc hr
        refine r_iconst (pc := 76) (v := (0 : Int32)) dX2_readHead_76 rfl ?_
        exact l_osz hr (r_zret (pc := 77) (v := b2i false) (ty := .boolean) rfl (b2i_nar _) rfl ⟨Nat.le_refl _, Nat.le_refl _⟩ dX2_readHead_77)
      replace hr := ite_t hc hr
      refine r_aload_n (pc := 66) (j := 0) dX2_readHead_66 rfl rfl ?_
      refine r_iconst (pc := 67) (v := (1 : Int32)) dX2_readHead_67 rfl ?_
      refine r_bipush (pc := 68) (v := (6 : Int32)) dX2_readHead_68 rfl ?_
      obtain ⟨b24, σ26, eσ26, hr⟩ := bnd_inv hr
      refine kX2_takeNumber (pc := 70) eσ26 tw_3_14 ⟨nle rfl, nle rfl⟩ (nle rfl) dX2_readHead_70 fun hσ26 => ?_
      refine r_ifB_ne (pc := 73) (tgt := 78) dX2_readHead_73 rfl (fun hc => ?_) (fun hc => ?_)
      · replace hr := ite_t hc hr
        refine r_aload_n (pc := 78) (j := 1) dX2_readHead_78 rfl rfl ?_
        refine r_aload_n (pc := 79) (j := 0) dX2_readHead_79 rfl rfl ?_
        refine gf2_6 (pc := 80) tw_1_152 rfl dX2_readHead_80 ?_
        refine pf1_3 (pc := 83) tw_1_71 hs1 dX2_readHead_83 fun σ27 eσ27 => ?_
        replace hr := vthen_inv hr σ27 eσ27
        have hσ27 := wtI eσ27 hσ26
        refine r_aload_n (pc := 86) (j := 0) dX2_readHead_86 rfl rfl ?_
        refine r_iconst (pc := 87) (v := (1 : Int32)) dX2_readHead_87 rfl ?_
        refine r_bipush (pc := 88) (v := (6 : Int32)) dX2_readHead_88 rfl ?_
        obtain ⟨b29, σ31, eσ31, hr⟩ := bnd_inv hr
        refine kX2_takeNumber (pc := 90) eσ31 tw_3_14 ⟨nle rfl, nle rfl⟩ (nle rfl) dX2_readHead_90 fun hσ31 => ?_
        refine r_ifB_ne (pc := 93) (tgt := 98) dX2_readHead_93 rfl (fun hc => ?_) (fun hc => ?_)
        · replace hr := ite_t hc hr
          refine r_aload_n (pc := 98) (j := 1) dX2_readHead_98 rfl rfl ?_
          refine r_aload_n (pc := 99) (j := 0) dX2_readHead_99 rfl rfl ?_
          refine gf2_6 (pc := 100) tw_1_152 rfl dX2_readHead_100 ?_
          refine pf1_4 (pc := 103) tw_1_75 hs1 dX2_readHead_103 fun σ32 eσ32 => ?_
          replace hr := vthen_inv hr σ32 eσ32
          have hσ32 := wtI eσ32 hσ31
          refine r_aload_n (pc := 106) (j := 0) dX2_readHead_106 rfl rfl ?_
          refine r_iconst (pc := 107) (v := (4 : Int32)) dX2_readHead_107 rfl ?_
          obtain ⟨b34, σ36, eσ36, hr⟩ := bnd_inv hr
          refine kX2_takeSign (pc := 108) eσ36 tw_3_22 ⟨nle rfl, nle rfl⟩ (nle rfl) dX2_readHead_108 fun hσ36 => ?_
          exact l_osz hr (r_zret (pc := 111) (v := b2i b34) (ty := .boolean) rfl (b2i_nar _) rfl ⟨Nat.le_refl _, Nat.le_refl _⟩ dX2_readHead_111)
        replace hr := ite_f hc hr
        refine r_iconst (pc := 96) (v := (0 : Int32)) dX2_readHead_96 rfl ?_
        exact l_osz hr (r_zret (pc := 97) (v := b2i false) (ty := .boolean) rfl (b2i_nar _) rfl ⟨Nat.le_refl _, Nat.le_refl _⟩ dX2_readHead_97)
      replace hr := ite_f hc hr
      refine r_iconst (pc := 76) (v := (0 : Int32)) dX2_readHead_76 rfl ?_
      exact l_osz hr (r_zret (pc := 77) (v := b2i false) (ty := .boolean) rfl (b2i_nar _) rfl ⟨Nat.le_refl _, Nat.le_refl _⟩ dX2_readHead_77)
    replace hr := ite_f hc hr
    refine r_iconst (pc := 39) (v := (0 : Int32)) dX2_readHead_39 rfl ?_
    exact l_osz hr (r_zret (pc := 40) (v := b2i false) (ty := .boolean) rfl (b2i_nar _) rfl ⟨Nat.le_refl _, Nat.le_refl _⟩ dX2_readHead_40)
  replace hr := ite_f hc hr
  refine r_iconst (pc := 19) (v := (0 : Int32)) dX2_readHead_19 rfl ?_
  exact l_osz hr (r_zret (pc := 20) (v := b2i false) (ty := .boolean) rfl (b2i_nar _) rfl ⟨Nat.le_refl _, Nat.le_refl _⟩ dX2_readHead_20)

theorem kX2_readHead {g : GG} {σ : SS} {a1 : Nat} {v : Bool} {σ2 : SS} {M : MM} {F : State → Array Value → List Frame → State → Prop} {pc index : Nat} {ls : List (Nat × Value)} {rest : List Value} (hf : fX2_readHead σ a1 = some (v, σ2)) (hs1 : shp a1 = (1, 0)) (hl : Cond.methodLink M.1.cls index yX2_readHead ∈ lw_gt) (hR : mX2_readHead.2.2.2.2.frames + 1 ≤ M.2.2.2.2.frames ∧ 8 + (mX2_readHead.2.2.1 + 11) + mX2_readHead.2.2.2.2.locals ≤ M.2.2.2.2.locals) (hrest : (rest.map fun v => v.category).sum ≤ 8) (hd : decode M.2.1 pc = .ok (.invokevirtual index, 3)) (k : WT σ2 → RR g M F zF (pc + 3) ls (.int (b2i v) :: rest) σ2) : RR g M F zF pc ls (.ref (ad g a1) :: .ref (ad g 26) :: rest) σ :=
  r_callV (z := zF) (N := mX2_readHead) (nn := 1) (o1 := some (.int (b2i v))) (sX2_readHead hf hs1) (rfl : shp 26 = (2, 0)) (by decide) (shp_le (rfl : shp 26 = (2, 0)) (nle rfl)) (ci := 2) rfl rfl tw_2_192 tw_1_4 hl tw_2_191 tp_3 ⟨by decide, by decide, rfl⟩ hR rfl hrest hd ⟨Nat.zero_le _, Nat.zero_le _⟩ rfl (fun h => k (h rfl))

theorem dX1_addQuestion_0 : decode cX1_addQuestion 0 = .ok (.aload_n 0, 1) := by decide +kernel
theorem dX1_addQuestion_1 : decode cX1_addQuestion 1 = .ok (.getfield 51, 3) := by decide +kernel
theorem dX1_addQuestion_4 : decode cX1_addQuestion 4 = .ok (.bipush 12, 2) := by decide +kernel
theorem dX1_addQuestion_6 : decode cX1_addQuestion 6 = .ok (.if_icmp .ge 66, 3) := by decide +kernel
theorem dX1_addQuestion_9 : decode cX1_addQuestion 9 = .ok (.aload_n 0, 1) := by decide +kernel
theorem dX1_addQuestion_10 : decode cX1_addQuestion 10 = .ok (.getfield 9, 3) := by decide +kernel
theorem dX1_addQuestion_13 : decode cX1_addQuestion 13 = .ok (.aload_n 0, 1) := by decide +kernel
theorem dX1_addQuestion_14 : decode cX1_addQuestion 14 = .ok (.getfield 51, 3) := by decide +kernel
theorem dX1_addQuestion_17 : decode cX1_addQuestion 17 = .ok (.iload_n 1, 1) := by decide +kernel
theorem dX1_addQuestion_18 : decode cX1_addQuestion 18 = .ok (.bastore, 1) := by decide +kernel
theorem dX1_addQuestion_19 : decode cX1_addQuestion 19 = .ok (.aload_n 0, 1) := by decide +kernel
theorem dX1_addQuestion_20 : decode cX1_addQuestion 20 = .ok (.getfield 15, 3) := by decide +kernel
theorem dX1_addQuestion_23 : decode cX1_addQuestion 23 = .ok (.aload_n 0, 1) := by decide +kernel
theorem dX1_addQuestion_24 : decode cX1_addQuestion 24 = .ok (.getfield 51, 3) := by decide +kernel
theorem dX1_addQuestion_27 : decode cX1_addQuestion 27 = .ok (.aload_n 0, 1) := by decide +kernel
theorem dX1_addQuestion_28 : decode cX1_addQuestion 28 = .ok (.getfield 54, 3) := by decide +kernel
theorem dX1_addQuestion_31 : decode cX1_addQuestion 31 = .ok (.iastore, 1) := by decide +kernel
theorem dX1_addQuestion_32 : decode cX1_addQuestion 32 = .ok (.aload_n 0, 1) := by decide +kernel
theorem dX1_addQuestion_33 : decode cX1_addQuestion 33 = .ok (.getfield 19, 3) := by decide +kernel
theorem dX1_addQuestion_36 : decode cX1_addQuestion 36 = .ok (.aload_n 0, 1) := by decide +kernel
theorem dX1_addQuestion_37 : decode cX1_addQuestion 37 = .ok (.getfield 51, 3) := by decide +kernel
theorem dX1_addQuestion_40 : decode cX1_addQuestion 40 = .ok (.iconst 0, 1) := by decide +kernel
theorem dX1_addQuestion_41 : decode cX1_addQuestion 41 = .ok (.iastore, 1) := by decide +kernel
theorem dX1_addQuestion_42 : decode cX1_addQuestion 42 = .ok (.aload_n 0, 1) := by decide +kernel
theorem dX1_addQuestion_43 : decode cX1_addQuestion 43 = .ok (.getfield 22, 3) := by decide +kernel
theorem dX1_addQuestion_46 : decode cX1_addQuestion 46 = .ok (.aload_n 0, 1) := by decide +kernel
theorem dX1_addQuestion_47 : decode cX1_addQuestion 47 = .ok (.getfield 51, 3) := by decide +kernel
theorem dX1_addQuestion_50 : decode cX1_addQuestion 50 = .ok (.iconst 0, 1) := by decide +kernel
theorem dX1_addQuestion_51 : decode cX1_addQuestion 51 = .ok (.iastore, 1) := by decide +kernel
theorem dX1_addQuestion_52 : decode cX1_addQuestion 52 = .ok (.aload_n 0, 1) := by decide +kernel
theorem dX1_addQuestion_53 : decode cX1_addQuestion 53 = .ok (.getfield 25, 3) := by decide +kernel
theorem dX1_addQuestion_56 : decode cX1_addQuestion 56 = .ok (.aload_n 0, 1) := by decide +kernel
theorem dX1_addQuestion_57 : decode cX1_addQuestion 57 = .ok (.getfield 51, 3) := by decide +kernel
theorem dX1_addQuestion_60 : decode cX1_addQuestion 60 = .ok (.iconst 1, 1) := by decide +kernel
theorem dX1_addQuestion_61 : decode cX1_addQuestion 61 = .ok (.iastore, 1) := by decide +kernel
theorem dX1_addQuestion_62 : decode cX1_addQuestion 62 = .ok (.aload_n 0, 1) := by decide +kernel
theorem dX1_addQuestion_63 : decode cX1_addQuestion 63 = .ok (.dup, 1) := by decide +kernel
theorem dX1_addQuestion_64 : decode cX1_addQuestion 64 = .ok (.getfield 51, 3) := by decide +kernel
theorem dX1_addQuestion_67 : decode cX1_addQuestion 67 = .ok (.iconst 1, 1) := by decide +kernel
theorem dX1_addQuestion_68 : decode cX1_addQuestion 68 = .ok (.iadd, 1) := by decide +kernel
theorem dX1_addQuestion_69 : decode cX1_addQuestion 69 = .ok (.putfield 51, 3) := by decide +kernel
theorem dX1_addQuestion_72 : decode cX1_addQuestion 72 = .ok (.return_, 1) := by decide +kernel
def mX1_addQuestion : MM := (yX1_addQuestion, cX1_addQuestion, 2, none, { frames := 0, cells := 0, slots := 0, locals := 0 })
def fX1_addQuestion (σ : SS) (a0 : Nat) (a1 : Bool) : Option SS :=
  if (12 : Int32) ≤ (gI σ a0 5) then (
    some σ
    ) else (
    grd (inb (gI σ a0 5) 12) <|
    vthen (sI σ (a0 + 1) (Int32.toNatClampNeg (gI σ a0 5)) (b2i a1)) fun σ2 =>
    grd (inb (gI σ2 a0 5) 12) <|
    vthen (sI σ2 (a0 + 2) (Int32.toNatClampNeg (gI σ2 a0 5)) (gI σ2 a0 6)) fun σ4 =>
    grd (inb (gI σ4 a0 5) 12) <|
    vthen (sI σ4 (a0 + 3) (Int32.toNatClampNeg (gI σ4 a0 5)) (0 : Int32)) fun σ6 =>
    grd (inb (gI σ6 a0 5) 12) <|
    vthen (sI σ6 (a0 + 4) (Int32.toNatClampNeg (gI σ6 a0 5)) (0 : Int32)) fun σ8 =>
    grd (inb (gI σ8 a0 5) 12) <|
    vthen (sI σ8 (a0 + 5) (Int32.toNatClampNeg (gI σ8 a0 5)) (1 : Int32)) fun σ10 =>
    vthen (sI σ10 a0 5 ((gI σ10 a0 5) + (1 : Int32))) fun σ11 =>
    some σ11
    )

set_option maxRecDepth 20000 in
theorem sX1_addQuestion {g : GG} {σ : SS} {a0 : Nat} {a1 : Bool} {r : SS} (hr : fX1_addQuestion σ a0 a1 = some r) (hs0 : shp a0 = (1, 0)) : Ct g mX1_addQuestion [.ref (ad g a0), .int (b2i a1)] NF σ none NF r := by
  refine Ct.of (by decide +kernel) (nle rfl) fun hw0 => ?_
  have hw := hw0 rfl
  unfold fX1_addQuestion at hr
  change RR g mX1_addQuestion (FinR g mX1_addQuestion none NF r) zF 0 [(0, .ref (ad g a0)), (1, .int (b2i a1))] [] σ
  refine r_aload_n (pc := 0) (j := 0) dX1_addQuestion_0 rfl rfl ?_
  refine gf1_5 (pc := 1) tw_1_78 hs0 dX1_addQuestion_1 ?_
  refine r_bipush (pc := 4) (v := (12 : Int32)) dX1_addQuestion_4 rfl ?_
  refine r_icmp_ge (pc := 6) (tgt := 72) dX1_addQuestion_6 rfl (fun hc => ?_) (fun hc => ?_)
  · replace hr := ite_t hc hr
    exact l_ov hr (r_vret (pc := 72) rfl rfl ⟨Nat.le_refl _, Nat.le_refl _⟩ dX1_addQuestion_72)
  replace hr := ite_f hc hr
  refine r_aload_n (pc := 9) (j := 0) dX1_addQuestion_9 rfl rfl ?_
  refine gf1_7 (pc := 10) tw_1_85 hw hs0 dX1_addQuestion_10 ?_
  refine r_aload_n (pc := 13) (j := 0) dX1_addQuestion_13 rfl rfl ?_
  refine gf1_5 (pc := 14) tw_1_78 hs0 dX1_addQuestion_14 ?_
  refine r_iload_n (pc := 17) (j := 1) dX1_addQuestion_17 rfl rfl ?_
  obtain ⟨h1, hr⟩ := grd_inv hr
  refine x_zast (pc := 18) (j := (Int32.toNatClampNeg (gI σ a0 5))) (sh1_7 hs0) h1 rfl (isb_b2i _) dX1_addQuestion_18 fun σ2 eσ2 => ?_
  replace hr := vthen_inv hr σ2 eσ2
  have hσ2 := wtI eσ2 hw
  refine r_aload_n (pc := 19) (j := 0) dX1_addQuestion_19 rfl rfl ?_
  refine gf1_8 (pc := 20) tw_1_88 hσ2 hs0 dX1_addQuestion_20 ?_
  refine r_aload_n (pc := 23) (j := 0) dX1_addQuestion_23 rfl rfl ?_
  refine gf1_5 (pc := 24) tw_1_78 hs0 dX1_addQuestion_24 ?_
  refine r_aload_n (pc := 27) (j := 0) dX1_addQuestion_27 rfl rfl ?_
  refine gf1_6 (pc := 28) tw_1_82 hs0 dX1_addQuestion_28 ?_
  obtain ⟨h3, hr⟩ := grd_inv hr
  refine x_iast (pc := 31) (j := (Int32.toNatClampNeg (gI σ2 a0 5))) (sh1_8 hs0) h3 rfl dX1_addQuestion_31 fun σ4 eσ4 => ?_
  replace hr := vthen_inv hr σ4 eσ4
  have hσ4 := wtI eσ4 hσ2
  refine r_aload_n (pc := 32) (j := 0) dX1_addQuestion_32 rfl rfl ?_
  refine gf1_9 (pc := 33) tw_1_91 hσ4 hs0 dX1_addQuestion_33 ?_
  refine r_aload_n (pc := 36) (j := 0) dX1_addQuestion_36 rfl rfl ?_
  refine gf1_5 (pc := 37) tw_1_78 hs0 dX1_addQuestion_37 ?_
  refine r_iconst (pc := 40) (v := (0 : Int32)) dX1_addQuestion_40 rfl ?_
  obtain ⟨h5, hr⟩ := grd_inv hr
  refine x_iast (pc := 41) (j := (Int32.toNatClampNeg (gI σ4 a0 5))) (sh1_9 hs0) h5 rfl dX1_addQuestion_41 fun σ6 eσ6 => ?_
  replace hr := vthen_inv hr σ6 eσ6
  have hσ6 := wtI eσ6 hσ4
  refine r_aload_n (pc := 42) (j := 0) dX1_addQuestion_42 rfl rfl ?_
  refine gf1_10 (pc := 43) tw_1_95 hσ6 hs0 dX1_addQuestion_43 ?_
  refine r_aload_n (pc := 46) (j := 0) dX1_addQuestion_46 rfl rfl ?_
  refine gf1_5 (pc := 47) tw_1_78 hs0 dX1_addQuestion_47 ?_
  refine r_iconst (pc := 50) (v := (0 : Int32)) dX1_addQuestion_50 rfl ?_
  obtain ⟨h7, hr⟩ := grd_inv hr
  refine x_iast (pc := 51) (j := (Int32.toNatClampNeg (gI σ6 a0 5))) (sh1_10 hs0) h7 rfl dX1_addQuestion_51 fun σ8 eσ8 => ?_
  replace hr := vthen_inv hr σ8 eσ8
  have hσ8 := wtI eσ8 hσ6
  refine r_aload_n (pc := 52) (j := 0) dX1_addQuestion_52 rfl rfl ?_
  refine gf1_11 (pc := 53) tw_1_100 hσ8 hs0 dX1_addQuestion_53 ?_
  refine r_aload_n (pc := 56) (j := 0) dX1_addQuestion_56 rfl rfl ?_
  refine gf1_5 (pc := 57) tw_1_78 hs0 dX1_addQuestion_57 ?_
  refine r_iconst (pc := 60) (v := (1 : Int32)) dX1_addQuestion_60 rfl ?_
  obtain ⟨h9, hr⟩ := grd_inv hr
  refine x_iast (pc := 61) (j := (Int32.toNatClampNeg (gI σ8 a0 5))) (sh1_11 hs0) h9 rfl dX1_addQuestion_61 fun σ10 eσ10 => ?_
  replace hr := vthen_inv hr σ10 eσ10
  have hσ10 := wtI eσ10 hσ8
  refine r_aload_n (pc := 62) (j := 0) dX1_addQuestion_62 rfl rfl ?_
  refine r_dup (pc := 63) dX1_addQuestion_63 rfl ?_
  refine gf1_5 (pc := 64) tw_1_78 hs0 dX1_addQuestion_64 ?_
  refine r_iconst (pc := 67) (v := (1 : Int32)) dX1_addQuestion_67 rfl ?_
  refine r_iadd (pc := 68) dX1_addQuestion_68 ?_
  refine pf1_5 (pc := 69) tw_1_78 hs0 dX1_addQuestion_69 fun σ11 eσ11 => ?_
  replace hr := vthen_inv hr σ11 eσ11
  have hσ11 := wtI eσ11 hσ10
  exact l_ov hr (r_vret (pc := 72) rfl rfl ⟨Nat.le_refl _, Nat.le_refl _⟩ dX1_addQuestion_72)

theorem kX1_addQuestion {g : GG} {σ : SS} {a0 : Nat} {a1 : Bool} {σ2 : SS} {M : MM} {F : State → Array Value → List Frame → State → Prop} {pc index : Nat} {ls : List (Nat × Value)} {rest : List Value} (hf : fX1_addQuestion σ a0 a1 = some σ2) (hs0 : shp a0 = (1, 0)) (hl : Cond.methodLink M.1.cls index yX1_addQuestion ∈ lw_gt) (hR : mX1_addQuestion.2.2.2.2.frames + 1 ≤ M.2.2.2.2.frames ∧ 8 + (mX1_addQuestion.2.2.1 + 11) + mX1_addQuestion.2.2.2.2.locals ≤ M.2.2.2.2.locals) (hrest : (rest.map fun v => v.category).sum ≤ 8) (hd : decode M.2.1 pc = .ok (.invokevirtual index, 3)) (k : WT σ2 → RR g M F zF (pc + 3) ls rest σ2) : RR g M F zF pc ls (.int (b2i a1) :: .ref (ad g a0) :: rest) σ :=
  r_callV (z := zF) (N := mX1_addQuestion) (nn := 1) (o1 := none) (sX1_addQuestion hf hs0) hs0 (by decide) (shp_le hs0 (nle rfl)) (ci := 1) rfl rfl tw_3_36 tw_1_3 hl tw_3_34 tw_3_35 ⟨by decide, by decide, rfl⟩ hR rfl hrest hd ⟨Nat.zero_le _, Nat.zero_le _⟩ rfl (fun h => k (h rfl))

theorem dX1_isCovered_0 : decode cX1_isCovered 0 = .ok (.iconst 0, 1) := by decide +kernel
theorem dX1_isCovered_1 : decode cX1_isCovered 1 = .ok (.istore_n 3, 1) := by decide +kernel
theorem dX1_isCovered_2 : decode cX1_isCovered 2 = .ok (.iload_n 3, 1) := by decide +kernel
theorem dX1_isCovered_3 : decode cX1_isCovered 3 = .ok (.aload_n 0, 1) := by decide +kernel
theorem dX1_isCovered_4 : decode cX1_isCovered 4 = .ok (.getfield 54, 3) := by decide +kernel
theorem dX1_isCovered_7 : decode cX1_isCovered 7 = .ok (.if_icmp .ge 47, 3) := by decide +kernel
theorem dX1_isCovered_10 : decode cX1_isCovered 10 = .ok (.aload_n 0, 1) := by decide +kernel
theorem dX1_isCovered_11 : decode cX1_isCovered 11 = .ok (.getfield 28, 3) := by decide +kernel
theorem dX1_isCovered_14 : decode cX1_isCovered 14 = .ok (.iload_n 3, 1) := by decide +kernel
theorem dX1_isCovered_15 : decode cX1_isCovered 15 = .ok (.iaload, 1) := by decide +kernel
theorem dX1_isCovered_16 : decode cX1_isCovered 16 = .ok (.iload_n 1, 1) := by decide +kernel
theorem dX1_isCovered_17 : decode cX1_isCovered 17 = .ok (.isub, 1) := by decide +kernel
theorem dX1_isCovered_18 : decode cX1_isCovered 18 = .ok (.invokestatic 61, 3) := by decide +kernel
theorem dX1_isCovered_21 : decode cX1_isCovered 21 = .ok (.aload_n 0, 1) := by decide +kernel
theorem dX1_isCovered_22 : decode cX1_isCovered 22 = .ok (.getfield 45, 3) := by decide +kernel
theorem dX1_isCovered_25 : decode cX1_isCovered 25 = .ok (.if_icmp .ge 23, 3) := by decide +kernel
theorem dX1_isCovered_28 : decode cX1_isCovered 28 = .ok (.aload_n 0, 1) := by decide +kernel
theorem dX1_isCovered_29 : decode cX1_isCovered 29 = .ok (.getfield 31, 3) := by decide +kernel
theorem dX1_isCovered_32 : decode cX1_isCovered 32 = .ok (.iload_n 3, 1) := by decide +kernel
theorem dX1_isCovered_33 : decode cX1_isCovered 33 = .ok (.iaload, 1) := by decide +kernel
theorem dX1_isCovered_34 : decode cX1_isCovered 34 = .ok (.iload_n 2, 1) := by decide +kernel
theorem dX1_isCovered_35 : decode cX1_isCovered 35 = .ok (.isub, 1) := by decide +kernel
theorem dX1_isCovered_36 : decode cX1_isCovered 36 = .ok (.invokestatic 61, 3) := by decide +kernel
theorem dX1_isCovered_39 : decode cX1_isCovered 39 = .ok (.aload_n 0, 1) := by decide +kernel
theorem dX1_isCovered_40 : decode cX1_isCovered 40 = .ok (.getfield 48, 3) := by decide +kernel
theorem dX1_isCovered_43 : decode cX1_isCovered 43 = .ok (.if_icmp .ge 5, 3) := by decide +kernel
theorem dX1_isCovered_46 : decode cX1_isCovered 46 = .ok (.iconst 1, 1) := by decide +kernel
theorem dX1_isCovered_47 : decode cX1_isCovered 47 = .ok (.ireturn, 1) := by decide +kernel
theorem dX1_isCovered_48 : decode cX1_isCovered 48 = .ok (.iinc 3 1, 3) := by decide +kernel
theorem dX1_isCovered_51 : decode cX1_isCovered 51 = .ok (.goto (-49), 3) := by decide +kernel
theorem dX1_isCovered_54 : decode cX1_isCovered 54 = .ok (.iconst 0, 1) := by decide +kernel
theorem dX1_isCovered_55 : decode cX1_isCovered 55 = .ok (.ireturn, 1) := by decide +kernel
def mX1_isCovered : MM := (yX1_isCovered, cX1_isCovered, 4, Option.some Jvm.ClassFile.FieldType.boolean, { frames := 1, cells := 0, slots := 0, locals := 21 })
def X1_isCovered_L2 (σ_ : SS) (o0_ : Nat) (u1_ : Int32) (u2_ : Int32)  : Nat → Int32 → Option Bool :=
  lp (fun _ => none) fun rec v3_ =>
    if (gI σ_ o0_ 6) ≤ v3_ then (
      some false
      ) else (
      grd (inb v3_ 72) <|
      if (gI σ_ o0_ 3) ≤ (fJ9_abs_0f7a4 σ_ ((gI σ_ (o0_ + 6) (Int32.toNatClampNeg v3_)) - u1_)) then (
        rec (v3_ + (1 : Int32))
        ) else (
        if (gI σ_ o0_ 4) ≤ (fJ9_abs_0f7a4 σ_ ((gI σ_ (o0_ + 7) (Int32.toNatClampNeg v3_)) - u2_)) then (
          rec (v3_ + (1 : Int32))
          ) else (
          some true
          )
        )
      )

def fX1_isCovered (σ0 : SS) (a0 : Nat) (a1 : Int32) (a2 : Int32) : Option Bool :=
  X1_isCovered_L2 σ0 a0 a1 a2
  fuel (0 : Int32)

set_option maxRecDepth 20000 in
theorem sX1_isCovered_L2 {g : GG} {r : Bool} {σ_ : SS} {σ0 : SS} {o0_ : Nat} {u1_ : Int32} {u2_ : Int32}  (hs0_ : shp o0_ = (1, 0))
    (hw_ : WT σ_)
    (h0_ : σ_ = σ0)
    (n : Nat) : ∀ (v3_ : Int32), X1_isCovered_L2 σ_ o0_ u1_ u2_ n v3_ = some r → RR g mX1_isCovered (FinR g mX1_isCovered (some (.int (b2i r))) NF σ0) zF 2 [(0, .ref (ad g o0_)), (1, .int u1_), (2, .int u2_), (3, .int v3_)] [] σ_ := by
  unfold X1_isCovered_L2
  refine lp_ind (P := fun (rec : Int32 → Option Bool) => ∀ (v3_ : Int32), rec v3_ = some r → RR g mX1_isCovered (FinR g mX1_isCovered (some (.int (b2i r))) NF σ0) zF 2 [(0, .ref (ad g o0_)), (1, .int u1_), (2, .int u2_), (3, .int v3_)] [] σ_) ?_ ?_ n
  · intro v3_ hr; cases hr
  intro rec ih v3_ hr
  subst h0_
  refine r_iload_n (pc := 2) (j := 3) dX1_isCovered_2 rfl rfl ?_
  refine r_aload_n (pc := 3) (j := 0) dX1_isCovered_3 rfl rfl ?_
  refine gf1_6 (pc := 4) tw_1_82 hs0_ dX1_isCovered_4 ?_
  refine r_icmp_ge (pc := 7) (tgt := 54) dX1_isCovered_7 rfl (fun hc => ?_) (fun hc => ?_)
  · replace hr := ite_t hc hr
    refine r_iconst (pc := 54) (v := (0 : Int32)) dX1_isCovered_54 rfl ?_
    exact l_opz hr (r_zret (pc := 55) (v := b2i false) (ty := .boolean) rfl (b2i_nar _) rfl ⟨Nat.le_refl _, Nat.le_refl _⟩ dX1_isCovered_55)
  replace hr := ite_f hc hr
  refine r_aload_n (pc := 10) (j := 0) dX1_isCovered_10 rfl rfl ?_
  refine gf1_12 (pc := 11) tw_1_104 hw_ hs0_ dX1_isCovered_11 ?_
  refine r_iload_n (pc := 14) (j := 3) dX1_isCovered_14 rfl rfl ?_
  obtain ⟨h1, hr⟩ := grd_inv hr
  refine x_iald (pc := 15) (k := (Int32.toNatClampNeg v3_)) (sh1_12 hs0_) h1 rfl dX1_isCovered_15 ?_
  refine r_iload_n (pc := 16) (j := 1) dX1_isCovered_16 rfl rfl ?_
  refine r_isub (pc := 17) dX1_isCovered_17 ?_
  refine kJ9_abs_0f7a4 (pc := 18) (hf := rfl) tw_3_49 ⟨nle rfl, nle rfl⟩ (nle rfl) dX1_isCovered_18 ?_
  refine r_aload_n (pc := 21) (j := 0) dX1_isCovered_21 rfl rfl ?_
  refine gf1_3 (pc := 22) tw_1_70 hs0_ dX1_isCovered_22 ?_
  refine r_icmp_ge (pc := 25) (tgt := 48) dX1_isCovered_25 rfl (fun hc => ?_) (fun hc => ?_)
  · replace hr := ite_t hc hr
    refine r_iinc (pc := 48) (j := 3) (v := (v3_ + (1 : Int32))) (ls1 := [(3, .int (v3_ + (1 : Int32))), (0, .ref (ad g o0_)), (1, .int u1_), (2, .int u2_)]) dX1_isCovered_48 rfl rfl (nle rfl) rfl ?_
    refine r_goto (pc := 51) (tgt := 2) dX1_isCovered_51 rfl ?_
    exact r_pick (ls1 := [(0, .ref (ad g o0_)), (1, .int u1_), (2, .int u2_), (3, .int (v3_ + (1 : Int32)))]) [1, 2, 3, 0] rfl (ih (v3_ + (1 : Int32)) hr)
  replace hr := ite_f hc hr
  refine r_aload_n (pc := 28) (j := 0) dX1_isCovered_28 rfl rfl ?_
  refine gf1_13 (pc := 29) tw_1_107 hw_ hs0_ dX1_isCovered_29 ?_
  refine r_iload_n (pc := 32) (j := 3) dX1_isCovered_32 rfl rfl ?_
  refine x_iald (pc := 33) (k := (Int32.toNatClampNeg v3_)) (sh1_13 hs0_) h1 rfl dX1_isCovered_33 ?_
  refine r_iload_n (pc := 34) (j := 2) dX1_isCovered_34 rfl rfl ?_
  refine r_isub (pc := 35) dX1_isCovered_35 ?_
  refine kJ9_abs_0f7a4 (pc := 36) (hf := rfl) tw_3_49 ⟨nle rfl, nle rfl⟩ (nle rfl) dX1_isCovered_36 ?_
  refine r_aload_n (pc := 39) (j := 0) dX1_isCovered_39 rfl rfl ?_
  refine gf1_4 (pc := 40) tw_1_74 hs0_ dX1_isCovered_40 ?_
  refine r_icmp_ge (pc := 43) (tgt := 48) dX1_isCovered_43 rfl (fun hc => ?_) (fun hc => ?_)
  · replace hr := ite_t hc hr
    refine r_iinc (pc := 48) (j := 3) (v := (v3_ + (1 : Int32))) (ls1 := [(3, .int (v3_ + (1 : Int32))), (0, .ref (ad g o0_)), (1, .int u1_), (2, .int u2_)]) dX1_isCovered_48 rfl rfl (nle rfl) rfl ?_
    refine r_goto (pc := 51) (tgt := 2) dX1_isCovered_51 rfl ?_
    exact r_pick (ls1 := [(0, .ref (ad g o0_)), (1, .int u1_), (2, .int u2_), (3, .int (v3_ + (1 : Int32)))]) [1, 2, 3, 0] rfl (ih (v3_ + (1 : Int32)) hr)
  replace hr := ite_f hc hr
  refine r_iconst (pc := 46) (v := (1 : Int32)) dX1_isCovered_46 rfl ?_
  exact l_opz hr (r_zret (pc := 47) (v := b2i true) (ty := .boolean) rfl (b2i_nar _) rfl ⟨Nat.le_refl _, Nat.le_refl _⟩ dX1_isCovered_47)

set_option maxRecDepth 20000 in
theorem sX1_isCovered {g : GG} {σ0 : SS} {a0 : Nat} {a1 : Int32} {a2 : Int32} {r : Bool} (hr : fX1_isCovered σ0 a0 a1 a2 = some r) (hs0 : shp a0 = (1, 0)) : Ct g mX1_isCovered [.ref (ad g a0), .int a1, .int a2] NF σ0 (some (.int (b2i r))) NF σ0 := by
  refine Ct.of (by decide +kernel) (nle rfl) fun hw0 => ?_
  have hw := hw0 rfl
  unfold fX1_isCovered at hr
  change RR g mX1_isCovered (FinR g mX1_isCovered (some (.int (b2i r))) NF σ0) zF 0 [(0, .ref (ad g a0)), (1, .int a1), (2, .int a2)] [] σ0
  refine r_iconst (pc := 0) (v := (0 : Int32)) dX1_isCovered_0 rfl ?_
  refine r_istore_n (pc := 1) (ls1 := [(3, .int (0 : Int32)), (0, .ref (ad g a0)), (1, .int a1), (2, .int a2)]) dX1_isCovered_1 rfl (nle rfl) rfl ?_
  refine r_pick (ls1 := [(0, .ref (ad g a0)), (1, .int a1), (2, .int a2), (3, .int (0 : Int32))]) [1, 2, 3, 0] rfl ?_
  refine sX1_isCovered_L2 hs0 hw rfl  fuel (0 : Int32) hr

theorem kX1_isCovered {g : GG} {σ0 : SS} {a0 : Nat} {a1 : Int32} {a2 : Int32} {v : Bool} {M : MM} {F : State → Array Value → List Frame → State → Prop} {pc index : Nat} {ls : List (Nat × Value)} {rest : List Value} (hf : fX1_isCovered σ0 a0 a1 a2 = some v) (hs0 : shp a0 = (1, 0)) (hl : Cond.methodLink M.1.cls index yX1_isCovered ∈ lw_gt) (hR : mX1_isCovered.2.2.2.2.frames + 1 ≤ M.2.2.2.2.frames ∧ 8 + (mX1_isCovered.2.2.1 + 11) + mX1_isCovered.2.2.2.2.locals ≤ M.2.2.2.2.locals) (hrest : (rest.map fun v => v.category).sum ≤ 8) (hd : decode M.2.1 pc = .ok (.invokevirtual index, 3)) (k : RR g M F zF (pc + 3) ls (.int (b2i v) :: rest) σ0) : RR g M F zF pc ls (.int a2 :: .int a1 :: .ref (ad g a0) :: rest) σ0 :=
  r_callV (z := zF) (N := mX1_isCovered) (nn := 2) (o1 := some (.int (b2i v))) (sX1_isCovered hf hs0) hs0 (by decide) (shp_le hs0 (nle rfl)) (ci := 1) rfl rfl tw_3_48 tw_1_3 hl tw_3_46 tw_3_47 ⟨by decide, by decide, rfl⟩ hR rfl hrest hd ⟨Nat.zero_le _, Nat.zero_le _⟩ rfl (fun h => k)

theorem dX1_addBox_0 : decode cX1_addBox 0 = .ok (.aload_n 0, 1) := by decide +kernel
theorem dX1_addBox_1 : decode cX1_addBox 1 = .ok (.getfield 51, 3) := by decide +kernel
theorem dX1_addBox_4 : decode cX1_addBox 4 = .ok (.ifCond .le 57, 3) := by decide +kernel
theorem dX1_addBox_7 : decode cX1_addBox 7 = .ok (.aload_n 0, 1) := by decide +kernel
theorem dX1_addBox_8 : decode cX1_addBox 8 = .ok (.getfield 54, 3) := by decide +kernel
theorem dX1_addBox_11 : decode cX1_addBox 11 = .ok (.bipush 72, 2) := by decide +kernel
theorem dX1_addBox_13 : decode cX1_addBox 13 = .ok (.if_icmp .ge 48, 3) := by decide +kernel
theorem dX1_addBox_16 : decode cX1_addBox 16 = .ok (.aload_n 0, 1) := by decide +kernel
theorem dX1_addBox_17 : decode cX1_addBox 17 = .ok (.getfield 28, 3) := by decide +kernel
theorem dX1_addBox_20 : decode cX1_addBox 20 = .ok (.aload_n 0, 1) := by decide +kernel
theorem dX1_addBox_21 : decode cX1_addBox 21 = .ok (.getfield 54, 3) := by decide +kernel
theorem dX1_addBox_24 : decode cX1_addBox 24 = .ok (.iload_n 1, 1) := by decide +kernel
theorem dX1_addBox_25 : decode cX1_addBox 25 = .ok (.iastore, 1) := by decide +kernel
theorem dX1_addBox_26 : decode cX1_addBox 26 = .ok (.aload_n 0, 1) := by decide +kernel
theorem dX1_addBox_27 : decode cX1_addBox 27 = .ok (.getfield 31, 3) := by decide +kernel
theorem dX1_addBox_30 : decode cX1_addBox 30 = .ok (.aload_n 0, 1) := by decide +kernel
theorem dX1_addBox_31 : decode cX1_addBox 31 = .ok (.getfield 54, 3) := by decide +kernel
theorem dX1_addBox_34 : decode cX1_addBox 34 = .ok (.iload_n 2, 1) := by decide +kernel
theorem dX1_addBox_35 : decode cX1_addBox 35 = .ok (.iastore, 1) := by decide +kernel
theorem dX1_addBox_36 : decode cX1_addBox 36 = .ok (.aload_n 0, 1) := by decide +kernel
theorem dX1_addBox_37 : decode cX1_addBox 37 = .ok (.dup, 1) := by decide +kernel
theorem dX1_addBox_38 : decode cX1_addBox 38 = .ok (.getfield 54, 3) := by decide +kernel
theorem dX1_addBox_41 : decode cX1_addBox 41 = .ok (.iconst 1, 1) := by decide +kernel
theorem dX1_addBox_42 : decode cX1_addBox 42 = .ok (.iadd, 1) := by decide +kernel
theorem dX1_addBox_43 : decode cX1_addBox 43 = .ok (.putfield 54, 3) := by decide +kernel
theorem dX1_addBox_46 : decode cX1_addBox 46 = .ok (.aload_n 0, 1) := by decide +kernel
theorem dX1_addBox_47 : decode cX1_addBox 47 = .ok (.getfield 19, 3) := by decide +kernel
theorem dX1_addBox_50 : decode cX1_addBox 50 = .ok (.aload_n 0, 1) := by decide +kernel
theorem dX1_addBox_51 : decode cX1_addBox 51 = .ok (.getfield 51, 3) := by decide +kernel
theorem dX1_addBox_54 : decode cX1_addBox 54 = .ok (.iconst 1, 1) := by decide +kernel
theorem dX1_addBox_55 : decode cX1_addBox 55 = .ok (.isub, 1) := by decide +kernel
theorem dX1_addBox_56 : decode cX1_addBox 56 = .ok (.dup2, 1) := by decide +kernel
theorem dX1_addBox_57 : decode cX1_addBox 57 = .ok (.iaload, 1) := by decide +kernel
theorem dX1_addBox_58 : decode cX1_addBox 58 = .ok (.iconst 1, 1) := by decide +kernel
theorem dX1_addBox_59 : decode cX1_addBox 59 = .ok (.iadd, 1) := by decide +kernel
theorem dX1_addBox_60 : decode cX1_addBox 60 = .ok (.iastore, 1) := by decide +kernel
theorem dX1_addBox_61 : decode cX1_addBox 61 = .ok (.return_, 1) := by decide +kernel
def mX1_addBox : MM := (yX1_addBox, cX1_addBox, 3, none, { frames := 0, cells := 0, slots := 0, locals := 0 })
def fX1_addBox (σ : SS) (a0 : Nat) (a1 : Int32) (a2 : Int32) : Option SS :=
  if (gI σ a0 5) ≤ 0 then (
    some σ
    ) else (
    if (72 : Int32) ≤ (gI σ a0 6) then (
      some σ
      ) else (
      grd (inb (gI σ a0 6) 72) <|
      vthen (sI σ (a0 + 6) (Int32.toNatClampNeg (gI σ a0 6)) a1) fun σ2 =>
      grd (inb (gI σ2 a0 6) 72) <|
      vthen (sI σ2 (a0 + 7) (Int32.toNatClampNeg (gI σ2 a0 6)) a2) fun σ4 =>
      vthen (sI σ4 a0 6 ((gI σ4 a0 6) + (1 : Int32))) fun σ5 =>
      grd (inb ((gI σ5 a0 5) - (1 : Int32)) 12) <|
      vthen (sI σ5 (a0 + 3) (Int32.toNatClampNeg ((gI σ5 a0 5) - (1 : Int32))) ((gI σ5 (a0 + 3) (Int32.toNatClampNeg ((gI σ5 a0 5) - (1 : Int32)))) + (1 : Int32))) fun σ7 =>
      some σ7
      )
    )

set_option maxRecDepth 20000 in
theorem sX1_addBox {g : GG} {σ : SS} {a0 : Nat} {a1 : Int32} {a2 : Int32} {r : SS} (hr : fX1_addBox σ a0 a1 a2 = some r) (hs0 : shp a0 = (1, 0)) : Ct g mX1_addBox [.ref (ad g a0), .int a1, .int a2] NF σ none NF r := by
  refine Ct.of (by decide +kernel) (nle rfl) fun hw0 => ?_
  have hw := hw0 rfl
  unfold fX1_addBox at hr
  change RR g mX1_addBox (FinR g mX1_addBox none NF r) zF 0 [(0, .ref (ad g a0)), (1, .int a1), (2, .int a2)] [] σ
  refine r_aload_n (pc := 0) (j := 0) dX1_addBox_0 rfl rfl ?_
  refine gf1_5 (pc := 1) tw_1_78 hs0 dX1_addBox_1 ?_
  refine r_if_le (pc := 4) (tgt := 61) dX1_addBox_4 rfl (fun hc => ?_) (fun hc => ?_)
  · replace hr := ite_t hc hr
    exact l_ov hr (r_vret (pc := 61) rfl rfl ⟨Nat.le_refl _, Nat.le_refl _⟩ dX1_addBox_61)
  replace hr := ite_f hc hr
  refine r_aload_n (pc := 7) (j := 0) dX1_addBox_7 rfl rfl ?_
  refine gf1_6 (pc := 8) tw_1_82 hs0 dX1_addBox_8 ?_
  refine r_bipush (pc := 11) (v := (72 : Int32)) dX1_addBox_11 rfl ?_
  refine r_icmp_ge (pc := 13) (tgt := 61) dX1_addBox_13 rfl (fun hc => ?_) (fun hc => ?_)
  · replace hr := ite_t hc hr
    exact l_ov hr (r_vret (pc := 61) rfl rfl ⟨Nat.le_refl _, Nat.le_refl _⟩ dX1_addBox_61)
  replace hr := ite_f hc hr
  refine r_aload_n (pc := 16) (j := 0) dX1_addBox_16 rfl rfl ?_
  refine gf1_12 (pc := 17) tw_1_104 hw hs0 dX1_addBox_17 ?_
  refine r_aload_n (pc := 20) (j := 0) dX1_addBox_20 rfl rfl ?_
  refine gf1_6 (pc := 21) tw_1_82 hs0 dX1_addBox_21 ?_
  refine r_iload_n (pc := 24) (j := 1) dX1_addBox_24 rfl rfl ?_
  obtain ⟨h1, hr⟩ := grd_inv hr
  refine x_iast (pc := 25) (j := (Int32.toNatClampNeg (gI σ a0 6))) (sh1_12 hs0) h1 rfl dX1_addBox_25 fun σ2 eσ2 => ?_
  replace hr := vthen_inv hr σ2 eσ2
  have hσ2 := wtI eσ2 hw
  refine r_aload_n (pc := 26) (j := 0) dX1_addBox_26 rfl rfl ?_
  refine gf1_13 (pc := 27) tw_1_107 hσ2 hs0 dX1_addBox_27 ?_
  refine r_aload_n (pc := 30) (j := 0) dX1_addBox_30 rfl rfl ?_
  refine gf1_6 (pc := 31) tw_1_82 hs0 dX1_addBox_31 ?_
  refine r_iload_n (pc := 34) (j := 2) dX1_addBox_34 rfl rfl ?_
  obtain ⟨h3, hr⟩ := grd_inv hr
  refine x_iast (pc := 35) (j := (Int32.toNatClampNeg (gI σ2 a0 6))) (sh1_13 hs0) h3 rfl dX1_addBox_35 fun σ4 eσ4 => ?_
  replace hr := vthen_inv hr σ4 eσ4
  have hσ4 := wtI eσ4 hσ2
  refine r_aload_n (pc := 36) (j := 0) dX1_addBox_36 rfl rfl ?_
  refine r_dup (pc := 37) dX1_addBox_37 rfl ?_
  refine gf1_6 (pc := 38) tw_1_82 hs0 dX1_addBox_38 ?_
  refine r_iconst (pc := 41) (v := (1 : Int32)) dX1_addBox_41 rfl ?_
  refine r_iadd (pc := 42) dX1_addBox_42 ?_
  refine pf1_6 (pc := 43) tw_1_82 hs0 dX1_addBox_43 fun σ5 eσ5 => ?_
  replace hr := vthen_inv hr σ5 eσ5
  have hσ5 := wtI eσ5 hσ4
  refine r_aload_n (pc := 46) (j := 0) dX1_addBox_46 rfl rfl ?_
  refine gf1_9 (pc := 47) tw_1_91 hσ5 hs0 dX1_addBox_47 ?_
  refine r_aload_n (pc := 50) (j := 0) dX1_addBox_50 rfl rfl ?_
  refine gf1_5 (pc := 51) tw_1_78 hs0 dX1_addBox_51 ?_
  refine r_iconst (pc := 54) (v := (1 : Int32)) dX1_addBox_54 rfl ?_
  refine r_isub (pc := 55) dX1_addBox_55 ?_
  refine r_dup2 (pc := 56) dX1_addBox_56 rfl rfl ?_
  obtain ⟨h6, hr⟩ := grd_inv hr
  refine x_iald (pc := 57) (k := (Int32.toNatClampNeg ((gI σ5 a0 5) - (1 : Int32)))) (sh1_9 hs0) h6 rfl dX1_addBox_57 ?_
  refine r_iconst (pc := 58) (v := (1 : Int32)) dX1_addBox_58 rfl ?_
  refine r_iadd (pc := 59) dX1_addBox_59 ?_
  refine x_iast (pc := 60) (j := (Int32.toNatClampNeg ((gI σ5 a0 5) - (1 : Int32)))) (sh1_9 hs0) h6 rfl dX1_addBox_60 fun σ7 eσ7 => ?_
  replace hr := vthen_inv hr σ7 eσ7
  have hσ7 := wtI eσ7 hσ5
  exact l_ov hr (r_vret (pc := 61) rfl rfl ⟨Nat.le_refl _, Nat.le_refl _⟩ dX1_addBox_61)

theorem kX1_addBox {g : GG} {σ : SS} {a0 : Nat} {a1 : Int32} {a2 : Int32} {σ2 : SS} {M : MM} {F : State → Array Value → List Frame → State → Prop} {pc index : Nat} {ls : List (Nat × Value)} {rest : List Value} (hf : fX1_addBox σ a0 a1 a2 = some σ2) (hs0 : shp a0 = (1, 0)) (hl : Cond.methodLink M.1.cls index yX1_addBox ∈ lw_gt) (hR : mX1_addBox.2.2.2.2.frames + 1 ≤ M.2.2.2.2.frames ∧ 8 + (mX1_addBox.2.2.1 + 11) + mX1_addBox.2.2.2.2.locals ≤ M.2.2.2.2.locals) (hrest : (rest.map fun v => v.category).sum ≤ 8) (hd : decode M.2.1 pc = .ok (.invokevirtual index, 3)) (k : WT σ2 → RR g M F zF (pc + 3) ls rest σ2) : RR g M F zF pc ls (.int a2 :: .int a1 :: .ref (ad g a0) :: rest) σ :=
  r_callV (z := zF) (N := mX1_addBox) (nn := 2) (o1 := none) (sX1_addBox hf hs0) hs0 (by decide) (shp_le hs0 (nle rfl)) (ci := 1) rfl rfl tw_3_55 tw_1_3 hl tw_3_53 tw_3_54 ⟨by decide, by decide, rfl⟩ hR rfl hrest hd ⟨Nat.zero_le _, Nat.zero_le _⟩ rfl (fun h => k (h rfl))

theorem dX2_readPlace_0 : decode cX2_readPlace 0 = .ok (.aload_n 0, 1) := by decide +kernel
theorem dX2_readPlace_1 : decode cX2_readPlace 1 = .ok (.iconst 0, 1) := by decide +kernel
theorem dX2_readPlace_2 : decode cX2_readPlace 2 = .ok (.aload_n 1, 1) := by decide +kernel
theorem dX2_readPlace_3 : decode cX2_readPlace 3 = .ok (.getfield 69, 3) := by decide +kernel
theorem dX2_readPlace_6 : decode cX2_readPlace 6 = .ok (.aload_n 1, 1) := by decide +kernel
theorem dX2_readPlace_7 : decode cX2_readPlace 7 = .ok (.getfield 81, 3) := by decide +kernel
theorem dX2_readPlace_10 : decode cX2_readPlace 10 = .ok (.isub, 1) := by decide +kernel
theorem dX2_readPlace_11 : decode cX2_readPlace 11 = .ok (.invokevirtual 117, 3) := by decide +kernel
theorem dX2_readPlace_14 : decode cX2_readPlace 14 = .ok (.ifCond .ne 5, 3) := by decide +kernel
theorem dX2_readPlace_17 : decode cX2_readPlace 17 = .ok (.iconst 0, 1) := by decide +kernel
theorem dX2_readPlace_18 : decode cX2_readPlace 18 = .ok (.ireturn, 1) := by decide +kernel
theorem dX2_readPlace_19 : decode cX2_readPlace 19 = .ok (.iload_n 2, 1) := by decide +kernel
theorem dX2_readPlace_20 : decode cX2_readPlace 20 = .ok (.bipush 6, 2) := by decide +kernel
theorem dX2_readPlace_22 : decode cX2_readPlace 22 = .ok (.if_icmp .ne 9, 3) := by decide +kernel
theorem dX2_readPlace_25 : decode cX2_readPlace 25 = .ok (.aload_n 0, 1) := by decide +kernel
theorem dX2_readPlace_26 : decode cX2_readPlace 26 = .ok (.iconst 3, 1) := by decide +kernel
theorem dX2_readPlace_27 : decode cX2_readPlace 27 = .ok (.invokevirtual 97, 3) := by decide +kernel
theorem dX2_readPlace_30 : decode cX2_readPlace 30 = .ok (.ireturn, 1) := by decide +kernel
theorem dX2_readPlace_31 : decode cX2_readPlace 31 = .ok (.aload_n 0, 1) := by decide +kernel
theorem dX2_readPlace_32 : decode cX2_readPlace 32 = .ok (.getfield 120, 3) := by decide +kernel
theorem dX2_readPlace_35 : decode cX2_readPlace 35 = .ok (.istore_n 3, 1) := by decide +kernel
theorem dX2_readPlace_36 : decode cX2_readPlace 36 = .ok (.aload_n 0, 1) := by decide +kernel
theorem dX2_readPlace_37 : decode cX2_readPlace 37 = .ok (.invokevirtual 42, 3) := by decide +kernel
theorem dX2_readPlace_40 : decode cX2_readPlace 40 = .ok (.aload_n 0, 1) := by decide +kernel
theorem dX2_readPlace_41 : decode cX2_readPlace 41 = .ok (.iconst 0, 1) := by decide +kernel
theorem dX2_readPlace_42 : decode cX2_readPlace 42 = .ok (.aload_n 1, 1) := by decide +kernel
theorem dX2_readPlace_43 : decode cX2_readPlace 43 = .ok (.getfield 72, 3) := by decide +kernel
theorem dX2_readPlace_46 : decode cX2_readPlace 46 = .ok (.aload_n 1, 1) := by decide +kernel
theorem dX2_readPlace_47 : decode cX2_readPlace 47 = .ok (.getfield 84, 3) := by decide +kernel
theorem dX2_readPlace_50 : decode cX2_readPlace 50 = .ok (.isub, 1) := by decide +kernel
theorem dX2_readPlace_51 : decode cX2_readPlace 51 = .ok (.invokevirtual 117, 3) := by decide +kernel
theorem dX2_readPlace_54 : decode cX2_readPlace 54 = .ok (.ifCond .ne 5, 3) := by decide +kernel
theorem dX2_readPlace_57 : decode cX2_readPlace 57 = .ok (.iconst 0, 1) := by decide +kernel
theorem dX2_readPlace_58 : decode cX2_readPlace 58 = .ok (.ireturn, 1) := by decide +kernel
theorem dX2_readPlace_59 : decode cX2_readPlace 59 = .ok (.aload_n 1, 1) := by decide +kernel
theorem dX2_readPlace_60 : decode cX2_readPlace 60 = .ok (.iload_n 3, 1) := by decide +kernel
theorem dX2_readPlace_61 : decode cX2_readPlace 61 = .ok (.aload_n 0, 1) := by decide +kernel
theorem dX2_readPlace_62 : decode cX2_readPlace 62 = .ok (.getfield 120, 3) := by decide +kernel
theorem dX2_readPlace_65 : decode cX2_readPlace 65 = .ok (.invokevirtual 123, 3) := by decide +kernel
theorem dX2_readPlace_68 : decode cX2_readPlace 68 = .ok (.ifCond .eq 9, 3) := by decide +kernel
theorem dX2_readPlace_71 : decode cX2_readPlace 71 = .ok (.aload_n 0, 1) := by decide +kernel
theorem dX2_readPlace_72 : decode cX2_readPlace 72 = .ok (.iconst 4, 1) := by decide +kernel
theorem dX2_readPlace_73 : decode cX2_readPlace 73 = .ok (.invokevirtual 97, 3) := by decide +kernel
theorem dX2_readPlace_76 : decode cX2_readPlace 76 = .ok (.ireturn, 1) := by decide +kernel
theorem dX2_readPlace_77 : decode cX2_readPlace 77 = .ok (.aload_n 1, 1) := by decide +kernel
theorem dX2_readPlace_78 : decode cX2_readPlace 78 = .ok (.iload_n 3, 1) := by decide +kernel
theorem dX2_readPlace_79 : decode cX2_readPlace 79 = .ok (.aload_n 0, 1) := by decide +kernel
theorem dX2_readPlace_80 : decode cX2_readPlace 80 = .ok (.getfield 120, 3) := by decide +kernel
theorem dX2_readPlace_83 : decode cX2_readPlace 83 = .ok (.invokevirtual 126, 3) := by decide +kernel
theorem dX2_readPlace_86 : decode cX2_readPlace 86 = .ok (.aload_n 0, 1) := by decide +kernel
theorem dX2_readPlace_87 : decode cX2_readPlace 87 = .ok (.invokevirtual 42, 3) := by decide +kernel
theorem dX2_readPlace_90 : decode cX2_readPlace 90 = .ok (.iconst 1, 1) := by decide +kernel
theorem dX2_readPlace_91 : decode cX2_readPlace 91 = .ok (.ireturn, 1) := by decide +kernel
def mX2_readPlace : MM := (yX2_readPlace, cX2_readPlace, 4, Option.some Jvm.ClassFile.FieldType.boolean, { frames := 2, cells := 0, slots := 0, locals := 44 })
def fX2_readPlace (σ : SS) (a1 : Nat) (a2 : Int32) : Option (Bool × SS) :=
  bnd (fX2_isNumber σ (0 : Int32) ((gI σ a1 1) - (gI σ a1 3))) fun b2 σ4 =>
  if b2 = true then (
    if a2 = (6 : Int32) then (
      bnd (fX2_refuse σ4 (3 : Int32)) fun b21 σ23 =>
      some (b21, σ23)
      ) else (
      vthen (gI σ4 26 5) fun v5 =>
      bnd1 (fX2_advance σ4) fun σ6 =>
      bnd (fX2_isNumber σ6 (0 : Int32) ((gI σ6 a1 2) - (gI σ6 a1 4))) fun b8 σ10 =>
      if b8 = true then (
        bnd1 (fX1_isCovered σ10 a1 v5 (gI σ10 26 5)) fun b12 =>
        if b12 = true then (
          bnd (fX2_refuse σ10 (4 : Int32)) fun b17 σ19 =>
          some (b17, σ19)
          ) else (
          bnd1 (fX1_addBox σ10 a1 v5 (gI σ10 26 5)) fun σ14 =>
          bnd1 (fX2_advance σ14) fun σ15 =>
          some (true, σ15)
          )
        ) else (
        some (false, σ10)
        )
      )
    ) else (
    some (false, σ4)
    )

set_option maxRecDepth 20000 in
theorem sX2_readPlace {g : GG} {σ : SS} {a1 : Nat} {a2 : Int32} {r : Bool × SS} (hr : fX2_readPlace σ a1 a2 = some r) (hs1 : shp a1 = (1, 0)) : Ct g mX2_readPlace [.ref (ad g 26), .ref (ad g a1), .int a2] NF σ (some (.int (b2i r.1))) NF r.2 := by
  refine Ct.of (by decide +kernel) (nle rfl) fun hw0 => ?_
  have hw := hw0 rfl
  unfold fX2_readPlace at hr
  change RR g mX2_readPlace (FinR g mX2_readPlace (some (.int (b2i r.1))) NF r.2) zF 0 [(0, .ref (ad g 26)), (1, .ref (ad g a1)), (2, .int a2)] [] σ
  refine r_aload_n (pc := 0) (j := 0) dX2_readPlace_0 rfl rfl ?_
  refine r_iconst (pc := 1) (v := (0 : Int32)) dX2_readPlace_1 rfl ?_
  refine r_aload_n (pc := 2) (j := 1) dX2_readPlace_2 rfl rfl ?_
  refine gf1_1 (pc := 3) tw_1_63 hs1 dX2_readPlace_3 ?_
  refine r_aload_n (pc := 6) (j := 1) dX2_readPlace_6 rfl rfl ?_
  refine gf1_3 (pc := 7) tw_1_71 hs1 dX2_readPlace_7 ?_
  refine r_isub (pc := 10) dX2_readPlace_10 ?_
  obtain ⟨b2, σ4, eσ4, hr⟩ := bnd_inv hr
  refine kX2_isNumber (pc := 11) eσ4 tw_3_18 ⟨nle rfl, nle rfl⟩ (nle rfl) dX2_readPlace_11 fun hσ4 => ?_
  refine r_ifB_ne (pc := 14) (tgt := 19) dX2_readPlace_14 rfl (fun hc => ?_) (fun hc => ?_)
  · replace hr := ite_t hc hr
    refine r_iload_n (pc := 19) (j := 2) dX2_readPlace_19 rfl rfl ?_
    refine r_bipush (pc := 20) (v := (6 : Int32)) dX2_readPlace_20 rfl ?_
    refine r_icmp_ne (pc := 22) (tgt := 31) dX2_readPlace_22 rfl (fun hc => ?_) (fun hc => ?_)
    · replace hr := ite_f hc hr
      refine r_aload_n (pc := 31) (j := 0) dX2_readPlace_31 rfl rfl ?_
      refine gf2_5 (pc := 32) tw_1_151 rfl dX2_readPlace_32 ?_
      refine r_topi fun v5 ev5 => ?_
      replace hr := vthen_inv hr v5 ev5
      refine r_istore_n (pc := 35) (ls1 := [(3, .int v5), (0, .ref (ad g 26)), (1, .ref (ad g a1)), (2, .int a2)]) dX2_readPlace_35 rfl (nle rfl) rfl ?_
      refine r_aload_n (pc := 36) (j := 1) dX2_readPlace_36 rfl rfl ?_
      obtain ⟨σ6, eσ6, hr⟩ := bnd1_inv hr
      refine kX2_advance (pc := 37) eσ6 tw_2_178 ⟨nle rfl, nle rfl⟩ (nle rfl) dX2_readPlace_37 fun hσ6 => ?_
      refine r_aload_n (pc := 40) (j := 1) dX2_readPlace_40 rfl rfl ?_
      refine r_iconst (pc := 41) (v := (0 : Int32)) dX2_readPlace_41 rfl ?_
      refine r_aload_n (pc := 42) (j := 2) dX2_readPlace_42 rfl rfl ?_
      refine gf1_2 (pc := 43) tw_1_67 hs1 dX2_readPlace_43 ?_
      refine r_aload_n (pc := 46) (j := 2) dX2_readPlace_46 rfl rfl ?_
      refine gf1_4 (pc := 47) tw_1_75 hs1 dX2_readPlace_47 ?_
      refine r_isub (pc := 50) dX2_readPlace_50 ?_
      obtain ⟨b8, σ10, eσ10, hr⟩ := bnd_inv hr
      refine kX2_isNumber (pc := 51) eσ10 tw_3_18 ⟨nle rfl, nle rfl⟩ (nle rfl) dX2_readPlace_51 fun hσ10 => ?_
      refine r_ifB_ne (pc := 54) (tgt := 59) dX2_readPlace_54 rfl (fun hc => ?_) (fun hc => ?_)
      · replace hr := ite_t hc hr
        refine r_aload_n (pc := 59) (j := 2) dX2_readPlace_59 rfl rfl ?_
        refine r_iload_n (pc := 60) (j := 0) dX2_readPlace_60 rfl rfl ?_
        refine r_aload_n (pc := 61) (j := 1) dX2_readPlace_61 rfl rfl ?_
        refine gf2_5 (pc := 62) tw_1_151 rfl dX2_readPlace_62 ?_
        obtain ⟨b12, hb12, hr⟩ := bnd1_inv hr
        refine kX1_isCovered (pc := 65) hb12 hs1 tw_3_45 ⟨nle rfl, nle rfl⟩ (nle rfl) dX2_readPlace_65 ?_
        refine r_ifB_eq (pc := 68) (tgt := 77) dX2_readPlace_68 rfl (fun hc => ?_) (fun hc => ?_)
        · replace hr := ite_f hc hr
          refine r_aload_n (pc := 77) (j := 2) dX2_readPlace_77 rfl rfl ?_
          refine r_iload_n (pc := 78) (j := 0) dX2_readPlace_78 rfl rfl ?_
          refine r_aload_n (pc := 79) (j := 1) dX2_readPlace_79 rfl rfl ?_
          refine gf2_5 (pc := 80) tw_1_151 rfl dX2_readPlace_80 ?_
          obtain ⟨σ14, eσ14, hr⟩ := bnd1_inv hr
          refine kX1_addBox (pc := 83) eσ14 hs1 tw_3_52 ⟨nle rfl, nle rfl⟩ (nle rfl) dX2_readPlace_83 fun hσ14 => ?_
          refine r_aload_n (pc := 86) (j := 1) dX2_readPlace_86 rfl rfl ?_
          obtain ⟨σ15, eσ15, hr⟩ := bnd1_inv hr
          refine kX2_advance (pc := 87) eσ15 tw_2_178 ⟨nle rfl, nle rfl⟩ (nle rfl) dX2_readPlace_87 fun hσ15 => ?_
          refine r_iconst (pc := 90) (v := (1 : Int32)) dX2_readPlace_90 rfl ?_
          exact l_osz hr (r_zret (pc := 91) (v := b2i true) (ty := .boolean) rfl (b2i_nar _) rfl ⟨Nat.le_refl _, Nat.le_refl _⟩ dX2_readPlace_91)
        replace hr := ite_t hc hr
        refine r_aload_n (pc := 71) (j := 1) dX2_readPlace_71 rfl rfl ?_
        refine r_iconst (pc := 72) (v := (4 : Int32)) dX2_readPlace_72 rfl ?_
        obtain ⟨b17, σ19, eσ19, hr⟩ := bnd_inv hr
        refine kX2_refuse (pc := 73) eσ19 tw_3_10 ⟨nle rfl, nle rfl⟩ (nle rfl) dX2_readPlace_73 fun hσ19 => ?_
        exact l_osz hr (r_zret (pc := 76) (v := b2i b17) (ty := .boolean) rfl (b2i_nar _) rfl ⟨Nat.le_refl _, Nat.le_refl _⟩ dX2_readPlace_76)
      replace hr := ite_f hc hr
      refine r_iconst (pc := 57) (v := (0 : Int32)) dX2_readPlace_57 rfl ?_
      exact l_osz hr (r_zret (pc := 58) (v := b2i false) (ty := .boolean) rfl (b2i_nar _) rfl ⟨Nat.le_refl _, Nat.le_refl _⟩ dX2_readPlace_58)
    replace hr := ite_t hc hr
    refine r_aload_n (pc := 25) (j := 0) dX2_readPlace_25 rfl rfl ?_
    refine r_iconst (pc := 26) (v := (3 : Int32)) dX2_readPlace_26 rfl ?_
    obtain ⟨b21, σ23, eσ23, hr⟩ := bnd_inv hr
    refine kX2_refuse (pc := 27) eσ23 tw_3_10 ⟨nle rfl, nle rfl⟩ (nle rfl) dX2_readPlace_27 fun hσ23 => ?_
    exact l_osz hr (r_zret (pc := 30) (v := b2i b21) (ty := .boolean) rfl (b2i_nar _) rfl ⟨Nat.le_refl _, Nat.le_refl _⟩ dX2_readPlace_30)
  replace hr := ite_f hc hr
  refine r_iconst (pc := 17) (v := (0 : Int32)) dX2_readPlace_17 rfl ?_
  exact l_osz hr (r_zret (pc := 18) (v := b2i false) (ty := .boolean) rfl (b2i_nar _) rfl ⟨Nat.le_refl _, Nat.le_refl _⟩ dX2_readPlace_18)

theorem kX2_readPlace {g : GG} {σ : SS} {a1 : Nat} {a2 : Int32} {v : Bool} {σ2 : SS} {M : MM} {F : State → Array Value → List Frame → State → Prop} {pc index : Nat} {ls : List (Nat × Value)} {rest : List Value} (hf : fX2_readPlace σ a1 a2 = some (v, σ2)) (hs1 : shp a1 = (1, 0)) (hl : Cond.methodLink M.1.cls index yX2_readPlace ∈ lw_gt) (hR : mX2_readPlace.2.2.2.2.frames + 1 ≤ M.2.2.2.2.frames ∧ 8 + (mX2_readPlace.2.2.1 + 11) + mX2_readPlace.2.2.2.2.locals ≤ M.2.2.2.2.locals) (hrest : (rest.map fun v => v.category).sum ≤ 8) (hd : decode M.2.1 pc = .ok (.invokevirtual index, 3)) (k : WT σ2 → RR g M F zF (pc + 3) ls (.int (b2i v) :: rest) σ2) : RR g M F zF pc ls (.int a2 :: .ref (ad g a1) :: .ref (ad g 26) :: rest) σ :=
  r_callV (z := zF) (N := mX2_readPlace) (nn := 2) (o1 := some (.int (b2i v))) (sX2_readPlace hf hs1) (rfl : shp 26 = (2, 0)) (by decide) (shp_le (rfl : shp 26 = (2, 0)) (nle rfl)) (ci := 2) rfl rfl tw_3_44 tw_1_4 hl tw_3_43 tp_12 ⟨by decide, by decide, rfl⟩ hR rfl hrest hd ⟨Nat.zero_le _, Nat.zero_le _⟩ rfl (fun h => k (h rfl))

theorem dX2_readPlaces_0 : decode cX2_readPlaces 0 = .ok (.iconst 0, 1) := by decide +kernel
theorem dX2_readPlaces_1 : decode cX2_readPlaces 1 = .ok (.istore_n 2, 1) := by decide +kernel
theorem dX2_readPlaces_2 : decode cX2_readPlaces 2 = .ok (.iload_n 2, 1) := by decide +kernel
theorem dX2_readPlaces_3 : decode cX2_readPlaces 3 = .ok (.bipush 6, 2) := by decide +kernel
theorem dX2_readPlaces_5 : decode cX2_readPlaces 5 = .ok (.if_icmp .gt 34, 3) := by decide +kernel
theorem dX2_readPlaces_8 : decode cX2_readPlaces 8 = .ok (.aload_n 0, 1) := by decide +kernel
theorem dX2_readPlaces_9 : decode cX2_readPlaces 9 = .ok (.aload_n 1, 1) := by decide +kernel
theorem dX2_readPlaces_10 : decode cX2_readPlaces 10 = .ok (.iload_n 2, 1) := by decide +kernel
theorem dX2_readPlaces_11 : decode cX2_readPlaces 11 = .ok (.invokevirtual 114, 3) := by decide +kernel
theorem dX2_readPlaces_14 : decode cX2_readPlaces 14 = .ok (.ifCond .ne 5, 3) := by decide +kernel
theorem dX2_readPlaces_17 : decode cX2_readPlaces 17 = .ok (.iconst 0, 1) := by decide +kernel
theorem dX2_readPlaces_18 : decode cX2_readPlaces 18 = .ok (.ireturn, 1) := by decide +kernel
theorem dX2_readPlaces_19 : decode cX2_readPlaces 19 = .ok (.aload_n 0, 1) := by decide +kernel
theorem dX2_readPlaces_20 : decode cX2_readPlaces 20 = .ok (.getfield 87, 3) := by decide +kernel
theorem dX2_readPlaces_23 : decode cX2_readPlaces 23 = .ok (.iconst 3, 1) := by decide +kernel
theorem dX2_readPlaces_24 : decode cX2_readPlaces 24 = .ok (.if_icmp .eq 5, 3) := by decide +kernel
theorem dX2_readPlaces_27 : decode cX2_readPlaces 27 = .ok (.iconst 1, 1) := by decide +kernel
theorem dX2_readPlaces_28 : decode cX2_readPlaces 28 = .ok (.ireturn, 1) := by decide +kernel
theorem dX2_readPlaces_29 : decode cX2_readPlaces 29 = .ok (.aload_n 0, 1) := by decide +kernel
theorem dX2_readPlaces_30 : decode cX2_readPlaces 30 = .ok (.invokevirtual 42, 3) := by decide +kernel
theorem dX2_readPlaces_33 : decode cX2_readPlaces 33 = .ok (.iinc 2 1, 3) := by decide +kernel
theorem dX2_readPlaces_36 : decode cX2_readPlaces 36 = .ok (.goto (-34), 3) := by decide +kernel
theorem dX2_readPlaces_39 : decode cX2_readPlaces 39 = .ok (.iconst 1, 1) := by decide +kernel
theorem dX2_readPlaces_40 : decode cX2_readPlaces 40 = .ok (.ireturn, 1) := by decide +kernel
def mX2_readPlaces : MM := (yX2_readPlaces, cX2_readPlaces, 3, Option.some Jvm.ClassFile.FieldType.boolean, { frames := 3, cells := 0, slots := 0, locals := 67 })
def X2_readPlaces_L2 (o1_ : Nat)  : Nat → Int32 → SS → Option (Bool × SS) :=
  lp (fun _ _ => none) fun rec v2_ σ_ =>
    if (6 : Int32) < v2_ then (
      some (true, σ_)
      ) else (
      bnd (fX2_readPlace σ_ o1_ v2_) fun b2 σ4 =>
      if b2 = true then (
        if (gI σ4 26 4) = (3 : Int32) then (
          bnd1 (fX2_advance σ4) fun σ5 =>
          rec (v2_ + (1 : Int32)) σ5
          ) else (
          some (true, σ4)
          )
        ) else (
        some (false, σ4)
        )
      )

def fX2_readPlaces (σ : SS) (a1 : Nat) : Option (Bool × SS) :=
  X2_readPlaces_L2 a1
  fuel (0 : Int32) σ

set_option maxRecDepth 20000 in
theorem sX2_readPlaces_L2 {g : GG} {r : Bool × SS} {o1_ : Nat}  (hs1_ : shp o1_ = (1, 0))
    (n : Nat) : ∀ (v2_ : Int32) (σ_ : SS), X2_readPlaces_L2 o1_ n v2_ σ_ = some r → WT σ_ → RR g mX2_readPlaces (FinR g mX2_readPlaces (some (.int (b2i r.1))) NF r.2) zF 2 [(0, .ref (ad g 26)), (1, .ref (ad g o1_)), (2, .int v2_)] [] σ_ := by
  unfold X2_readPlaces_L2
  refine lp_ind (P := fun (rec : Int32 → SS → Option (Bool × SS)) => ∀ (v2_ : Int32) (σ_ : SS), rec v2_ σ_ = some r → WT σ_ → RR g mX2_readPlaces (FinR g mX2_readPlaces (some (.int (b2i r.1))) NF r.2) zF 2 [(0, .ref (ad g 26)), (1, .ref (ad g o1_)), (2, .int v2_)] [] σ_) ?_ ?_ n
  · intro v2_ σ_ hr; cases hr
  intro rec ih v2_ σ_ hr hw_
  refine r_iload_n (pc := 2) (j := 2) dX2_readPlaces_2 rfl rfl ?_
  refine r_bipush (pc := 3) (v := (6 : Int32)) dX2_readPlaces_3 rfl ?_
  refine r_icmp_gt (pc := 5) (tgt := 39) dX2_readPlaces_5 rfl (fun hc => ?_) (fun hc => ?_)
  · replace hr := ite_t hc hr
    refine r_iconst (pc := 39) (v := (1 : Int32)) dX2_readPlaces_39 rfl ?_
    exact l_osz hr (r_zret (pc := 40) (v := b2i true) (ty := .boolean) rfl (b2i_nar _) rfl ⟨Nat.le_refl _, Nat.le_refl _⟩ dX2_readPlaces_40)
  replace hr := ite_f hc hr
  refine r_aload_n (pc := 8) (j := 0) dX2_readPlaces_8 rfl rfl ?_
  refine r_aload_n (pc := 9) (j := 1) dX2_readPlaces_9 rfl rfl ?_
  refine r_iload_n (pc := 10) (j := 2) dX2_readPlaces_10 rfl rfl ?_
  obtain ⟨b2, σ4, eσ4, hr⟩ := bnd_inv hr
  refine kX2_readPlace (pc := 11) eσ4 hs1_ tw_3_41 ⟨nle rfl, nle rfl⟩ (nle rfl) dX2_readPlaces_11 fun hσ4 => ?_
  refine r_ifB_ne (pc := 14) (tgt := 19) dX2_readPlaces_14 rfl (fun hc => ?_) (fun hc => ?_)
  · replace hr := ite_t hc hr
    refine r_aload_n (pc := 19) (j := 0) dX2_readPlaces_19 rfl rfl ?_
    refine gf2_4 (pc := 20) tw_1_150 rfl dX2_readPlaces_20 ?_
    refine r_iconst (pc := 23) (v := (3 : Int32)) dX2_readPlaces_23 rfl ?_
    refine r_icmp_eq (pc := 24) (tgt := 29) dX2_readPlaces_24 rfl (fun hc => ?_) (fun hc => ?_)
    · replace hr := ite_t hc hr
      refine r_aload_n (pc := 29) (j := 0) dX2_readPlaces_29 rfl rfl ?_
      obtain ⟨σ5, eσ5, hr⟩ := bnd1_inv hr
      refine kX2_advance (pc := 30) eσ5 tw_2_178 ⟨nle rfl, nle rfl⟩ (nle rfl) dX2_readPlaces_30 fun hσ5 => ?_
      refine r_iinc (pc := 33) (j := 2) (v := (v2_ + (1 : Int32))) (ls1 := [(2, .int (v2_ + (1 : Int32))), (0, .ref (ad g 26)), (1, .ref (ad g o1_))]) dX2_readPlaces_33 rfl rfl (nle rfl) rfl ?_
      refine r_goto (pc := 36) (tgt := 2) dX2_readPlaces_36 rfl ?_
      exact r_pick (ls1 := [(0, .ref (ad g 26)), (1, .ref (ad g o1_)), (2, .int (v2_ + (1 : Int32)))]) [1, 2, 0] rfl (ih (v2_ + (1 : Int32)) σ5 hr hσ5)
    replace hr := ite_f hc hr
    refine r_iconst (pc := 27) (v := (1 : Int32)) dX2_readPlaces_27 rfl ?_
    exact l_osz hr (r_zret (pc := 28) (v := b2i true) (ty := .boolean) rfl (b2i_nar _) rfl ⟨Nat.le_refl _, Nat.le_refl _⟩ dX2_readPlaces_28)
  replace hr := ite_f hc hr
  refine r_iconst (pc := 17) (v := (0 : Int32)) dX2_readPlaces_17 rfl ?_
  exact l_osz hr (r_zret (pc := 18) (v := b2i false) (ty := .boolean) rfl (b2i_nar _) rfl ⟨Nat.le_refl _, Nat.le_refl _⟩ dX2_readPlaces_18)

set_option maxRecDepth 20000 in
theorem sX2_readPlaces {g : GG} {σ : SS} {a1 : Nat} {r : Bool × SS} (hr : fX2_readPlaces σ a1 = some r) (hs1 : shp a1 = (1, 0)) : Ct g mX2_readPlaces [.ref (ad g 26), .ref (ad g a1)] NF σ (some (.int (b2i r.1))) NF r.2 := by
  refine Ct.of (by decide +kernel) (nle rfl) fun hw0 => ?_
  have hw := hw0 rfl
  unfold fX2_readPlaces at hr
  change RR g mX2_readPlaces (FinR g mX2_readPlaces (some (.int (b2i r.1))) NF r.2) zF 0 [(0, .ref (ad g 26)), (1, .ref (ad g a1))] [] σ
  refine r_iconst (pc := 0) (v := (0 : Int32)) dX2_readPlaces_0 rfl ?_
  refine r_istore_n (pc := 1) (ls1 := [(2, .int (0 : Int32)), (0, .ref (ad g 26)), (1, .ref (ad g a1))]) dX2_readPlaces_1 rfl (nle rfl) rfl ?_
  refine r_pick (ls1 := [(0, .ref (ad g 26)), (1, .ref (ad g a1)), (2, .int (0 : Int32))]) [1, 2, 0] rfl ?_
  refine sX2_readPlaces_L2 hs1    fuel (0 : Int32) σ hr hw

theorem kX2_readPlaces {g : GG} {σ : SS} {a1 : Nat} {v : Bool} {σ2 : SS} {M : MM} {F : State → Array Value → List Frame → State → Prop} {pc index : Nat} {ls : List (Nat × Value)} {rest : List Value} (hf : fX2_readPlaces σ a1 = some (v, σ2)) (hs1 : shp a1 = (1, 0)) (hl : Cond.methodLink M.1.cls index yX2_readPlaces ∈ lw_gt) (hR : mX2_readPlaces.2.2.2.2.frames + 1 ≤ M.2.2.2.2.frames ∧ 8 + (mX2_readPlaces.2.2.1 + 11) + mX2_readPlaces.2.2.2.2.locals ≤ M.2.2.2.2.locals) (hrest : (rest.map fun v => v.category).sum ≤ 8) (hd : decode M.2.1 pc = .ok (.invokevirtual index, 3)) (k : WT σ2 → RR g M F zF (pc + 3) ls (.int (b2i v) :: rest) σ2) : RR g M F zF pc ls (.ref (ad g a1) :: .ref (ad g 26) :: rest) σ :=
  r_callV (z := zF) (N := mX2_readPlaces) (nn := 1) (o1 := some (.int (b2i v))) (sX2_readPlaces hf hs1) (rfl : shp 26 = (2, 0)) (by decide) (shp_le (rfl : shp 26 = (2, 0)) (nle rfl)) (ci := 2) rfl rfl tw_3_40 tw_1_4 hl tw_3_39 tp_11 ⟨by decide, by decide, rfl⟩ hR rfl hrest hd ⟨Nat.zero_le _, Nat.zero_le _⟩ rfl (fun h => k (h rfl))

theorem dX2_isLetter_0 : decode cX2_isLetter 0 = .ok (.aload_n 0, 1) := by decide +kernel
theorem dX2_isLetter_1 : decode cX2_isLetter 1 = .ok (.getfield 87, 3) := by decide +kernel
theorem dX2_isLetter_4 : decode cX2_isLetter 4 = .ok (.iconst 1, 1) := by decide +kernel
theorem dX2_isLetter_5 : decode cX2_isLetter 5 = .ok (.if_icmp .ne 34, 3) := by decide +kernel
theorem dX2_isLetter_8 : decode cX2_isLetter 8 = .ok (.aload_n 0, 1) := by decide +kernel
theorem dX2_isLetter_9 : decode cX2_isLetter 9 = .ok (.getfield 31, 3) := by decide +kernel
theorem dX2_isLetter_12 : decode cX2_isLetter 12 = .ok (.aload_n 0, 1) := by decide +kernel
theorem dX2_isLetter_13 : decode cX2_isLetter 13 = .ok (.getfield 136, 3) := by decide +kernel
theorem dX2_isLetter_16 : decode cX2_isLetter 16 = .ok (.isub, 1) := by decide +kernel
theorem dX2_isLetter_17 : decode cX2_isLetter 17 = .ok (.iconst 1, 1) := by decide +kernel
theorem dX2_isLetter_18 : decode cX2_isLetter 18 = .ok (.if_icmp .ne 21, 3) := by decide +kernel
theorem dX2_isLetter_21 : decode cX2_isLetter 21 = .ok (.aload_n 0, 1) := by decide +kernel
theorem dX2_isLetter_22 : decode cX2_isLetter 22 = .ok (.getfield 9, 3) := by decide +kernel
theorem dX2_isLetter_25 : decode cX2_isLetter 25 = .ok (.aload_n 0, 1) := by decide +kernel
theorem dX2_isLetter_26 : decode cX2_isLetter 26 = .ok (.getfield 136, 3) := by decide +kernel
theorem dX2_isLetter_29 : decode cX2_isLetter 29 = .ok (.iaload, 1) := by decide +kernel
theorem dX2_isLetter_30 : decode cX2_isLetter 30 = .ok (.bipush 102, 2) := by decide +kernel
theorem dX2_isLetter_32 : decode cX2_isLetter 32 = .ok (.if_icmp .gt 7, 3) := by decide +kernel
theorem dX2_isLetter_35 : decode cX2_isLetter 35 = .ok (.iconst 1, 1) := by decide +kernel
theorem dX2_isLetter_36 : decode cX2_isLetter 36 = .ok (.goto 4, 3) := by decide +kernel
theorem dX2_isLetter_39 : decode cX2_isLetter 39 = .ok (.iconst 0, 1) := by decide +kernel
theorem dX2_isLetter_40 : decode cX2_isLetter 40 = .ok (.ireturn, 1) := by decide +kernel
def mX2_isLetter : MM := (yX2_isLetter, cX2_isLetter, 1, Option.some Jvm.ClassFile.FieldType.boolean, { frames := 0, cells := 0, slots := 0, locals := 0 })
def fX2_isLetter (σ0 : SS)  : Option Bool :=
  vthen (fun (_u : Unit) =>
    some false
    ) fun j39 =>
  if (gI σ0 26 4) = (1 : Int32) then (
    if ((gI σ0 26 3) - (gI σ0 26 2)) = (1 : Int32) then (
      grd (inb (gI σ0 26 2) 400) <|
      if (102 : Int32) < (gI σ0 27 (Int32.toNatClampNeg (gI σ0 26 2))) then (
        j39 ()
        ) else (
        some true
        )
      ) else (
      j39 ()
      )
    ) else (
    j39 ()
    )

set_option maxRecDepth 20000 in
theorem sX2_isLetter {g : GG} {σ0 : SS}  {r : Bool} (hr : fX2_isLetter σ0 = some r)  : Ct g mX2_isLetter [.ref (ad g 26)] NF σ0 (some (.int (b2i r))) NF σ0 := by
  refine Ct.of (by decide +kernel) (nle rfl) fun hw0 => ?_
  have hw := hw0 rfl
  unfold fX2_isLetter at hr
  change RR g mX2_isLetter (FinR g mX2_isLetter (some (.int (b2i r))) NF σ0) zF 0 [(0, .ref (ad g 26))] [] σ0
  refine r_aload_n (pc := 0) (j := 0) dX2_isLetter_0 rfl rfl ?_
  refine gf2_4 (pc := 1) tw_1_150 rfl dX2_isLetter_1 ?_
  refine r_iconst (pc := 4) (v := (1 : Int32)) dX2_isLetter_4 rfl ?_
  obtain ⟨j39, ej39, hr⟩ := vth_ex hr
  have hj39 : j39 () = some r → RR g mX2_isLetter (FinR g mX2_isLetter (some (.int (b2i r))) NF σ0) zF 39 [] [] σ0 := by
    intro  hr
    replace hr := (congrFun ej39 ()).symm.trans hr
    refine r_iconst (pc := 39) (v := (0 : Int32)) dX2_isLetter_39 rfl ?_
    exact l_opz hr (r_zret (pc := 40) (v := b2i false) (ty := .boolean) rfl (b2i_nar _) rfl ⟨Nat.le_refl _, Nat.le_refl _⟩ dX2_isLetter_40)
  refine r_icmp_ne (pc := 5) (tgt := 39) dX2_isLetter_5 rfl (fun hc => ?_) (fun hc => ?_)
  · replace hr := ite_f hc hr
    exact r_pick (ls1 := []) [] rfl (hj39  hr)
  replace hr := ite_t hc hr
  refine r_aload_n (pc := 8) (j := 0) dX2_isLetter_8 rfl rfl ?_
  refine gf2_3 (pc := 9) tw_1_149 rfl dX2_isLetter_9 ?_
  refine r_aload_n (pc := 12) (j := 0) dX2_isLetter_12 rfl rfl ?_
  refine gf2_2 (pc := 13) tw_1_148 rfl dX2_isLetter_13 ?_
  refine r_isub (pc := 16) dX2_isLetter_16 ?_
  refine r_iconst (pc := 17) (v := (1 : Int32)) dX2_isLetter_17 rfl ?_
  refine r_icmp_ne (pc := 18) (tgt := 39) dX2_isLetter_18 rfl (fun hc => ?_) (fun hc => ?_)
  · replace hr := ite_f hc hr
    exact r_pick (ls1 := []) [] rfl (hj39  hr)
  replace hr := ite_t hc hr
  refine r_aload_n (pc := 21) (j := 0) dX2_isLetter_21 rfl rfl ?_
  refine gf2_0 (pc := 22) tw_1_146 hw dX2_isLetter_22 ?_
  refine r_aload_n (pc := 25) (j := 0) dX2_isLetter_25 rfl rfl ?_
  refine gf2_2 (pc := 26) tw_1_148 rfl dX2_isLetter_26 ?_
  obtain ⟨h1, hr⟩ := grd_inv hr
  refine x_iald (pc := 29) (k := (Int32.toNatClampNeg (gI σ0 26 2))) rfl h1 rfl dX2_isLetter_29 ?_
  refine r_bipush (pc := 30) (v := (102 : Int32)) dX2_isLetter_30 rfl ?_
  refine r_icmp_gt (pc := 32) (tgt := 39) dX2_isLetter_32 rfl (fun hc => ?_) (fun hc => ?_)
  · replace hr := ite_t hc hr
    exact r_pick (ls1 := []) [] rfl (hj39  hr)
  replace hr := ite_f hc hr
  refine r_iconst (pc := 35) (v := (1 : Int32)) dX2_isLetter_35 rfl ?_
  refine r_goto (pc := 36) (tgt := 40) dX2_isLetter_36 rfl ?_
  exact l_opz hr (r_zret (pc := 40) (v := b2i true) (ty := .boolean) rfl (b2i_nar _) rfl ⟨Nat.le_refl _, Nat.le_refl _⟩ dX2_isLetter_40)

theorem kX2_isLetter {g : GG} {σ0 : SS}  {v : Bool} {M : MM} {F : State → Array Value → List Frame → State → Prop} {pc index : Nat} {ls : List (Nat × Value)} {rest : List Value} (hf : fX2_isLetter σ0 = some v)  (hl : Cond.methodLink M.1.cls index yX2_isLetter ∈ lw_gt) (hR : mX2_isLetter.2.2.2.2.frames + 1 ≤ M.2.2.2.2.frames ∧ 8 + (mX2_isLetter.2.2.1 + 11) + mX2_isLetter.2.2.2.2.locals ≤ M.2.2.2.2.locals) (hrest : (rest.map fun v => v.category).sum ≤ 8) (hd : decode M.2.1 pc = .ok (.invokevirtual index, 3)) (k : RR g M F zF (pc + 3) ls (.int (b2i v) :: rest) σ0) : RR g M F zF pc ls (.ref (ad g 26) :: rest) σ0 :=
  r_callV (z := zF) (N := mX2_isLetter) (nn := 0) (o1 := some (.int (b2i v))) (sX2_isLetter hf ) (rfl : shp 26 = (2, 0)) (by decide) (shp_le (rfl : shp 26 = (2, 0)) (nle rfl)) (ci := 2) rfl rfl tw_3_64 tw_1_4 hl tw_3_63 tp_14 ⟨by decide, by decide, rfl⟩ hR rfl hrest hd ⟨Nat.zero_le _, Nat.zero_le _⟩ rfl (fun h => k)

theorem dX2_readKey_0 : decode cX2_readKey 0 = .ok (.aload_n 0, 1) := by decide +kernel
theorem dX2_readKey_1 : decode cX2_readKey 1 = .ok (.ldc 130, 2) := by decide +kernel
theorem dX2_readKey_3 : decode cX2_readKey 3 = .ok (.invokevirtual 92, 3) := by decide +kernel
theorem dX2_readKey_6 : decode cX2_readKey 6 = .ok (.ifCond .ne 5, 3) := by decide +kernel
theorem dX2_readKey_9 : decode cX2_readKey 9 = .ok (.iconst 1, 1) := by decide +kernel
theorem dX2_readKey_10 : decode cX2_readKey 10 = .ok (.ireturn, 1) := by decide +kernel
theorem dX2_readKey_11 : decode cX2_readKey 11 = .ok (.aload_n 0, 1) := by decide +kernel
theorem dX2_readKey_12 : decode cX2_readKey 12 = .ok (.invokevirtual 42, 3) := by decide +kernel
theorem dX2_readKey_15 : decode cX2_readKey 15 = .ok (.iconst 0, 1) := by decide +kernel
theorem dX2_readKey_16 : decode cX2_readKey 16 = .ok (.istore_n 3, 1) := by decide +kernel
theorem dX2_readKey_17 : decode cX2_readKey 17 = .ok (.iload_n 3, 1) := by decide +kernel
theorem dX2_readKey_18 : decode cX2_readKey 18 = .ok (.bipush 6, 2) := by decide +kernel
theorem dX2_readKey_20 : decode cX2_readKey 20 = .ok (.if_icmp .gt 97, 3) := by decide +kernel
theorem dX2_readKey_23 : decode cX2_readKey 23 = .ok (.aload_n 0, 1) := by decide +kernel
theorem dX2_readKey_24 : decode cX2_readKey 24 = .ok (.invokevirtual 132, 3) := by decide +kernel
theorem dX2_readKey_27 : decode cX2_readKey 27 = .ok (.ifCond .ne 21, 3) := by decide +kernel
theorem dX2_readKey_30 : decode cX2_readKey 30 = .ok (.iload_n 3, 1) := by decide +kernel
theorem dX2_readKey_31 : decode cX2_readKey 31 = .ok (.ifCond .gt 11, 3) := by decide +kernel
theorem dX2_readKey_34 : decode cX2_readKey 34 = .ok (.aload_n 0, 1) := by decide +kernel
theorem dX2_readKey_35 : decode cX2_readKey 35 = .ok (.iconst 1, 1) := by decide +kernel
theorem dX2_readKey_36 : decode cX2_readKey 36 = .ok (.invokevirtual 97, 3) := by decide +kernel
theorem dX2_readKey_39 : decode cX2_readKey 39 = .ok (.ifCond .eq 7, 3) := by decide +kernel
theorem dX2_readKey_42 : decode cX2_readKey 42 = .ok (.iconst 1, 1) := by decide +kernel
theorem dX2_readKey_43 : decode cX2_readKey 43 = .ok (.goto 4, 3) := by decide +kernel
theorem dX2_readKey_46 : decode cX2_readKey 46 = .ok (.iconst 0, 1) := by decide +kernel
theorem dX2_readKey_47 : decode cX2_readKey 47 = .ok (.ireturn, 1) := by decide +kernel
theorem dX2_readKey_48 : decode cX2_readKey 48 = .ok (.aload_n 0, 1) := by decide +kernel
theorem dX2_readKey_49 : decode cX2_readKey 49 = .ok (.getfield 9, 3) := by decide +kernel
theorem dX2_readKey_52 : decode cX2_readKey 52 = .ok (.aload_n 0, 1) := by decide +kernel
theorem dX2_readKey_53 : decode cX2_readKey 53 = .ok (.getfield 136, 3) := by decide +kernel
theorem dX2_readKey_56 : decode cX2_readKey 56 = .ok (.iaload, 1) := by decide +kernel
theorem dX2_readKey_57 : decode cX2_readKey 57 = .ok (.bipush 97, 2) := by decide +kernel
theorem dX2_readKey_59 : decode cX2_readKey 59 = .ok (.isub, 1) := by decide +kernel
theorem dX2_readKey_60 : decode cX2_readKey 60 = .ok (.istore 4, 2) := by decide +kernel
theorem dX2_readKey_62 : decode cX2_readKey 62 = .ok (.iload 4, 2) := by decide +kernel
theorem dX2_readKey_64 : decode cX2_readKey 64 = .ok (.aload_n 1, 1) := by decide +kernel
theorem dX2_readKey_65 : decode cX2_readKey 65 = .ok (.getfield 139, 3) := by decide +kernel
theorem dX2_readKey_68 : decode cX2_readKey 68 = .ok (.iload_n 2, 1) := by decide +kernel
theorem dX2_readKey_69 : decode cX2_readKey 69 = .ok (.iaload, 1) := by decide +kernel
theorem dX2_readKey_70 : decode cX2_readKey 70 = .ok (.if_icmp .ge 18, 3) := by decide +kernel
theorem dX2_readKey_73 : decode cX2_readKey 73 = .ok (.aload_n 1, 1) := by decide +kernel
theorem dX2_readKey_74 : decode cX2_readKey 74 = .ok (.getfield 142, 3) := by decide +kernel
theorem dX2_readKey_77 : decode cX2_readKey 77 = .ok (.iload_n 2, 1) := by decide +kernel
theorem dX2_readKey_78 : decode cX2_readKey 78 = .ok (.iaload, 1) := by decide +kernel
theorem dX2_readKey_79 : decode cX2_readKey 79 = .ok (.iload 4, 2) := by decide +kernel
theorem dX2_readKey_81 : decode cX2_readKey 81 = .ok (.ishr, 1) := by decide +kernel
theorem dX2_readKey_82 : decode cX2_readKey 82 = .ok (.iconst 1, 1) := by decide +kernel
theorem dX2_readKey_83 : decode cX2_readKey 83 = .ok (.iand, 1) := by decide +kernel
theorem dX2_readKey_84 : decode cX2_readKey 84 = .ok (.iconst 1, 1) := by decide +kernel
theorem dX2_readKey_85 : decode cX2_readKey 85 = .ok (.if_icmp .ne 9, 3) := by decide +kernel
theorem dX2_readKey_88 : decode cX2_readKey 88 = .ok (.aload_n 0, 1) := by decide +kernel
theorem dX2_readKey_89 : decode cX2_readKey 89 = .ok (.iconst 5, 1) := by decide +kernel
theorem dX2_readKey_90 : decode cX2_readKey 90 = .ok (.invokevirtual 97, 3) := by decide +kernel
theorem dX2_readKey_93 : decode cX2_readKey 93 = .ok (.ireturn, 1) := by decide +kernel
theorem dX2_readKey_94 : decode cX2_readKey 94 = .ok (.aload_n 1, 1) := by decide +kernel
theorem dX2_readKey_95 : decode cX2_readKey 95 = .ok (.getfield 142, 3) := by decide +kernel
theorem dX2_readKey_98 : decode cX2_readKey 98 = .ok (.iload_n 2, 1) := by decide +kernel
theorem dX2_readKey_99 : decode cX2_readKey 99 = .ok (.dup2, 1) := by decide +kernel
theorem dX2_readKey_100 : decode cX2_readKey 100 = .ok (.iaload, 1) := by decide +kernel
theorem dX2_readKey_101 : decode cX2_readKey 101 = .ok (.iconst 1, 1) := by decide +kernel
theorem dX2_readKey_102 : decode cX2_readKey 102 = .ok (.iload 4, 2) := by decide +kernel
theorem dX2_readKey_104 : decode cX2_readKey 104 = .ok (.ishl, 1) := by decide +kernel
theorem dX2_readKey_105 : decode cX2_readKey 105 = .ok (.ior, 1) := by decide +kernel
theorem dX2_readKey_106 : decode cX2_readKey 106 = .ok (.iastore, 1) := by decide +kernel
theorem dX2_readKey_107 : decode cX2_readKey 107 = .ok (.aload_n 0, 1) := by decide +kernel
theorem dX2_readKey_108 : decode cX2_readKey 108 = .ok (.invokevirtual 42, 3) := by decide +kernel
theorem dX2_readKey_111 : decode cX2_readKey 111 = .ok (.iinc 3 1, 3) := by decide +kernel
theorem dX2_readKey_114 : decode cX2_readKey 114 = .ok (.goto (-97), 3) := by decide +kernel
theorem dX2_readKey_117 : decode cX2_readKey 117 = .ok (.iconst 1, 1) := by decide +kernel
theorem dX2_readKey_118 : decode cX2_readKey 118 = .ok (.ireturn, 1) := by decide +kernel
def mX2_readKey : MM := (yX2_readKey, cX2_readKey, 5, Option.some Jvm.ClassFile.FieldType.boolean, { frames := 6, cells := 0, slots := 0, locals := 172 })
def X2_readKey_L17 (o1_ : Nat) (u2_ : Int32)  : Nat → Int32 → SS → Option (Bool × SS) :=
  lp (fun _ _ => none) fun rec v3_ σ_ =>
    if (6 : Int32) < v3_ then (
      some (true, σ_)
      ) else (
      bnd1 (fX2_isLetter σ_) fun b6 =>
      if b6 = true then (
        grd (inb (gI σ_ 26 2) 400) <|
        vthen ((gI σ_ 27 (Int32.toNatClampNeg (gI σ_ 26 2))) - (97 : Int32)) fun v9 =>
        grd (inb u2_ 12) <|
        vthen (fun (_u : Unit) =>
          bnd (fX2_refuse σ_ (5 : Int32)) fun b12 σ14 =>
          some (b12, σ14)
          ) fun j88 =>
        if (gI σ_ (o1_ + 3) (Int32.toNatClampNeg u2_)) ≤ v9 then (
          j88 ()
          ) else (
          if (((gI σ_ (o1_ + 4) (Int32.toNatClampNeg u2_)) >>> (v9 &&& 31)) &&& (1 : Int32)) = (1 : Int32) then (
            j88 ()
            ) else (
            vthen (sI σ_ (o1_ + 4) (Int32.toNatClampNeg u2_) ((gI σ_ (o1_ + 4) (Int32.toNatClampNeg u2_)) ||| ((1 : Int32) <<< (v9 &&& 31)))) fun σ15 =>
            bnd1 (fX2_advance σ15) fun σ16 =>
            rec (v3_ + (1 : Int32)) σ16
            )
          )
        ) else (
        vthen (fun  (σ17 : SS) =>
          some (true, σ17)
          ) fun j42 =>
        if 0 < v3_ then (
          j42 σ_
          ) else (
          bnd (fX2_refuse σ_ (1 : Int32)) fun b19 σ21 =>
          if b19 = true then (
            j42 σ21
            ) else (
            some (false, σ21)
            )
          )
        )
      )

def fX2_readKey (σ : SS) (a1 : Nat) (a2 : Int32) : Option (Bool × SS) :=
  bnd1 (fX2_isWord σ 4) fun b2 =>
  if b2 = true then (
    bnd1 (fX2_advance σ) fun σ4 =>
    X2_readKey_L17 a1 a2
    fuel (0 : Int32) σ4
    ) else (
    some (true, σ)
    )

set_option maxRecDepth 20000 in
theorem sX2_readKey_L17 {g : GG} {r : Bool × SS} {o1_ : Nat} {u2_ : Int32}  (hs1_ : shp o1_ = (1, 0))
    (n : Nat) : ∀ (v3_ : Int32) (σ_ : SS), X2_readKey_L17 o1_ u2_ n v3_ σ_ = some r → WT σ_ → RR g mX2_readKey (FinR g mX2_readKey (some (.int (b2i r.1))) NF r.2) zF 17 [(0, .ref (ad g 26)), (1, .ref (ad g o1_)), (2, .int u2_), (3, .int v3_)] [] σ_ := by
  unfold X2_readKey_L17
  refine lp_ind (P := fun (rec : Int32 → SS → Option (Bool × SS)) => ∀ (v3_ : Int32) (σ_ : SS), rec v3_ σ_ = some r → WT σ_ → RR g mX2_readKey (FinR g mX2_readKey (some (.int (b2i r.1))) NF r.2) zF 17 [(0, .ref (ad g 26)), (1, .ref (ad g o1_)), (2, .int u2_), (3, .int v3_)] [] σ_) ?_ ?_ n
  · intro v3_ σ_ hr; cases hr
  intro rec ih v3_ σ_ hr hw_
  refine r_iload_n (pc := 17) (j := 3) dX2_readKey_17 rfl rfl ?_
  refine r_bipush (pc := 18) (v := (6 : Int32)) dX2_readKey_18 rfl ?_
  refine r_icmp_gt (pc := 20) (tgt := 117) dX2_readKey_20 rfl (fun hc => ?_) (fun hc => ?_)
  · replace hr := ite_t hc hr
    refine r_iconst (pc := 117) (v := (1 : Int32)) dX2_readKey_117 rfl ?_
    exact l_osz hr (r_zret (pc := 118) (v := b2i true) (ty := .boolean) rfl (b2i_nar _) rfl ⟨Nat.le_refl _, Nat.le_refl _⟩ dX2_readKey_118)
  replace hr := ite_f hc hr
  refine r_aload_n (pc := 23) (j := 0) dX2_readKey_23 rfl rfl ?_
  obtain ⟨b6, hb6, hr⟩ := bnd1_inv hr
  refine kX2_isLetter (pc := 24) hb6 tw_3_61 ⟨nle rfl, nle rfl⟩ (nle rfl) dX2_readKey_24 ?_
  refine r_ifB_ne (pc := 27) (tgt := 48) dX2_readKey_27 rfl (fun hc => ?_) (fun hc => ?_)
  · replace hr := ite_t hc hr
    refine r_aload_n (pc := 48) (j := 0) dX2_readKey_48 rfl rfl ?_
    refine gf2_0 (pc := 49) tw_1_146 hw_ dX2_readKey_49 ?_
    refine r_aload_n (pc := 52) (j := 0) dX2_readKey_52 rfl rfl ?_
    refine gf2_2 (pc := 53) tw_1_148 rfl dX2_readKey_53 ?_
    obtain ⟨h8, hr⟩ := grd_inv hr
    refine x_iald (pc := 56) (k := (Int32.toNatClampNeg (gI σ_ 26 2))) rfl h8 rfl dX2_readKey_56 ?_
    refine r_bipush (pc := 57) (v := (97 : Int32)) dX2_readKey_57 rfl ?_
    refine r_isub (pc := 59) dX2_readKey_59 ?_
    refine r_topi fun v9 ev9 => ?_
    replace hr := vthen_inv hr v9 ev9
    refine r_istore (pc := 60) (ls1 := [(4, .int v9), (0, .ref (ad g 26)), (1, .ref (ad g o1_)), (2, .int u2_), (3, .int v3_)]) dX2_readKey_60 (nle rfl) rfl ?_
    refine r_iload (pc := 62) (j := 0) dX2_readKey_62 rfl ?_
    refine r_aload_n (pc := 64) (j := 2) dX2_readKey_64 rfl rfl ?_
    refine gf1_9 (pc := 65) tw_1_94 hw_ hs1_ dX2_readKey_65 ?_
    refine r_iload_n (pc := 68) (j := 3) dX2_readKey_68 rfl rfl ?_
    obtain ⟨h10, hr⟩ := grd_inv hr
    refine x_iald (pc := 69) (k := (Int32.toNatClampNeg u2_)) (sh1_9 hs1_) h10 rfl dX2_readKey_69 ?_
    obtain ⟨j88, ej88, hr⟩ := vth_ex hr
    have hj88 : j88 () = some r → RR g mX2_readKey (FinR g mX2_readKey (some (.int (b2i r.1))) NF r.2) zF 88 [(0, .ref (ad g 26))] [] σ_ := by
      intro  hr
      replace hr := (congrFun ej88 ()).symm.trans hr
      refine r_aload_n (pc := 88) (j := 0) dX2_readKey_88 rfl rfl ?_
      refine r_iconst (pc := 89) (v := (5 : Int32)) dX2_readKey_89 rfl ?_
      obtain ⟨b12, σ14, eσ14, hr⟩ := bnd_inv hr
      refine kX2_refuse (pc := 90) eσ14 tw_3_10 ⟨nle rfl, nle rfl⟩ (nle rfl) dX2_readKey_90 fun hσ14 => ?_
      exact l_osz hr (r_zret (pc := 93) (v := b2i b12) (ty := .boolean) rfl (b2i_nar _) rfl ⟨Nat.le_refl _, Nat.le_refl _⟩ dX2_readKey_93)
    refine r_icmp_ge (pc := 70) (tgt := 88) dX2_readKey_70 rfl (fun hc => ?_) (fun hc => ?_)
    · replace hr := ite_t hc hr
      exact r_pick (ls1 := [(0, .ref (ad g 26))]) [1] rfl (hj88  hr)
    replace hr := ite_f hc hr
    refine r_aload_n (pc := 73) (j := 2) dX2_readKey_73 rfl rfl ?_
    refine gf1_10 (pc := 74) tw_1_98 hw_ hs1_ dX2_readKey_74 ?_
    refine r_iload_n (pc := 77) (j := 3) dX2_readKey_77 rfl rfl ?_
    refine x_iald (pc := 78) (k := (Int32.toNatClampNeg u2_)) (sh1_10 hs1_) h10 rfl dX2_readKey_78 ?_
    refine r_iload (pc := 79) (j := 0) dX2_readKey_79 rfl ?_
    refine r_ishr (pc := 81) dX2_readKey_81 ?_
    refine r_iconst (pc := 82) (v := (1 : Int32)) dX2_readKey_82 rfl ?_
    refine r_iand (pc := 83) dX2_readKey_83 ?_
    refine r_iconst (pc := 84) (v := (1 : Int32)) dX2_readKey_84 rfl ?_
    refine r_icmp_ne (pc := 85) (tgt := 94) dX2_readKey_85 rfl (fun hc => ?_) (fun hc => ?_)
    · replace hr := ite_f hc hr
      refine r_aload_n (pc := 94) (j := 2) dX2_readKey_94 rfl rfl ?_
      refine gf1_10 (pc := 95) tw_1_98 hw_ hs1_ dX2_readKey_95 ?_
      refine r_iload_n (pc := 98) (j := 3) dX2_readKey_98 rfl rfl ?_
      refine r_dup2 (pc := 99) dX2_readKey_99 rfl rfl ?_
      refine x_iald (pc := 100) (k := (Int32.toNatClampNeg u2_)) (sh1_10 hs1_) h10 rfl dX2_readKey_100 ?_
      refine r_iconst (pc := 101) (v := (1 : Int32)) dX2_readKey_101 rfl ?_
      refine r_iload (pc := 102) (j := 0) dX2_readKey_102 rfl ?_
      refine r_ishl (pc := 104) dX2_readKey_104 ?_
      refine r_ior (pc := 105) dX2_readKey_105 ?_
      refine x_iast (pc := 106) (j := (Int32.toNatClampNeg u2_)) (sh1_10 hs1_) h10 rfl dX2_readKey_106 fun σ15 eσ15 => ?_
      replace hr := vthen_inv hr σ15 eσ15
      have hσ15 := wtI eσ15 hw_
      refine r_aload_n (pc := 107) (j := 1) dX2_readKey_107 rfl rfl ?_
      obtain ⟨σ16, eσ16, hr⟩ := bnd1_inv hr
      refine kX2_advance (pc := 108) eσ16 tw_2_178 ⟨nle rfl, nle rfl⟩ (nle rfl) dX2_readKey_108 fun hσ16 => ?_
      refine r_iinc (pc := 111) (j := 4) (v := (v3_ + (1 : Int32))) (ls1 := [(3, .int (v3_ + (1 : Int32))), (4, .int v9), (0, .ref (ad g 26)), (1, .ref (ad g o1_)), (2, .int u2_)]) dX2_readKey_111 rfl rfl (nle rfl) rfl ?_
      refine r_goto (pc := 114) (tgt := 17) dX2_readKey_114 rfl ?_
      exact r_pick (ls1 := [(0, .ref (ad g 26)), (1, .ref (ad g o1_)), (2, .int u2_), (3, .int (v3_ + (1 : Int32)))]) [2, 3, 4, 0] rfl (ih (v3_ + (1 : Int32)) σ16 hr hσ16)
    replace hr := ite_t hc hr
    exact r_pick (ls1 := [(0, .ref (ad g 26))]) [1] rfl (hj88  hr)
  replace hr := ite_f hc hr
  refine r_iload_n (pc := 30) (j := 3) dX2_readKey_30 rfl rfl ?_
  obtain ⟨j42, ej42, hr⟩ := vth_ex hr
  have hj42 : ∀ (σ17 : SS), j42 σ17 = some r → WT σ17 → RR g mX2_readKey (FinR g mX2_readKey (some (.int (b2i r.1))) NF r.2) zF 42 [] [] σ17 := by
    intro σ17 hr hσ17
    replace hr := (congrFun ej42 σ17).symm.trans hr
    refine r_iconst (pc := 42) (v := (1 : Int32)) dX2_readKey_42 rfl ?_
    refine r_goto (pc := 43) (tgt := 47) dX2_readKey_43 rfl ?_
    exact l_osz hr (r_zret (pc := 47) (v := b2i true) (ty := .boolean) rfl (b2i_nar _) rfl ⟨Nat.le_refl _, Nat.le_refl _⟩ dX2_readKey_47)
  refine r_if_gt (pc := 31) (tgt := 42) dX2_readKey_31 rfl (fun hc => ?_) (fun hc => ?_)
  · replace hr := ite_t hc hr
    exact r_pick (ls1 := []) [] rfl (hj42 σ_ hr hw_)
  replace hr := ite_f hc hr
  refine r_aload_n (pc := 34) (j := 0) dX2_readKey_34 rfl rfl ?_
  refine r_iconst (pc := 35) (v := (1 : Int32)) dX2_readKey_35 rfl ?_
  obtain ⟨b19, σ21, eσ21, hr⟩ := bnd_inv hr
  refine kX2_refuse (pc := 36) eσ21 tw_3_10 ⟨nle rfl, nle rfl⟩ (nle rfl) dX2_readKey_36 fun hσ21 => ?_
  refine r_ifB_eq (pc := 39) (tgt := 46) dX2_readKey_39 rfl (fun hc => ?_) (fun hc => ?_)
  · replace hr := ite_f hc hr
    refine r_iconst (pc := 46) (v := (0 : Int32)) dX2_readKey_46 rfl ?_
    exact l_osz hr (r_zret (pc := 47) (v := b2i false) (ty := .boolean) rfl (b2i_nar _) rfl ⟨Nat.le_refl _, Nat.le_refl _⟩ dX2_readKey_47)
  replace hr := ite_t hc hr
  exact r_pick (ls1 := []) [] rfl (hj42 σ21 hr hσ21)

set_option maxRecDepth 20000 in
theorem sX2_readKey {g : GG} {σ : SS} {a1 : Nat} {a2 : Int32} {r : Bool × SS} (hr : fX2_readKey σ a1 a2 = some r) (hs1 : shp a1 = (1, 0)) : Ct g mX2_readKey [.ref (ad g 26), .ref (ad g a1), .int a2] NF σ (some (.int (b2i r.1))) NF r.2 := by
  refine Ct.of (by decide +kernel) (nle rfl) fun hw0 => ?_
  have hw := hw0 rfl
  unfold fX2_readKey at hr
  change RR g mX2_readKey (FinR g mX2_readKey (some (.int (b2i r.1))) NF r.2) zF 0 [(0, .ref (ad g 26)), (1, .ref (ad g a1)), (2, .int a2)] [] σ
  refine r_aload_n (pc := 0) (j := 0) dX2_readKey_0 rfl rfl ?_
  refine r_ldcs (pc := 1) 4 (by decide) rfl dX2_readKey_1 ?_
  obtain ⟨b2, hb2, hr⟩ := bnd1_inv hr
  refine kX2_isWord (pc := 3) hb2 (by decide) tw_2_198 ⟨nle rfl, nle rfl⟩ (nle rfl) dX2_readKey_3 ?_
  refine r_ifB_ne (pc := 6) (tgt := 11) dX2_readKey_6 rfl (fun hc => ?_) (fun hc => ?_)
  · replace hr := ite_t hc hr
    refine r_aload_n (pc := 11) (j := 0) dX2_readKey_11 rfl rfl ?_
    obtain ⟨σ4, eσ4, hr⟩ := bnd1_inv hr
    refine kX2_advance (pc := 12) eσ4 tw_2_178 ⟨nle rfl, nle rfl⟩ (nle rfl) dX2_readKey_12 fun hσ4 => ?_
    refine r_iconst (pc := 15) (v := (0 : Int32)) dX2_readKey_15 rfl ?_
    refine r_istore_n (pc := 16) (ls1 := [(3, .int (0 : Int32)), (0, .ref (ad g 26)), (1, .ref (ad g a1)), (2, .int a2)]) dX2_readKey_16 rfl (nle rfl) rfl ?_
    refine r_pick (ls1 := [(0, .ref (ad g 26)), (1, .ref (ad g a1)), (2, .int a2), (3, .int (0 : Int32))]) [1, 2, 3, 0] rfl ?_
    refine sX2_readKey_L17 hs1    fuel (0 : Int32) σ4 hr hσ4
  replace hr := ite_f hc hr
  refine r_iconst (pc := 9) (v := (1 : Int32)) dX2_readKey_9 rfl ?_
  exact l_osz hr (r_zret (pc := 10) (v := b2i true) (ty := .boolean) rfl (b2i_nar _) rfl ⟨Nat.le_refl _, Nat.le_refl _⟩ dX2_readKey_10)

theorem kX2_readKey {g : GG} {σ : SS} {a1 : Nat} {a2 : Int32} {v : Bool} {σ2 : SS} {M : MM} {F : State → Array Value → List Frame → State → Prop} {pc index : Nat} {ls : List (Nat × Value)} {rest : List Value} (hf : fX2_readKey σ a1 a2 = some (v, σ2)) (hs1 : shp a1 = (1, 0)) (hl : Cond.methodLink M.1.cls index yX2_readKey ∈ lw_gt) (hR : mX2_readKey.2.2.2.2.frames + 1 ≤ M.2.2.2.2.frames ∧ 8 + (mX2_readKey.2.2.1 + 11) + mX2_readKey.2.2.2.2.locals ≤ M.2.2.2.2.locals) (hrest : (rest.map fun v => v.category).sum ≤ 8) (hd : decode M.2.1 pc = .ok (.invokevirtual index, 3)) (k : WT σ2 → RR g M F zF (pc + 3) ls (.int (b2i v) :: rest) σ2) : RR g M F zF pc ls (.int a2 :: .ref (ad g a1) :: .ref (ad g 26) :: rest) σ :=
  r_callV (z := zF) (N := mX2_readKey) (nn := 2) (o1 := some (.int (b2i v))) (sX2_readKey hf hs1) (rfl : shp 26 = (2, 0)) (by decide) (shp_le (rfl : shp 26 = (2, 0)) (nle rfl)) (ci := 2) rfl rfl tw_3_59 tw_1_4 hl tw_3_58 tp_13 ⟨by decide, by decide, rfl⟩ hR rfl hrest hd ⟨Nat.zero_le _, Nat.zero_le _⟩ rfl (fun h => k (h rfl))

theorem dX2_readWorth_0 : decode cX2_readWorth 0 = .ok (.aload_n 0, 1) := by decide +kernel
theorem dX2_readWorth_1 : decode cX2_readWorth 1 = .ok (.ldc 145, 2) := by decide +kernel
theorem dX2_readWorth_3 : decode cX2_readWorth 3 = .ok (.invokevirtual 92, 3) := by decide +kernel
theorem dX2_readWorth_6 : decode cX2_readWorth 6 = .ok (.ifCond .ne 5, 3) := by decide +kernel
theorem dX2_readWorth_9 : decode cX2_readWorth 9 = .ok (.iconst 1, 1) := by decide +kernel
theorem dX2_readWorth_10 : decode cX2_readWorth 10 = .ok (.ireturn, 1) := by decide +kernel
theorem dX2_readWorth_11 : decode cX2_readWorth 11 = .ok (.aload_n 0, 1) := by decide +kernel
theorem dX2_readWorth_12 : decode cX2_readWorth 12 = .ok (.invokevirtual 42, 3) := by decide +kernel
theorem dX2_readWorth_15 : decode cX2_readWorth 15 = .ok (.aload_n 0, 1) := by decide +kernel
theorem dX2_readWorth_16 : decode cX2_readWorth 16 = .ok (.iconst 0, 1) := by decide +kernel
theorem dX2_readWorth_17 : decode cX2_readWorth 17 = .ok (.bipush 99, 2) := by decide +kernel
theorem dX2_readWorth_19 : decode cX2_readWorth 19 = .ok (.invokevirtual 62, 3) := by decide +kernel
theorem dX2_readWorth_22 : decode cX2_readWorth 22 = .ok (.ifCond .ne 5, 3) := by decide +kernel
theorem dX2_readWorth_25 : decode cX2_readWorth 25 = .ok (.iconst 0, 1) := by decide +kernel
theorem dX2_readWorth_26 : decode cX2_readWorth 26 = .ok (.ireturn, 1) := by decide +kernel
theorem dX2_readWorth_27 : decode cX2_readWorth 27 = .ok (.aload_n 1, 1) := by decide +kernel
theorem dX2_readWorth_28 : decode cX2_readWorth 28 = .ok (.getfield 147, 3) := by decide +kernel
theorem dX2_readWorth_31 : decode cX2_readWorth 31 = .ok (.iload_n 2, 1) := by decide +kernel
theorem dX2_readWorth_32 : decode cX2_readWorth 32 = .ok (.aload_n 0, 1) := by decide +kernel
theorem dX2_readWorth_33 : decode cX2_readWorth 33 = .ok (.getfield 66, 3) := by decide +kernel
theorem dX2_readWorth_36 : decode cX2_readWorth 36 = .ok (.iastore, 1) := by decide +kernel
theorem dX2_readWorth_37 : decode cX2_readWorth 37 = .ok (.iconst 1, 1) := by decide +kernel
theorem dX2_readWorth_38 : decode cX2_readWorth 38 = .ok (.ireturn, 1) := by decide +kernel
def mX2_readWorth : MM := (yX2_readWorth, cX2_readWorth, 3, Option.some Jvm.ClassFile.FieldType.boolean, { frames := 6, cells := 0, slots := 0, locals := 172 })
def fX2_readWorth (σ : SS) (a1 : Nat) (a2 : Int32) : Option (Bool × SS) :=
  bnd1 (fX2_isWord σ 5) fun b2 =>
  if b2 = true then (
    bnd1 (fX2_advance σ) fun σ4 =>
    bnd (fX2_takeNumber σ4 (0 : Int32) (99 : Int32)) fun b6 σ8 =>
    if b6 = true then (
      grd (inb a2 12) <|
      vthen (sI σ8 (a1 + 5) (Int32.toNatClampNeg a2) (gI σ8 26 6)) fun σ10 =>
      some (true, σ10)
      ) else (
      some (false, σ8)
      )
    ) else (
    some (true, σ)
    )

set_option maxRecDepth 20000 in
theorem sX2_readWorth {g : GG} {σ : SS} {a1 : Nat} {a2 : Int32} {r : Bool × SS} (hr : fX2_readWorth σ a1 a2 = some r) (hs1 : shp a1 = (1, 0)) : Ct g mX2_readWorth [.ref (ad g 26), .ref (ad g a1), .int a2] NF σ (some (.int (b2i r.1))) NF r.2 := by
  refine Ct.of (by decide +kernel) (nle rfl) fun hw0 => ?_
  have hw := hw0 rfl
  unfold fX2_readWorth at hr
  change RR g mX2_readWorth (FinR g mX2_readWorth (some (.int (b2i r.1))) NF r.2) zF 0 [(0, .ref (ad g 26)), (1, .ref (ad g a1)), (2, .int a2)] [] σ
  refine r_aload_n (pc := 0) (j := 0) dX2_readWorth_0 rfl rfl ?_
  refine r_ldcs (pc := 1) 5 (by decide) rfl dX2_readWorth_1 ?_
  obtain ⟨b2, hb2, hr⟩ := bnd1_inv hr
  refine kX2_isWord (pc := 3) hb2 (by decide) tw_2_198 ⟨nle rfl, nle rfl⟩ (nle rfl) dX2_readWorth_3 ?_
  refine r_ifB_ne (pc := 6) (tgt := 11) dX2_readWorth_6 rfl (fun hc => ?_) (fun hc => ?_)
  · replace hr := ite_t hc hr
    refine r_aload_n (pc := 11) (j := 0) dX2_readWorth_11 rfl rfl ?_
    obtain ⟨σ4, eσ4, hr⟩ := bnd1_inv hr
    refine kX2_advance (pc := 12) eσ4 tw_2_178 ⟨nle rfl, nle rfl⟩ (nle rfl) dX2_readWorth_12 fun hσ4 => ?_
    refine r_aload_n (pc := 15) (j := 0) dX2_readWorth_15 rfl rfl ?_
    refine r_iconst (pc := 16) (v := (0 : Int32)) dX2_readWorth_16 rfl ?_
    refine r_bipush (pc := 17) (v := (99 : Int32)) dX2_readWorth_17 rfl ?_
    obtain ⟨b6, σ8, eσ8, hr⟩ := bnd_inv hr
    refine kX2_takeNumber (pc := 19) eσ8 tw_3_14 ⟨nle rfl, nle rfl⟩ (nle rfl) dX2_readWorth_19 fun hσ8 => ?_
    refine r_ifB_ne (pc := 22) (tgt := 27) dX2_readWorth_22 rfl (fun hc => ?_) (fun hc => ?_)
    · replace hr := ite_t hc hr
      refine r_aload_n (pc := 27) (j := 1) dX2_readWorth_27 rfl rfl ?_
      refine gf1_11 (pc := 28) tw_1_102 hσ8 hs1 dX2_readWorth_28 ?_
      refine r_iload_n (pc := 31) (j := 2) dX2_readWorth_31 rfl rfl ?_
      refine r_aload_n (pc := 32) (j := 0) dX2_readWorth_32 rfl rfl ?_
      refine gf2_6 (pc := 33) tw_1_152 rfl dX2_readWorth_33 ?_
      obtain ⟨h9, hr⟩ := grd_inv hr
      refine x_iast (pc := 36) (j := (Int32.toNatClampNeg a2)) (sh1_11 hs1) h9 rfl dX2_readWorth_36 fun σ10 eσ10 => ?_
      replace hr := vthen_inv hr σ10 eσ10
      have hσ10 := wtI eσ10 hσ8
      refine r_iconst (pc := 37) (v := (1 : Int32)) dX2_readWorth_37 rfl ?_
      exact l_osz hr (r_zret (pc := 38) (v := b2i true) (ty := .boolean) rfl (b2i_nar _) rfl ⟨Nat.le_refl _, Nat.le_refl _⟩ dX2_readWorth_38)
    replace hr := ite_f hc hr
    refine r_iconst (pc := 25) (v := (0 : Int32)) dX2_readWorth_25 rfl ?_
    exact l_osz hr (r_zret (pc := 26) (v := b2i false) (ty := .boolean) rfl (b2i_nar _) rfl ⟨Nat.le_refl _, Nat.le_refl _⟩ dX2_readWorth_26)
  replace hr := ite_f hc hr
  refine r_iconst (pc := 9) (v := (1 : Int32)) dX2_readWorth_9 rfl ?_
  exact l_osz hr (r_zret (pc := 10) (v := b2i true) (ty := .boolean) rfl (b2i_nar _) rfl ⟨Nat.le_refl _, Nat.le_refl _⟩ dX2_readWorth_10)

theorem kX2_readWorth {g : GG} {σ : SS} {a1 : Nat} {a2 : Int32} {v : Bool} {σ2 : SS} {M : MM} {F : State → Array Value → List Frame → State → Prop} {pc index : Nat} {ls : List (Nat × Value)} {rest : List Value} (hf : fX2_readWorth σ a1 a2 = some (v, σ2)) (hs1 : shp a1 = (1, 0)) (hl : Cond.methodLink M.1.cls index yX2_readWorth ∈ lw_gt) (hR : mX2_readWorth.2.2.2.2.frames + 1 ≤ M.2.2.2.2.frames ∧ 8 + (mX2_readWorth.2.2.1 + 11) + mX2_readWorth.2.2.2.2.locals ≤ M.2.2.2.2.locals) (hrest : (rest.map fun v => v.category).sum ≤ 8) (hd : decode M.2.1 pc = .ok (.invokevirtual index, 3)) (k : WT σ2 → RR g M F zF (pc + 3) ls (.int (b2i v) :: rest) σ2) : RR g M F zF pc ls (.int a2 :: .ref (ad g a1) :: .ref (ad g 26) :: rest) σ :=
  r_callV (z := zF) (N := mX2_readWorth) (nn := 2) (o1 := some (.int (b2i v))) (sX2_readWorth hf hs1) (rfl : shp 26 = (2, 0)) (by decide) (shp_le (rfl : shp 26 = (2, 0)) (nle rfl)) (ci := 2) rfl rfl tw_3_68 tw_1_4 hl tw_3_67 tp_15 ⟨by decide, by decide, rfl⟩ hR rfl hrest hd ⟨Nat.zero_le _, Nat.zero_le _⟩ rfl (fun h => k (h rfl))

theorem dX2_readQuestions_0 : decode cX2_readQuestions 0 = .ok (.iconst 0, 1) := by decide +kernel
theorem dX2_readQuestions_1 : decode cX2_readQuestions 1 = .ok (.istore_n 2, 1) := by decide +kernel
theorem dX2_readQuestions_2 : decode cX2_readQuestions 2 = .ok (.iload_n 2, 1) := by decide +kernel
theorem dX2_readQuestions_3 : decode cX2_readQuestions 3 = .ok (.bipush 12, 2) := by decide +kernel
theorem dX2_readQuestions_5 : decode cX2_readQuestions 5 = .ok (.if_icmp .gt 101, 3) := by decide +kernel
theorem dX2_readQuestions_8 : decode cX2_readQuestions 8 = .ok (.aload_n 0, 1) := by decide +kernel
theorem dX2_readQuestions_9 : decode cX2_readQuestions 9 = .ok (.getfield 87, 3) := by decide +kernel
theorem dX2_readQuestions_12 : decode cX2_readQuestions 12 = .ok (.ifCond .ne 5, 3) := by decide +kernel
theorem dX2_readQuestions_15 : decode cX2_readQuestions 15 = .ok (.iconst 1, 1) := by decide +kernel
theorem dX2_readQuestions_16 : decode cX2_readQuestions 16 = .ok (.ireturn, 1) := by decide +kernel
theorem dX2_readQuestions_17 : decode cX2_readQuestions 17 = .ok (.aload_n 0, 1) := by decide +kernel
theorem dX2_readQuestions_18 : decode cX2_readQuestions 18 = .ok (.ldc 90, 2) := by decide +kernel
theorem dX2_readQuestions_20 : decode cX2_readQuestions 20 = .ok (.invokevirtual 92, 3) := by decide +kernel
theorem dX2_readQuestions_23 : decode cX2_readQuestions 23 = .ok (.istore_n 3, 1) := by decide +kernel
theorem dX2_readQuestions_24 : decode cX2_readQuestions 24 = .ok (.iload_n 3, 1) := by decide +kernel
theorem dX2_readQuestions_25 : decode cX2_readQuestions 25 = .ok (.ifCond .ne 18, 3) := by decide +kernel
theorem dX2_readQuestions_28 : decode cX2_readQuestions 28 = .ok (.aload_n 0, 1) := by decide +kernel
theorem dX2_readQuestions_29 : decode cX2_readQuestions 29 = .ok (.ldc 95, 2) := by decide +kernel
theorem dX2_readQuestions_31 : decode cX2_readQuestions 31 = .ok (.invokevirtual 92, 3) := by decide +kernel
theorem dX2_readQuestions_34 : decode cX2_readQuestions 34 = .ok (.ifCond .ne 9, 3) := by decide +kernel
theorem dX2_readQuestions_37 : decode cX2_readQuestions 37 = .ok (.aload_n 0, 1) := by decide +kernel
theorem dX2_readQuestions_38 : decode cX2_readQuestions 38 = .ok (.iconst 1, 1) := by decide +kernel
theorem dX2_readQuestions_39 : decode cX2_readQuestions 39 = .ok (.invokevirtual 97, 3) := by decide +kernel
theorem dX2_readQuestions_42 : decode cX2_readQuestions 42 = .ok (.ireturn, 1) := by decide +kernel
theorem dX2_readQuestions_43 : decode cX2_readQuestions 43 = .ok (.iload_n 2, 1) := by decide +kernel
theorem dX2_readQuestions_44 : decode cX2_readQuestions 44 = .ok (.bipush 12, 2) := by decide +kernel
theorem dX2_readQuestions_46 : decode cX2_readQuestions 46 = .ok (.if_icmp .ne 9, 3) := by decide +kernel
theorem dX2_readQuestions_49 : decode cX2_readQuestions 49 = .ok (.aload_n 0, 1) := by decide +kernel
theorem dX2_readQuestions_50 : decode cX2_readQuestions 50 = .ok (.iconst 3, 1) := by decide +kernel
theorem dX2_readQuestions_51 : decode cX2_readQuestions 51 = .ok (.invokevirtual 97, 3) := by decide +kernel
theorem dX2_readQuestions_54 : decode cX2_readQuestions 54 = .ok (.ireturn, 1) := by decide +kernel
theorem dX2_readQuestions_55 : decode cX2_readQuestions 55 = .ok (.aload_n 0, 1) := by decide +kernel
theorem dX2_readQuestions_56 : decode cX2_readQuestions 56 = .ok (.invokevirtual 42, 3) := by decide +kernel
theorem dX2_readQuestions_59 : decode cX2_readQuestions 59 = .ok (.aload_n 1, 1) := by decide +kernel
theorem dX2_readQuestions_60 : decode cX2_readQuestions 60 = .ok (.iload_n 3, 1) := by decide +kernel
theorem dX2_readQuestions_61 : decode cX2_readQuestions 61 = .ok (.invokevirtual 100, 3) := by decide +kernel
theorem dX2_readQuestions_64 : decode cX2_readQuestions 64 = .ok (.aload_n 0, 1) := by decide +kernel
theorem dX2_readQuestions_65 : decode cX2_readQuestions 65 = .ok (.aload_n 1, 1) := by decide +kernel
theorem dX2_readQuestions_66 : decode cX2_readQuestions 66 = .ok (.invokevirtual 104, 3) := by decide +kernel
theorem dX2_readQuestions_69 : decode cX2_readQuestions 69 = .ok (.ifCond .eq 29, 3) := by decide +kernel
theorem dX2_readQuestions_72 : decode cX2_readQuestions 72 = .ok (.aload_n 0, 1) := by decide +kernel
theorem dX2_readQuestions_73 : decode cX2_readQuestions 73 = .ok (.aload_n 1, 1) := by decide +kernel
theorem dX2_readQuestions_74 : decode cX2_readQuestions 74 = .ok (.iload_n 2, 1) := by decide +kernel
theorem dX2_readQuestions_75 : decode cX2_readQuestions 75 = .ok (.invokevirtual 107, 3) := by decide +kernel
theorem dX2_readQuestions_78 : decode cX2_readQuestions 78 = .ok (.ifCond .eq 20, 3) := by decide +kernel
theorem dX2_readQuestions_81 : decode cX2_readQuestions 81 = .ok (.aload_n 0, 1) := by decide +kernel
theorem dX2_readQuestions_82 : decode cX2_readQuestions 82 = .ok (.aload_n 1, 1) := by decide +kernel
theorem dX2_readQuestions_83 : decode cX2_readQuestions 83 = .ok (.iload_n 2, 1) := by decide +kernel
theorem dX2_readQuestions_84 : decode cX2_readQuestions 84 = .ok (.invokevirtual 111, 3) := by decide +kernel
theorem dX2_readQuestions_87 : decode cX2_readQuestions 87 = .ok (.ifCond .eq 11, 3) := by decide +kernel
theorem dX2_readQuestions_90 : decode cX2_readQuestions 90 = .ok (.aload_n 0, 1) := by decide +kernel
theorem dX2_readQuestions_91 : decode cX2_readQuestions 91 = .ok (.iconst 4, 1) := by decide +kernel
theorem dX2_readQuestions_92 : decode cX2_readQuestions 92 = .ok (.invokevirtual 75, 3) := by decide +kernel
theorem dX2_readQuestions_95 : decode cX2_readQuestions 95 = .ok (.ifCond .ne 5, 3) := by decide +kernel
theorem dX2_readQuestions_98 : decode cX2_readQuestions 98 = .ok (.iconst 0, 1) := by decide +kernel
theorem dX2_readQuestions_99 : decode cX2_readQuestions 99 = .ok (.ireturn, 1) := by decide +kernel
theorem dX2_readQuestions_100 : decode cX2_readQuestions 100 = .ok (.iinc 2 1, 3) := by decide +kernel
theorem dX2_readQuestions_103 : decode cX2_readQuestions 103 = .ok (.goto (-101), 3) := by decide +kernel
theorem dX2_readQuestions_106 : decode cX2_readQuestions 106 = .ok (.iconst 1, 1) := by decide +kernel
theorem dX2_readQuestions_107 : decode cX2_readQuestions 107 = .ok (.ireturn, 1) := by decide +kernel
def mX2_readQuestions : MM := (yX2_readQuestions, cX2_readQuestions, 4, Option.some Jvm.ClassFile.FieldType.boolean, { frames := 7, cells := 0, slots := 0, locals := 196 })
def X2_readQuestions_L2 (o1_ : Nat)  : Nat → Int32 → SS → Option (Bool × SS) :=
  lp (fun _ _ => none) fun rec v2_ σ_ =>
    if (12 : Int32) < v2_ then (
      some (true, σ_)
      ) else (
      if (gI σ_ 26 4) = 0 then (
        some (true, σ_)
        ) else (
        bnd1 (fX2_isWord σ_ 2) fun b2 =>
        vthen (fun  (σ4 : SS) =>
          if v2_ = (12 : Int32) then (
            bnd (fX2_refuse σ4 (3 : Int32)) fun b24 σ26 =>
            some (b24, σ26)
            ) else (
            bnd1 (fX2_advance σ4) fun σ5 =>
            bnd1 (fX1_addQuestion σ5 o1_ b2) fun σ6 =>
            bnd (fX2_readPlaces σ6 o1_) fun b8 σ10 =>
            if b8 = true then (
              bnd (fX2_readKey σ10 o1_ v2_) fun b12 σ14 =>
              if b12 = true then (
                bnd (fX2_readWorth σ14 o1_ v2_) fun b16 σ18 =>
                if b16 = true then (
                  bnd (fX2_takeSign σ18 (4 : Int32)) fun b20 σ22 =>
                  if b20 = true then (
                    rec (v2_ + (1 : Int32)) σ22
                    ) else (
                    some (false, σ22)
                    )
                  ) else (
                  some (false, σ18)
                  )
                ) else (
                some (false, σ14)
                )
              ) else (
              some (false, σ10)
              )
            )
          ) fun j43 =>
        if b2 = true then (
          j43 σ_
          ) else (
          bnd1 (fX2_isWord σ_ 3) fun b28 =>
          if b28 = true then (
            j43 σ_
            ) else (
            bnd (fX2_refuse σ_ (1 : Int32)) fun b31 σ33 =>
            some (b31, σ33)
            )
          )
        )
      )

def fX2_readQuestions (σ : SS) (a1 : Nat) : Option (Bool × SS) :=
  X2_readQuestions_L2 a1
  fuel (0 : Int32) σ

set_option maxRecDepth 20000 in
theorem sX2_readQuestions_L2 {g : GG} {r : Bool × SS} {o1_ : Nat}  (hs1_ : shp o1_ = (1, 0))
    (n : Nat) : ∀ (v2_ : Int32) (σ_ : SS), X2_readQuestions_L2 o1_ n v2_ σ_ = some r → WT σ_ → RR g mX2_readQuestions (FinR g mX2_readQuestions (some (.int (b2i r.1))) NF r.2) zF 2 [(0, .ref (ad g 26)), (1, .ref (ad g o1_)), (2, .int v2_)] [] σ_ := by
  unfold X2_readQuestions_L2
  refine lp_ind (P := fun (rec : Int32 → SS → Option (Bool × SS)) => ∀ (v2_ : Int32) (σ_ : SS), rec v2_ σ_ = some r → WT σ_ → RR g mX2_readQuestions (FinR g mX2_readQuestions (some (.int (b2i r.1))) NF r.2) zF 2 [(0, .ref (ad g 26)), (1, .ref (ad g o1_)), (2, .int v2_)] [] σ_) ?_ ?_ n
  · intro v2_ σ_ hr; cases hr
  intro rec ih v2_ σ_ hr hw_
  refine r_iload_n (pc := 2) (j := 2) dX2_readQuestions_2 rfl rfl ?_
  refine r_bipush (pc := 3) (v := (12 : Int32)) dX2_readQuestions_3 rfl ?_
  refine r_icmp_gt (pc := 5) (tgt := 106) dX2_readQuestions_5 rfl (fun hc => ?_) (fun hc => ?_)
  · replace hr := ite_t hc hr
    refine r_iconst (pc := 106) (v := (1 : Int32)) dX2_readQuestions_106 rfl ?_
    exact l_osz hr (r_zret (pc := 107) (v := b2i true) (ty := .boolean) rfl (b2i_nar _) rfl ⟨Nat.le_refl _, Nat.le_refl _⟩ dX2_readQuestions_107)
  replace hr := ite_f hc hr
  refine r_aload_n (pc := 8) (j := 0) dX2_readQuestions_8 rfl rfl ?_
  refine gf2_4 (pc := 9) tw_1_150 rfl dX2_readQuestions_9 ?_
  refine r_if_ne (pc := 12) (tgt := 17) dX2_readQuestions_12 rfl (fun hc => ?_) (fun hc => ?_)
  · replace hr := ite_f hc hr
    refine r_aload_n (pc := 17) (j := 0) dX2_readQuestions_17 rfl rfl ?_
    refine r_ldcs (pc := 18) 2 (by decide) rfl dX2_readQuestions_18 ?_
    obtain ⟨b2, hb2, hr⟩ := bnd1_inv hr
    refine kX2_isWord (pc := 20) hb2 (by decide) tw_2_198 ⟨nle rfl, nle rfl⟩ (nle rfl) dX2_readQuestions_20 ?_
    refine r_istore_n (pc := 23) (ls1 := [(3, .int (b2i b2)), (0, .ref (ad g 26)), (1, .ref (ad g o1_)), (2, .int v2_)]) dX2_readQuestions_23 rfl (nle rfl) rfl ?_
    refine r_iload_n (pc := 24) (j := 0) dX2_readQuestions_24 rfl rfl ?_
    obtain ⟨j43, ej43, hr⟩ := vth_ex hr
    have hj43 : ∀ (σ4 : SS), j43 σ4 = some r → WT σ4 → RR g mX2_readQuestions (FinR g mX2_readQuestions (some (.int (b2i r.1))) NF r.2) zF 43 [(0, .ref (ad g 26)), (1, .ref (ad g o1_)), (2, .int v2_), (3, .int (b2i b2))] [] σ4 := by
      intro σ4 hr hσ4
      replace hr := (congrFun ej43 σ4).symm.trans hr
      refine r_iload_n (pc := 43) (j := 2) dX2_readQuestions_43 rfl rfl ?_
      refine r_bipush (pc := 44) (v := (12 : Int32)) dX2_readQuestions_44 rfl ?_
      refine r_icmp_ne (pc := 46) (tgt := 55) dX2_readQuestions_46 rfl (fun hc => ?_) (fun hc => ?_)
      · replace hr := ite_f hc hr
        refine r_aload_n (pc := 55) (j := 0) dX2_readQuestions_55 rfl rfl ?_
        obtain ⟨σ5, eσ5, hr⟩ := bnd1_inv hr
        refine kX2_advance (pc := 56) eσ5 tw_2_178 ⟨nle rfl, nle rfl⟩ (nle rfl) dX2_readQuestions_56 fun hσ5 => ?_
        refine r_aload_n (pc := 59) (j := 1) dX2_readQuestions_59 rfl rfl ?_
        refine r_iload_n (pc := 60) (j := 3) dX2_readQuestions_60 rfl rfl ?_
        obtain ⟨σ6, eσ6, hr⟩ := bnd1_inv hr
        refine kX1_addQuestion (pc := 61) eσ6 hs1_ tw_3_33 ⟨nle rfl, nle rfl⟩ (nle rfl) dX2_readQuestions_61 fun hσ6 => ?_
        refine r_aload_n (pc := 64) (j := 0) dX2_readQuestions_64 rfl rfl ?_
        refine r_aload_n (pc := 65) (j := 1) dX2_readQuestions_65 rfl rfl ?_
        obtain ⟨b8, σ10, eσ10, hr⟩ := bnd_inv hr
        refine kX2_readPlaces (pc := 66) eσ10 hs1_ tw_3_37 ⟨nle rfl, nle rfl⟩ (nle rfl) dX2_readQuestions_66 fun hσ10 => ?_
        refine r_ifB_eq (pc := 69) (tgt := 98) dX2_readQuestions_69 rfl (fun hc => ?_) (fun hc => ?_)
        · replace hr := ite_f hc hr
          refine r_iconst (pc := 98) (v := (0 : Int32)) dX2_readQuestions_98 rfl ?_
          exact l_osz hr (r_zret (pc := 99) (v := b2i false) (ty := .boolean) rfl (b2i_nar _) rfl ⟨Nat.le_refl _, Nat.le_refl _⟩ dX2_readQuestions_99)
        replace hr := ite_t hc hr
        refine r_aload_n (pc := 72) (j := 0) dX2_readQuestions_72 rfl rfl ?_
        refine r_aload_n (pc := 73) (j := 1) dX2_readQuestions_73 rfl rfl ?_
        refine r_iload_n (pc := 74) (j := 2) dX2_readQuestions_74 rfl rfl ?_
        obtain ⟨b12, σ14, eσ14, hr⟩ := bnd_inv hr
        refine kX2_readKey (pc := 75) eσ14 hs1_ tw_3_56 ⟨nle rfl, nle rfl⟩ (nle rfl) dX2_readQuestions_75 fun hσ14 => ?_
        refine r_ifB_eq (pc := 78) (tgt := 98) dX2_readQuestions_78 rfl (fun hc => ?_) (fun hc => ?_)
        · replace hr := ite_f hc hr
          refine r_iconst (pc := 98) (v := (0 : Int32)) dX2_readQuestions_98 rfl ?_
          exact l_osz hr (r_zret (pc := 99) (v := b2i false) (ty := .boolean) rfl (b2i_nar _) rfl ⟨Nat.le_refl _, Nat.le_refl _⟩ dX2_readQuestions_99)
        replace hr := ite_t hc hr
        refine r_aload_n (pc := 81) (j := 0) dX2_readQuestions_81 rfl rfl ?_
        refine r_aload_n (pc := 82) (j := 1) dX2_readQuestions_82 rfl rfl ?_
        refine r_iload_n (pc := 83) (j := 2) dX2_readQuestions_83 rfl rfl ?_
        obtain ⟨b16, σ18, eσ18, hr⟩ := bnd_inv hr
        refine kX2_readWorth (pc := 84) eσ18 hs1_ tw_3_65 ⟨nle rfl, nle rfl⟩ (nle rfl) dX2_readQuestions_84 fun hσ18 => ?_
        refine r_ifB_eq (pc := 87) (tgt := 98) dX2_readQuestions_87 rfl (fun hc => ?_) (fun hc => ?_)
        · replace hr := ite_f hc hr
          refine r_iconst (pc := 98) (v := (0 : Int32)) dX2_readQuestions_98 rfl ?_
          exact l_osz hr (r_zret (pc := 99) (v := b2i false) (ty := .boolean) rfl (b2i_nar _) rfl ⟨Nat.le_refl _, Nat.le_refl _⟩ dX2_readQuestions_99)
        replace hr := ite_t hc hr
        refine r_aload_n (pc := 90) (j := 0) dX2_readQuestions_90 rfl rfl ?_
        refine r_iconst (pc := 91) (v := (4 : Int32)) dX2_readQuestions_91 rfl ?_
        obtain ⟨b20, σ22, eσ22, hr⟩ := bnd_inv hr
        refine kX2_takeSign (pc := 92) eσ22 tw_3_22 ⟨nle rfl, nle rfl⟩ (nle rfl) dX2_readQuestions_92 fun hσ22 => ?_
        refine r_ifB_ne (pc := 95) (tgt := 100) dX2_readQuestions_95 rfl (fun hc => ?_) (fun hc => ?_)
        · replace hr := ite_t hc hr
          refine r_iinc (pc := 100) (j := 2) (v := (v2_ + (1 : Int32))) (ls1 := [(2, .int (v2_ + (1 : Int32))), (0, .ref (ad g 26)), (1, .ref (ad g o1_)), (3, .int (b2i b2))]) dX2_readQuestions_100 rfl rfl (nle rfl) rfl ?_
          refine r_goto (pc := 103) (tgt := 2) dX2_readQuestions_103 rfl ?_
          exact r_pick (ls1 := [(0, .ref (ad g 26)), (1, .ref (ad g o1_)), (2, .int (v2_ + (1 : Int32)))]) [1, 2, 0] rfl (ih (v2_ + (1 : Int32)) σ22 hr hσ22)
        replace hr := ite_f hc hr
        refine r_iconst (pc := 98) (v := (0 : Int32)) dX2_readQuestions_98 rfl ?_
        exact l_osz hr (r_zret (pc := 99) (v := b2i false) (ty := .boolean) rfl (b2i_nar _) rfl ⟨Nat.le_refl _, Nat.le_refl _⟩ dX2_readQuestions_99)
      replace hr := ite_t hc hr
      refine r_aload_n (pc := 49) (j := 0) dX2_readQuestions_49 rfl rfl ?_
      refine r_iconst (pc := 50) (v := (3 : Int32)) dX2_readQuestions_50 rfl ?_
      obtain ⟨b24, σ26, eσ26, hr⟩ := bnd_inv hr
      refine kX2_refuse (pc := 51) eσ26 tw_3_10 ⟨nle rfl, nle rfl⟩ (nle rfl) dX2_readQuestions_51 fun hσ26 => ?_
      exact l_osz hr (r_zret (pc := 54) (v := b2i b24) (ty := .boolean) rfl (b2i_nar _) rfl ⟨Nat.le_refl _, Nat.le_refl _⟩ dX2_readQuestions_54)
    refine r_ifB_ne (pc := 25) (tgt := 43) dX2_readQuestions_25 rfl (fun hc => ?_) (fun hc => ?_)
    · replace hr := ite_t hc hr
      exact r_pick (ls1 := [(0, .ref (ad g 26)), (1, .ref (ad g o1_)), (2, .int v2_), (3, .int (b2i b2))]) [1, 2, 3, 0] rfl (hj43 σ_ hr hw_)
    replace hr := ite_f hc hr
    refine r_aload_n (pc := 28) (j := 1) dX2_readQuestions_28 rfl rfl ?_
    refine r_ldcs (pc := 29) 3 (by decide) rfl dX2_readQuestions_29 ?_
    obtain ⟨b28, hb28, hr⟩ := bnd1_inv hr
    refine kX2_isWord (pc := 31) hb28 (by decide) tw_2_198 ⟨nle rfl, nle rfl⟩ (nle rfl) dX2_readQuestions_31 ?_
    refine r_ifB_ne (pc := 34) (tgt := 43) dX2_readQuestions_34 rfl (fun hc => ?_) (fun hc => ?_)
    · replace hr := ite_t hc hr
      exact r_pick (ls1 := [(0, .ref (ad g 26)), (1, .ref (ad g o1_)), (2, .int v2_), (3, .int (b2i b2))]) [1, 2, 3, 0] rfl (hj43 σ_ hr hw_)
    replace hr := ite_f hc hr
    refine r_aload_n (pc := 37) (j := 1) dX2_readQuestions_37 rfl rfl ?_
    refine r_iconst (pc := 38) (v := (1 : Int32)) dX2_readQuestions_38 rfl ?_
    obtain ⟨b31, σ33, eσ33, hr⟩ := bnd_inv hr
    refine kX2_refuse (pc := 39) eσ33 tw_3_10 ⟨nle rfl, nle rfl⟩ (nle rfl) dX2_readQuestions_39 fun hσ33 => ?_
    exact l_osz hr (r_zret (pc := 42) (v := b2i b31) (ty := .boolean) rfl (b2i_nar _) rfl ⟨Nat.le_refl _, Nat.le_refl _⟩ dX2_readQuestions_42)
  replace hr := ite_t hc hr
  refine r_iconst (pc := 15) (v := (1 : Int32)) dX2_readQuestions_15 rfl ?_
  exact l_osz hr (r_zret (pc := 16) (v := b2i true) (ty := .boolean) rfl (b2i_nar _) rfl ⟨Nat.le_refl _, Nat.le_refl _⟩ dX2_readQuestions_16)

set_option maxRecDepth 20000 in
theorem sX2_readQuestions {g : GG} {σ : SS} {a1 : Nat} {r : Bool × SS} (hr : fX2_readQuestions σ a1 = some r) (hs1 : shp a1 = (1, 0)) : Ct g mX2_readQuestions [.ref (ad g 26), .ref (ad g a1)] NF σ (some (.int (b2i r.1))) NF r.2 := by
  refine Ct.of (by decide +kernel) (nle rfl) fun hw0 => ?_
  have hw := hw0 rfl
  unfold fX2_readQuestions at hr
  change RR g mX2_readQuestions (FinR g mX2_readQuestions (some (.int (b2i r.1))) NF r.2) zF 0 [(0, .ref (ad g 26)), (1, .ref (ad g a1))] [] σ
  refine r_iconst (pc := 0) (v := (0 : Int32)) dX2_readQuestions_0 rfl ?_
  refine r_istore_n (pc := 1) (ls1 := [(2, .int (0 : Int32)), (0, .ref (ad g 26)), (1, .ref (ad g a1))]) dX2_readQuestions_1 rfl (nle rfl) rfl ?_
  refine r_pick (ls1 := [(0, .ref (ad g 26)), (1, .ref (ad g a1)), (2, .int (0 : Int32))]) [1, 2, 0] rfl ?_
  refine sX2_readQuestions_L2 hs1    fuel (0 : Int32) σ hr hw

theorem kX2_readQuestions {g : GG} {σ : SS} {a1 : Nat} {v : Bool} {σ2 : SS} {M : MM} {F : State → Array Value → List Frame → State → Prop} {pc index : Nat} {ls : List (Nat × Value)} {rest : List Value} (hf : fX2_readQuestions σ a1 = some (v, σ2)) (hs1 : shp a1 = (1, 0)) (hl : Cond.methodLink M.1.cls index yX2_readQuestions ∈ lw_gt) (hR : mX2_readQuestions.2.2.2.2.frames + 1 ≤ M.2.2.2.2.frames ∧ 8 + (mX2_readQuestions.2.2.1 + 11) + mX2_readQuestions.2.2.2.2.locals ≤ M.2.2.2.2.locals) (hrest : (rest.map fun v => v.category).sum ≤ 8) (hd : decode M.2.1 pc = .ok (.invokevirtual index, 3)) (k : WT σ2 → RR g M F zF (pc + 3) ls (.int (b2i v) :: rest) σ2) : RR g M F zF pc ls (.ref (ad g a1) :: .ref (ad g 26) :: rest) σ :=
  r_callV (z := zF) (N := mX2_readQuestions) (nn := 1) (o1 := some (.int (b2i v))) (sX2_readQuestions hf hs1) (rfl : shp 26 = (2, 0)) (by decide) (shp_le (rfl : shp 26 = (2, 0)) (nle rfl)) (ci := 2) rfl rfl tw_3_30 tw_1_4 hl tw_3_29 tp_10 ⟨by decide, by decide, rfl⟩ hR rfl hrest hd ⟨Nat.zero_le _, Nat.zero_le _⟩ rfl (fun h => k (h rfl))

theorem dX2_read_0 : decode cX2_read 0 = .ok (.aload_n 0, 1) := by decide +kernel
theorem dX2_read_1 : decode cX2_read 1 = .ok (.iload_n 2, 1) := by decide +kernel
theorem dX2_read_2 : decode cX2_read 2 = .ok (.sipush 400, 3) := by decide +kernel
theorem dX2_read_5 : decode cX2_read 5 = .ok (.invokestatic 15, 3) := by decide +kernel
theorem dX2_read_8 : decode cX2_read 8 = .ok (.putfield 21, 3) := by decide +kernel
theorem dX2_read_11 : decode cX2_read 11 = .ok (.aload_n 1, 1) := by decide +kernel
theorem dX2_read_12 : decode cX2_read 12 = .ok (.iconst 0, 1) := by decide +kernel
theorem dX2_read_13 : decode cX2_read 13 = .ok (.aload_n 0, 1) := by decide +kernel
theorem dX2_read_14 : decode cX2_read 14 = .ok (.getfield 9, 3) := by decide +kernel
theorem dX2_read_17 : decode cX2_read 17 = .ok (.iconst 0, 1) := by decide +kernel
theorem dX2_read_18 : decode cX2_read 18 = .ok (.aload_n 0, 1) := by decide +kernel
theorem dX2_read_19 : decode cX2_read 19 = .ok (.getfield 21, 3) := by decide +kernel
theorem dX2_read_22 : decode cX2_read 22 = .ok (.invokestatic 25, 3) := by decide +kernel
theorem dX2_read_25 : decode cX2_read 25 = .ok (.aload_n 0, 1) := by decide +kernel
theorem dX2_read_26 : decode cX2_read 26 = .ok (.iconst 0, 1) := by decide +kernel
theorem dX2_read_27 : decode cX2_read 27 = .ok (.putfield 31, 3) := by decide +kernel
theorem dX2_read_30 : decode cX2_read 30 = .ok (.aload_n 0, 1) := by decide +kernel
theorem dX2_read_31 : decode cX2_read 31 = .ok (.iconst 0, 1) := by decide +kernel
theorem dX2_read_32 : decode cX2_read 32 = .ok (.putfield 34, 3) := by decide +kernel
theorem dX2_read_35 : decode cX2_read 35 = .ok (.aload_n 3, 1) := by decide +kernel
theorem dX2_read_36 : decode cX2_read 36 = .ok (.invokevirtual 37, 3) := by decide +kernel
theorem dX2_read_39 : decode cX2_read 39 = .ok (.aload_n 0, 1) := by decide +kernel
theorem dX2_read_40 : decode cX2_read 40 = .ok (.invokevirtual 42, 3) := by decide +kernel
theorem dX2_read_43 : decode cX2_read 43 = .ok (.aload_n 0, 1) := by decide +kernel
theorem dX2_read_44 : decode cX2_read 44 = .ok (.aload_n 3, 1) := by decide +kernel
theorem dX2_read_45 : decode cX2_read 45 = .ok (.invokevirtual 45, 3) := by decide +kernel
theorem dX2_read_48 : decode cX2_read 48 = .ok (.ifCond .eq 16, 3) := by decide +kernel
theorem dX2_read_51 : decode cX2_read 51 = .ok (.aload_n 0, 1) := by decide +kernel
theorem dX2_read_52 : decode cX2_read 52 = .ok (.aload_n 3, 1) := by decide +kernel
theorem dX2_read_53 : decode cX2_read 53 = .ok (.invokevirtual 49, 3) := by decide +kernel
theorem dX2_read_56 : decode cX2_read 56 = .ok (.ifCond .eq 8, 3) := by decide +kernel
theorem dX2_read_59 : decode cX2_read 59 = .ok (.aload_n 3, 1) := by decide +kernel
theorem dX2_read_60 : decode cX2_read 60 = .ok (.iconst 1, 1) := by decide +kernel
theorem dX2_read_61 : decode cX2_read 61 = .ok (.putfield 52, 3) := by decide +kernel
theorem dX2_read_64 : decode cX2_read 64 = .ok (.aload_n 0, 1) := by decide +kernel
theorem dX2_read_65 : decode cX2_read 65 = .ok (.getfield 34, 3) := by decide +kernel
theorem dX2_read_68 : decode cX2_read 68 = .ok (.ireturn, 1) := by decide +kernel
def mX2_read : MM := (yX2_read, cX2_read, 4, Option.some Jvm.ClassFile.FieldType.int, { frames := 8, cells := 0, slots := 0, locals := 219 })
def fX2_read (σ : SS) (a2 : Int32) (a3 : Nat) : Option (Int32 × SS) :=
  vthen (sI σ 26 1 (fJ9_min_7cf53 σ a2 (400 : Int32))) fun σ1 =>
  grd (cpOK (0 : Int32) (0 : Int32) (gI σ1 26 1) 480 400) <|
  vthen (cpA σ1 2 (0 : Int32) 27 (0 : Int32) (gI σ1 26 1)) fun σ2 =>
  vthen (sI σ2 26 3 (0 : Int32)) fun σ4 =>
  vthen (sI σ4 26 7 (0 : Int32)) fun σ5 =>
  bnd1 (fX1_empty σ5 a3) fun σ6 =>
  bnd1 (fX2_advance σ6) fun σ7 =>
  bnd (fX2_readHead σ7 a3) fun b9 σ11 =>
  if b9 = true then (
    bnd (fX2_readQuestions σ11 a3) fun b13 σ15 =>
    if b13 = true then (
      vthen (sI σ15 a3 0 (1 : Int32)) fun σ16 =>
      some ((gI σ16 26 7), σ16)
      ) else (
      some ((gI σ15 26 7), σ15)
      )
    ) else (
    some ((gI σ11 26 7), σ11)
    )

set_option maxRecDepth 20000 in
theorem sX2_read {g : GG} {σ : SS} {a2 : Int32} {a3 : Nat} {r : Int32 × SS} (hr : fX2_read σ a2 a3 = some r) (hs3 : shp a3 = (1, 0)) : Ct g mX2_read [.ref (ad g 26), .ref (ad g 2), .int a2, .ref (ad g a3)] NF σ (some (.int r.1)) NF r.2 := by
  refine Ct.of (by decide +kernel) (nle rfl) fun hw0 => ?_
  have hw := hw0 rfl
  unfold fX2_read at hr
  change RR g mX2_read (FinR g mX2_read (some (.int r.1)) NF r.2) zF 0 [(0, .ref (ad g 26)), (1, .ref (ad g 2)), (2, .int a2), (3, .ref (ad g a3))] [] σ
  refine r_aload_n (pc := 0) (j := 0) dX2_read_0 rfl rfl ?_
  refine r_iload_n (pc := 1) (j := 2) dX2_read_1 rfl rfl ?_
  refine r_sipush (pc := 2) (v := (400 : Int32)) dX2_read_2 rfl ?_
  refine kJ9_min_7cf53 (pc := 5) (hf := rfl) tw_2_168 ⟨nle rfl, nle rfl⟩ (nle rfl) dX2_read_5 ?_
  refine pf2_1 (pc := 8) tw_1_147 rfl dX2_read_8 fun σ1 eσ1 => ?_
  replace hr := vthen_inv hr σ1 eσ1
  have hσ1 := wtI eσ1 hw
  refine r_aload_n (pc := 11) (j := 1) dX2_read_11 rfl rfl ?_
  refine r_iconst (pc := 12) (v := (0 : Int32)) dX2_read_12 rfl ?_
  refine r_aload_n (pc := 13) (j := 0) dX2_read_13 rfl rfl ?_
  refine gf2_0 (pc := 14) tw_1_146 hσ1 dX2_read_14 ?_
  refine r_iconst (pc := 17) (v := (0 : Int32)) dX2_read_17 rfl ?_
  refine r_aload_n (pc := 18) (j := 0) dX2_read_18 rfl rfl ?_
  refine gf2_1 (pc := 19) tw_1_147 rfl dX2_read_19 ?_
  obtain ⟨h3, hr⟩ := grd_inv hr
  refine x_cpy (pc := 22) rfl rfl h3 tw_2_171 ⟨nle rfl, nle rfl⟩ (nle rfl) dX2_read_22 fun σ2 eσ2 => ?_
  replace hr := vthen_inv hr σ2 eσ2
  have hσ2 := wtA eσ2 hσ1
  refine r_aload_n (pc := 25) (j := 0) dX2_read_25 rfl rfl ?_
  refine r_iconst (pc := 26) (v := (0 : Int32)) dX2_read_26 rfl ?_
  refine pf2_3 (pc := 27) tw_1_149 rfl dX2_read_27 fun σ4 eσ4 => ?_
  replace hr := vthen_inv hr σ4 eσ4
  have hσ4 := wtI eσ4 hσ2
  refine r_aload_n (pc := 30) (j := 0) dX2_read_30 rfl rfl ?_
  refine r_iconst (pc := 31) (v := (0 : Int32)) dX2_read_31 rfl ?_
  refine pf2_7 (pc := 32) tw_1_153 rfl dX2_read_32 fun σ5 eσ5 => ?_
  replace hr := vthen_inv hr σ5 eσ5
  have hσ5 := wtI eσ5 hσ4
  refine r_aload_n (pc := 35) (j := 3) dX2_read_35 rfl rfl ?_
  obtain ⟨σ6, eσ6, hr⟩ := bnd1_inv hr
  refine kX1_empty (pc := 36) eσ6 hs3 tw_2_174 ⟨nle rfl, nle rfl⟩ (nle rfl) dX2_read_36 fun hσ6 => ?_
  refine r_aload_n (pc := 39) (j := 0) dX2_read_39 rfl rfl ?_
  obtain ⟨σ7, eσ7, hr⟩ := bnd1_inv hr
  refine kX2_advance (pc := 40) eσ7 tw_2_178 ⟨nle rfl, nle rfl⟩ (nle rfl) dX2_read_40 fun hσ7 => ?_
  refine r_aload_n (pc := 43) (j := 0) dX2_read_43 rfl rfl ?_
  refine r_aload_n (pc := 44) (j := 3) dX2_read_44 rfl rfl ?_
  obtain ⟨b9, σ11, eσ11, hr⟩ := bnd_inv hr
  refine kX2_readHead (pc := 45) eσ11 hs3 tw_2_189 ⟨nle rfl, nle rfl⟩ (nle rfl) dX2_read_45 fun hσ11 => ?_
  refine r_ifB_eq (pc := 48) (tgt := 64) dX2_read_48 rfl (fun hc => ?_) (fun hc => ?_)
  · replace hr := ite_f hc hr
    refine r_aload_n (pc := 64) (j := 0) dX2_read_64 rfl rfl ?_
    refine gf2_7 (pc := 65) tw_1_153 rfl dX2_read_65 ?_
    exact l_osi hr (r_iret (pc := 68) (v := (gI σ11 26 7)) rfl rfl ⟨Nat.le_refl _, Nat.le_refl _⟩ dX2_read_68)
  replace hr := ite_t hc hr
  refine r_aload_n (pc := 51) (j := 0) dX2_read_51 rfl rfl ?_
  refine r_aload_n (pc := 52) (j := 3) dX2_read_52 rfl rfl ?_
  obtain ⟨b13, σ15, eσ15, hr⟩ := bnd_inv hr
  refine kX2_readQuestions (pc := 53) eσ15 hs3 tw_3_27 ⟨nle rfl, nle rfl⟩ (nle rfl) dX2_read_53 fun hσ15 => ?_
  refine r_ifB_eq (pc := 56) (tgt := 64) dX2_read_56 rfl (fun hc => ?_) (fun hc => ?_)
  · replace hr := ite_f hc hr
    refine r_aload_n (pc := 64) (j := 0) dX2_read_64 rfl rfl ?_
    refine gf2_7 (pc := 65) tw_1_153 rfl dX2_read_65 ?_
    exact l_osi hr (r_iret (pc := 68) (v := (gI σ15 26 7)) rfl rfl ⟨Nat.le_refl _, Nat.le_refl _⟩ dX2_read_68)
  replace hr := ite_t hc hr
  refine r_aload_n (pc := 59) (j := 3) dX2_read_59 rfl rfl ?_
  refine r_iconst (pc := 60) (v := (1 : Int32)) dX2_read_60 rfl ?_
  refine pf1_0 (pc := 61) tw_1_60 hs3 rfl dX2_read_61 fun σ16 eσ16 => ?_
  replace hr := vthen_inv hr σ16 eσ16
  have hσ16 := wtI eσ16 hσ15
  refine r_aload_n (pc := 64) (j := 0) dX2_read_64 rfl rfl ?_
  refine gf2_7 (pc := 65) tw_1_153 rfl dX2_read_65 ?_
  exact l_osi hr (r_iret (pc := 68) (v := (gI σ16 26 7)) rfl rfl ⟨Nat.le_refl _, Nat.le_refl _⟩ dX2_read_68)

theorem kX2_read {g : GG} {σ : SS} {a2 : Int32} {a3 : Nat} {v : Int32} {σ2 : SS} {M : MM} {F : State → Array Value → List Frame → State → Prop} {pc index : Nat} {ls : List (Nat × Value)} {rest : List Value} (hf : fX2_read σ a2 a3 = some (v, σ2)) (hs3 : shp a3 = (1, 0)) (hl : Cond.methodLink M.1.cls index yX2_read ∈ lw_gt) (hR : mX2_read.2.2.2.2.frames + 1 ≤ M.2.2.2.2.frames ∧ 8 + (mX2_read.2.2.1 + 11) + mX2_read.2.2.2.2.locals ≤ M.2.2.2.2.locals) (hrest : (rest.map fun v => v.category).sum ≤ 8) (hd : decode M.2.1 pc = .ok (.invokevirtual index, 3)) (k : WT σ2 → RR g M F zF (pc + 3) ls (.int v :: rest) σ2) : RR g M F zF pc ls (.ref (ad g a3) :: .int a2 :: .ref (ad g 2) :: .ref (ad g 26) :: rest) σ :=
  r_callV (z := zF) (N := mX2_read) (nn := 3) (o1 := some (.int v)) (sX2_read hf hs3) (rfl : shp 26 = (2, 0)) (by decide) (shp_le (rfl : shp 26 = (2, 0)) (nle rfl)) (ci := 2) rfl rfl tw_2_167 tw_1_4 hl tw_2_165 tw_2_166 ⟨by decide, by decide, rfl⟩ hR rfl hrest hd ⟨Nat.zero_le _, Nat.zero_le _⟩ rfl (fun h => k (h rfl))

theorem dX7_form_0 : decode cX7_form 0 = .ok (.iload_n 1, 1) := by decide +kernel
theorem dX7_form_1 : decode cX7_form 1 = .ok (.iconst 1, 1) := by decide +kernel
theorem dX7_form_2 : decode cX7_form 2 = .ok (.if_icmp .lt 18, 3) := by decide +kernel
theorem dX7_form_5 : decode cX7_form 5 = .ok (.iload_n 1, 1) := by decide +kernel
theorem dX7_form_6 : decode cX7_form 6 = .ok (.sipush 400, 3) := by decide +kernel
theorem dX7_form_9 : decode cX7_form 9 = .ok (.if_icmp .gt 11, 3) := by decide +kernel
theorem dX7_form_12 : decode cX7_form 12 = .ok (.iload_n 1, 1) := by decide +kernel
theorem dX7_form_13 : decode cX7_form 13 = .ok (.aload_n 0, 1) := by decide +kernel
theorem dX7_form_14 : decode cX7_form 14 = .ok (.getfield 77, 3) := by decide +kernel
theorem dX7_form_17 : decode cX7_form 17 = .ok (.if_icmp .le 5, 3) := by decide +kernel
theorem dX7_form_20 : decode cX7_form 20 = .ok (.iconst (-1), 1) := by decide +kernel
theorem dX7_form_21 : decode cX7_form 21 = .ok (.ireturn, 1) := by decide +kernel
theorem dX7_form_22 : decode cX7_form 22 = .ok (.aload_n 0, 1) := by decide +kernel
theorem dX7_form_23 : decode cX7_form 23 = .ok (.iconst 0, 1) := by decide +kernel
theorem dX7_form_24 : decode cX7_form 24 = .ok (.putfield 77, 3) := by decide +kernel
theorem dX7_form_27 : decode cX7_form 27 = .ok (.aload_n 0, 1) := by decide +kernel
theorem dX7_form_28 : decode cX7_form 28 = .ok (.getfield 42, 3) := by decide +kernel
theorem dX7_form_31 : decode cX7_form 31 = .ok (.aload_n 0, 1) := by decide +kernel
theorem dX7_form_32 : decode cX7_form 32 = .ok (.getfield 11, 3) := by decide +kernel
theorem dX7_form_35 : decode cX7_form 35 = .ok (.iload_n 1, 1) := by decide +kernel
theorem dX7_form_36 : decode cX7_form 36 = .ok (.aload_n 0, 1) := by decide +kernel
theorem dX7_form_37 : decode cX7_form 37 = .ok (.getfield 36, 3) := by decide +kernel
theorem dX7_form_40 : decode cX7_form 40 = .ok (.invokevirtual 84, 3) := by decide +kernel
theorem dX7_form_43 : decode cX7_form 43 = .ok (.istore_n 2, 1) := by decide +kernel
theorem dX7_form_44 : decode cX7_form 44 = .ok (.iload_n 2, 1) := by decide +kernel
theorem dX7_form_45 : decode cX7_form 45 = .ok (.ifCond .eq 5, 3) := by decide +kernel
theorem dX7_form_48 : decode cX7_form 48 = .ok (.iload_n 2, 1) := by decide +kernel
theorem dX7_form_49 : decode cX7_form 49 = .ok (.ireturn, 1) := by decide +kernel
theorem dX7_form_50 : decode cX7_form 50 = .ok (.aload_n 0, 1) := by decide +kernel
theorem dX7_form_51 : decode cX7_form 51 = .ok (.getfield 32, 3) := by decide +kernel
theorem dX7_form_54 : decode cX7_form 54 = .ok (.astore_n 3, 1) := by decide +kernel
theorem dX7_form_55 : decode cX7_form 55 = .ok (.aload_n 0, 1) := by decide +kernel
theorem dX7_form_56 : decode cX7_form 56 = .ok (.aload_n 0, 1) := by decide +kernel
theorem dX7_form_57 : decode cX7_form 57 = .ok (.getfield 36, 3) := by decide +kernel
theorem dX7_form_60 : decode cX7_form 60 = .ok (.putfield 32, 3) := by decide +kernel
theorem dX7_form_63 : decode cX7_form 63 = .ok (.aload_n 0, 1) := by decide +kernel
theorem dX7_form_64 : decode cX7_form 64 = .ok (.aload_n 3, 1) := by decide +kernel
theorem dX7_form_65 : decode cX7_form 65 = .ok (.putfield 36, 3) := by decide +kernel
theorem dX7_form_68 : decode cX7_form 68 = .ok (.aload_n 0, 1) := by decide +kernel
theorem dX7_form_69 : decode cX7_form 69 = .ok (.getfield 56, 3) := by decide +kernel
theorem dX7_form_72 : decode cX7_form 72 = .ok (.iconst 0, 1) := by decide +kernel
theorem dX7_form_73 : decode cX7_form 73 = .ok (.invokestatic 88, 3) := by decide +kernel
theorem dX7_form_76 : decode cX7_form 76 = .ok (.aload_n 0, 1) := by decide +kernel
theorem dX7_form_77 : decode cX7_form 77 = .ok (.getfield 69, 3) := by decide +kernel
theorem dX7_form_80 : decode cX7_form 80 = .ok (.iconst 0, 1) := by decide +kernel
theorem dX7_form_81 : decode cX7_form 81 = .ok (.putfield 94, 3) := by decide +kernel
theorem dX7_form_84 : decode cX7_form 84 = .ok (.aload_n 0, 1) := by decide +kernel
theorem dX7_form_85 : decode cX7_form 85 = .ok (.getfield 32, 3) := by decide +kernel
theorem dX7_form_88 : decode cX7_form 88 = .ok (.getfield 97, 3) := by decide +kernel
theorem dX7_form_91 : decode cX7_form 91 = .ok (.ireturn, 1) := by decide +kernel
def mX7_form : MM := (yX7_form, cX7_form, 4, Option.some Jvm.ClassFile.FieldType.int, { frames := 9, cells := 0, slots := 0, locals := 242 })
def fX7_form (σ : SS) (a1 : Int32) : Option (Int32 × SS) :=
  if a1 < (1 : Int32) then (
    some ((-1 : Int32), σ)
    ) else (
    if (400 : Int32) < a1 then (
      some ((-1 : Int32), σ)
      ) else (
      if a1 ≤ (gI σ 1 1) then (
        vthen (sI σ 1 1 (0 : Int32)) fun σ1 =>
        bnd (fX2_read σ1 a1 (gR σ1 1 6)) fun v2 σ5 =>
        if v2 = 0 then (
          vthen (sR σ5 1 5 (gR σ5 1 6)) fun σ6 =>
          vthen (sR σ6 1 6 (gR σ5 1 5)) fun σ7 =>
          vthen (flI σ7 30 12 (0 : Int32)) fun σ8 =>
          vthen (sI σ8 58 0 (0 : Int32)) fun σ9 =>
          some ((gI σ9 (gR σ9 1 5) 5), σ9)
          ) else (
          some (v2, σ5)
          )
        ) else (
        some ((-1 : Int32), σ)
        )
      )
    )

set_option maxRecDepth 20000 in
theorem sX7_form {g : GG} {σ : SS} {a1 : Int32} {r : Int32 × SS} (hr : fX7_form σ a1 = some r)  : Ct g mX7_form [.ref (ad g 1), .int a1] NF σ (some (.int r.1)) NF r.2 := by
  refine Ct.of (by decide +kernel) (nle rfl) fun hw0 => ?_
  have hw := hw0 rfl
  unfold fX7_form at hr
  change RR g mX7_form (FinR g mX7_form (some (.int r.1)) NF r.2) zF 0 [(0, .ref (ad g 1)), (1, .int a1)] [] σ
  refine r_iload_n (pc := 0) (j := 1) dX7_form_0 rfl rfl ?_
  refine r_iconst (pc := 1) (v := (1 : Int32)) dX7_form_1 rfl ?_
  refine r_icmp_lt (pc := 2) (tgt := 20) dX7_form_2 rfl (fun hc => ?_) (fun hc => ?_)
  · replace hr := ite_t hc hr
    refine r_iconst (pc := 20) (v := (-1 : Int32)) dX7_form_20 rfl ?_
    exact l_osi hr (r_iret (pc := 21) (v := (-1 : Int32)) rfl rfl ⟨Nat.le_refl _, Nat.le_refl _⟩ dX7_form_21)
  replace hr := ite_f hc hr
  refine r_iload_n (pc := 5) (j := 1) dX7_form_5 rfl rfl ?_
  refine r_sipush (pc := 6) (v := (400 : Int32)) dX7_form_6 rfl ?_
  refine r_icmp_gt (pc := 9) (tgt := 20) dX7_form_9 rfl (fun hc => ?_) (fun hc => ?_)
  · replace hr := ite_t hc hr
    refine r_iconst (pc := 20) (v := (-1 : Int32)) dX7_form_20 rfl ?_
    exact l_osi hr (r_iret (pc := 21) (v := (-1 : Int32)) rfl rfl ⟨Nat.le_refl _, Nat.le_refl _⟩ dX7_form_21)
  replace hr := ite_f hc hr
  refine r_iload_n (pc := 12) (j := 1) dX7_form_12 rfl rfl ?_
  refine r_aload_n (pc := 13) (j := 0) dX7_form_13 rfl rfl ?_
  refine gf7_1 (pc := 14) tw_2_110 rfl dX7_form_14 ?_
  refine r_icmp_le (pc := 17) (tgt := 22) dX7_form_17 rfl (fun hc => ?_) (fun hc => ?_)
  · replace hr := ite_t hc hr
    refine r_aload_n (pc := 22) (j := 0) dX7_form_22 rfl rfl ?_
    refine r_iconst (pc := 23) (v := (0 : Int32)) dX7_form_23 rfl ?_
    refine pf7_1 (pc := 24) tw_2_110 rfl dX7_form_24 fun σ1 eσ1 => ?_
    replace hr := vthen_inv hr σ1 eσ1
    have hσ1 := wtI eσ1 hw
    refine r_aload_n (pc := 27) (j := 0) dX7_form_27 rfl rfl ?_
    refine gf7_7 (pc := 28) tw_2_116 hσ1 dX7_form_28 ?_
    refine r_aload_n (pc := 31) (j := 0) dX7_form_31 rfl rfl ?_
    refine gf7_0 (pc := 32) tw_2_109 hσ1 dX7_form_32 ?_
    refine r_iload_n (pc := 35) (j := 1) dX7_form_35 rfl rfl ?_
    refine r_aload_n (pc := 36) (j := 0) dX7_form_36 rfl rfl ?_
    refine gf7_6 (pc := 37) tw_2_115 hσ1 dX7_form_37 ?_
    obtain ⟨v2, σ5, eσ5, hr⟩ := bnd_inv hr
    refine kX2_read (pc := 40) eσ5 (wt_dr hσ1).1 tw_2_164 ⟨nle rfl, nle rfl⟩ (nle rfl) dX7_form_40 fun hσ5 => ?_
    refine r_istore_n (pc := 43) (ls1 := [(2, .int v2), (0, .ref (ad g 1)), (1, .int a1)]) dX7_form_43 rfl (nle rfl) rfl ?_
    refine r_iload_n (pc := 44) (j := 0) dX7_form_44 rfl rfl ?_
    refine r_if_eq (pc := 45) (tgt := 50) dX7_form_45 rfl (fun hc => ?_) (fun hc => ?_)
    · replace hr := ite_t hc hr
      refine r_aload_n (pc := 50) (j := 1) dX7_form_50 rfl rfl ?_
      refine gf7_5 (pc := 51) tw_2_114 hσ5 dX7_form_51 ?_
      refine r_astore_n (pc := 54) (ls1 := [(3, .ref (ad g (gR σ5 1 5))), (2, .int v2), (0, .ref (ad g 1)), (1, .int a1)]) dX7_form_54 rfl (nle rfl) rfl ?_
      refine r_aload_n (pc := 55) (j := 2) dX7_form_55 rfl rfl ?_
      refine r_aload_n (pc := 56) (j := 2) dX7_form_56 rfl rfl ?_
      refine gf7_6 (pc := 57) tw_2_115 hσ5 dX7_form_57 ?_
      refine pr7_5 (pc := 60) (wq_dr hσ5) tw_2_114 dX7_form_60 fun σ6 eσ6 => ?_
      replace hr := vthen_inv hr σ6 eσ6
      have hσ6 := wtR eσ6 hσ5 (Or.inr (Or.inr (Or.inl ⟨rfl, (wq_dr hσ5)⟩)))
      refine r_aload_n (pc := 63) (j := 2) dX7_form_63 rfl rfl ?_
      refine r_aload_n (pc := 64) (j := 0) dX7_form_64 rfl rfl ?_
      refine pr7_6 (pc := 65) (wq_fo hσ5) tw_2_115 dX7_form_65 fun σ7 eσ7 => ?_
      replace hr := vthen_inv hr σ7 eσ7
      have hσ7 := wtR eσ7 hσ6 (Or.inr (Or.inr (Or.inr ⟨rfl, (wq_fo hσ5)⟩)))
      refine r_aload_n (pc := 68) (j := 2) dX7_form_68 rfl rfl ?_
      refine gf7_11 (pc := 69) tw_2_120 hσ7 dX7_form_69 ?_
      refine r_iconst (pc := 72) (v := (0 : Int32)) dX7_form_72 rfl ?_
      refine x_flI (pc := 73) (σ := σ7) (c0 := 30) (n := 12) (v := (0 : Int32)) rfl tw_3_70 ⟨nle rfl, nle rfl⟩ (nle rfl) dX7_form_73 fun σ8 eσ8 => ?_
      replace hr := vthen_inv hr σ8 eσ8
      have hσ8 := wtFI eσ8 hσ7
      refine r_aload_n (pc := 76) (j := 2) dX7_form_76 rfl rfl ?_
      refine gf7_13 (pc := 77) tw_2_122 hσ8 dX7_form_77 ?_
      refine r_iconst (pc := 80) (v := (0 : Int32)) dX7_form_80 rfl ?_
      refine pf4_0 (pc := 81) tw_2_79 rfl dX7_form_81 fun σ9 eσ9 => ?_
      replace hr := vthen_inv hr σ9 eσ9
      have hσ9 := wtI eσ9 hσ8
      refine r_aload_n (pc := 84) (j := 2) dX7_form_84 rfl rfl ?_
      refine gf7_5 (pc := 85) tw_2_114 hσ9 dX7_form_85 ?_
      refine gf1_5 (pc := 88) tw_1_79 (wt_fo hσ9).1 dX7_form_88 ?_
      exact l_osi hr (r_iret (pc := 91) (v := (gI σ9 (gR σ9 1 5) 5)) rfl rfl ⟨Nat.le_refl _, Nat.le_refl _⟩ dX7_form_91)
    replace hr := ite_f hc hr
    refine r_iload_n (pc := 48) (j := 0) dX7_form_48 rfl rfl ?_
    exact l_osi hr (r_iret (pc := 49) (v := v2) rfl rfl ⟨Nat.le_refl _, Nat.le_refl _⟩ dX7_form_49)
  replace hr := ite_f hc hr
  refine r_iconst (pc := 20) (v := (-1 : Int32)) dX7_form_20 rfl ?_
  exact l_osi hr (r_iret (pc := 21) (v := (-1 : Int32)) rfl rfl ⟨Nat.le_refl _, Nat.le_refl _⟩ dX7_form_21)

theorem kX7_form {g : GG} {σ : SS} {a1 : Int32} {v : Int32} {σ2 : SS} {M : MM} {F : State → Array Value → List Frame → State → Prop} {pc index : Nat} {ls : List (Nat × Value)} {rest : List Value} (hf : fX7_form σ a1 = some (v, σ2))  (hl : Cond.methodLink M.1.cls index yX7_form ∈ lw_gt) (hR : mX7_form.2.2.2.2.frames + 1 ≤ M.2.2.2.2.frames ∧ 8 + (mX7_form.2.2.1 + 11) + mX7_form.2.2.2.2.locals ≤ M.2.2.2.2.locals) (hrest : (rest.map fun v => v.category).sum ≤ 8) (hd : decode M.2.1 pc = .ok (.invokevirtual index, 3)) (k : WT σ2 → RR g M F zF (pc + 3) ls (.int v :: rest) σ2) : RR g M F zF pc ls (.int a1 :: .ref (ad g 1) :: rest) σ :=
  r_callV (z := zF) (N := mX7_form) (nn := 1) (o1 := some (.int v)) (sX7_form hf ) (rfl : shp 1 = (7, 0)) (by decide) (shp_le (rfl : shp 1 = (7, 0)) (nle rfl)) (ci := 7) rfl rfl tw_2_163 tw_1_1 hl tw_2_161 tw_2_162 ⟨by decide, by decide, rfl⟩ hR rfl hrest hd ⟨Nat.zero_le _, Nat.zero_le _⟩ rfl (fun h => k (h rfl))

theorem dX8_in_0 : decode cX8_in 0 = .ok (.iload_n 0, 1) := by decide +kernel
theorem dX8_in_1 : decode cX8_in 1 = .ok (.iload_n 1, 1) := by decide +kernel
theorem dX8_in_2 : decode cX8_in 2 = .ok (.if_icmp .lt 12, 3) := by decide +kernel
theorem dX8_in_5 : decode cX8_in 5 = .ok (.iload_n 0, 1) := by decide +kernel
theorem dX8_in_6 : decode cX8_in 6 = .ok (.iload_n 2, 1) := by decide +kernel
theorem dX8_in_7 : decode cX8_in 7 = .ok (.if_icmp .gt 7, 3) := by decide +kernel
theorem dX8_in_10 : decode cX8_in 10 = .ok (.iconst 1, 1) := by decide +kernel
theorem dX8_in_11 : decode cX8_in 11 = .ok (.goto 4, 3) := by decide +kernel
theorem dX8_in_14 : decode cX8_in 14 = .ok (.iconst 0, 1) := by decide +kernel
theorem dX8_in_15 : decode cX8_in 15 = .ok (.ireturn, 1) := by decide +kernel
def mX8_in : MM := (yX8_in, cX8_in, 3, Option.some Jvm.ClassFile.FieldType.boolean, { frames := 0, cells := 0, slots := 0, locals := 0 })
def fX8_in (σ0 : SS) (a0 : Int32) (a1 : Int32) (a2 : Int32) : Bool :=
  vthen (fun (_u : Unit) =>
    false
    ) fun j14 =>
  if a0 < a1 then (
    j14 ()
    ) else (
    if a2 < a0 then (
      j14 ()
      ) else (
      true
      )
    )

set_option maxRecDepth 20000 in
theorem sX8_in {g : GG} {σ0 : SS} {a0 : Int32} {a1 : Int32} {a2 : Int32} {r : Bool} (hr : fX8_in σ0 a0 a1 a2 = r)  : Ct g mX8_in [.int a0, .int a1, .int a2] NF σ0 (some (.int (b2i r))) NF σ0 := by
  refine Ct.of (by decide +kernel) (nle rfl) fun hw0 => ?_
  have hw := hw0 rfl
  unfold fX8_in at hr
  change RR g mX8_in (FinR g mX8_in (some (.int (b2i r))) NF σ0) zF 0 [(0, .int a0), (1, .int a1), (2, .int a2)] [] σ0
  refine r_iload_n (pc := 0) (j := 0) dX8_in_0 rfl rfl ?_
  refine r_iload_n (pc := 1) (j := 1) dX8_in_1 rfl rfl ?_
  obtain ⟨j14, ej14, hr⟩ := vth_ex hr
  have hj14 : j14 () = r → RR g mX8_in (FinR g mX8_in (some (.int (b2i r))) NF σ0) zF 14 [] [] σ0 := by
    intro  hr
    replace hr := (congrFun ej14 ()).symm.trans hr
    refine r_iconst (pc := 14) (v := (0 : Int32)) dX8_in_14 rfl ?_
    exact l_pz hr (r_zret (pc := 15) (v := b2i false) (ty := .boolean) rfl (b2i_nar _) rfl ⟨Nat.le_refl _, Nat.le_refl _⟩ dX8_in_15)
  refine r_icmp_lt (pc := 2) (tgt := 14) dX8_in_2 rfl (fun hc => ?_) (fun hc => ?_)
  · replace hr := ite_t hc hr
    exact r_pick (ls1 := []) [] rfl (hj14  hr)
  replace hr := ite_f hc hr
  refine r_iload_n (pc := 5) (j := 0) dX8_in_5 rfl rfl ?_
  refine r_iload_n (pc := 6) (j := 2) dX8_in_6 rfl rfl ?_
  refine r_icmp_gt (pc := 7) (tgt := 14) dX8_in_7 rfl (fun hc => ?_) (fun hc => ?_)
  · replace hr := ite_t hc hr
    exact r_pick (ls1 := []) [] rfl (hj14  hr)
  replace hr := ite_f hc hr
  refine r_iconst (pc := 10) (v := (1 : Int32)) dX8_in_10 rfl ?_
  refine r_goto (pc := 11) (tgt := 15) dX8_in_11 rfl ?_
  exact l_pz hr (r_zret (pc := 15) (v := b2i true) (ty := .boolean) rfl (b2i_nar _) rfl ⟨Nat.le_refl _, Nat.le_refl _⟩ dX8_in_15)

theorem kX8_in {g : GG} {σ0 : SS} {a0 : Int32} {a1 : Int32} {a2 : Int32} {v : Bool} {M : MM} {F : State → Array Value → List Frame → State → Prop} {pc index : Nat} {ls : List (Nat × Value)} {rest : List Value} (hf : fX8_in σ0 a0 a1 a2 = v)  (hl : Cond.methodLink M.1.cls index yX8_in ∈ lw_gt) (hR : mX8_in.2.2.2.2.frames + 1 ≤ M.2.2.2.2.frames ∧ 8 + (mX8_in.2.2.1 + 11) + mX8_in.2.2.2.2.locals ≤ M.2.2.2.2.locals) (hrest : (rest.map fun v => v.category).sum ≤ 8) (hd : decode M.2.1 pc = .ok (.invokestatic index, 3)) (k : RR g M F zF (pc + 3) ls (.int (b2i v) :: rest) σ0) : RR g M F zF pc ls (.int a2 :: .int a1 :: .int a0 :: rest) σ0 :=
  r_callS (z := zF) (N := mX8_in) (nn := 3) (o1 := some (.int (b2i v))) (sX8_in hf ) tw_6_67 tw_1_10 hl tw_6_66 ⟨by decide, by decide, rfl⟩ hR rfl hrest hd ⟨Nat.zero_le _, Nat.zero_le _⟩ rfl (fun h => k)

theorem dX8_here_0 : decode cX8_here 0 = .ok (.aload_n 0, 1) := by decide +kernel
theorem dX8_here_1 : decode cX8_here 1 = .ok (.getfield 149, 3) := by decide +kernel
theorem dX8_here_4 : decode cX8_here 4 = .ok (.aload_n 0, 1) := by decide +kernel
theorem dX8_here_5 : decode cX8_here 5 = .ok (.getfield 152, 3) := by decide +kernel
theorem dX8_here_8 : decode cX8_here 8 = .ok (.if_icmp .ge 19, 3) := by decide +kernel
theorem dX8_here_11 : decode cX8_here 11 = .ok (.aload_n 0, 1) := by decide +kernel
theorem dX8_here_12 : decode cX8_here 12 = .ok (.getfield 7, 3) := by decide +kernel
theorem dX8_here_15 : decode cX8_here 15 = .ok (.aload_n 0, 1) := by decide +kernel
theorem dX8_here_16 : decode cX8_here 16 = .ok (.getfield 149, 3) := by decide +kernel
theorem dX8_here_19 : decode cX8_here 19 = .ok (.baload, 1) := by decide +kernel
theorem dX8_here_20 : decode cX8_here 20 = .ok (.sipush 255, 3) := by decide +kernel
theorem dX8_here_23 : decode cX8_here 23 = .ok (.iand, 1) := by decide +kernel
theorem dX8_here_24 : decode cX8_here 24 = .ok (.goto 4, 3) := by decide +kernel
theorem dX8_here_27 : decode cX8_here 27 = .ok (.iconst (-1), 1) := by decide +kernel
theorem dX8_here_28 : decode cX8_here 28 = .ok (.ireturn, 1) := by decide +kernel
def mX8_here : MM := (yX8_here, cX8_here, 1, Option.some Jvm.ClassFile.FieldType.int, { frames := 0, cells := 0, slots := 0, locals := 0 })
def fX8_here (σ0 : SS)  : Option Int32 :=
  if (gI σ0 73 3) ≤ (gI σ0 73 2) then (
    some (-1 : Int32)
    ) else (
    grd (inb (gI σ0 73 2) 480) <|
    some ((gI σ0 74 (Int32.toNatClampNeg (gI σ0 73 2))) &&& (255 : Int32))
    )

set_option maxRecDepth 20000 in
theorem sX8_here {g : GG} {σ0 : SS}  {r : Int32} (hr : fX8_here σ0 = some r)  : Ct g mX8_here [.ref (ad g 73)] NF σ0 (some (.int r)) NF σ0 := by
  refine Ct.of (by decide +kernel) (nle rfl) fun hw0 => ?_
  have hw := hw0 rfl
  unfold fX8_here at hr
  change RR g mX8_here (FinR g mX8_here (some (.int r)) NF σ0) zF 0 [(0, .ref (ad g 73))] [] σ0
  refine r_aload_n (pc := 0) (j := 0) dX8_here_0 rfl rfl ?_
  refine gf8_2 (pc := 1) tw_5_96 rfl dX8_here_1 ?_
  refine r_aload_n (pc := 4) (j := 0) dX8_here_4 rfl rfl ?_
  refine gf8_3 (pc := 5) tw_5_97 rfl dX8_here_5 ?_
  refine r_icmp_ge (pc := 8) (tgt := 27) dX8_here_8 rfl (fun hc => ?_) (fun hc => ?_)
  · replace hr := ite_t hc hr
    refine r_iconst (pc := 27) (v := (-1 : Int32)) dX8_here_27 rfl ?_
    exact l_opi hr (r_iret (pc := 28) (v := (-1 : Int32)) rfl rfl ⟨Nat.le_refl _, Nat.le_refl _⟩ dX8_here_28)
  replace hr := ite_f hc hr
  refine r_aload_n (pc := 11) (j := 0) dX8_here_11 rfl rfl ?_
  refine gf8_0 (pc := 12) tw_5_94 hw dX8_here_12 ?_
  refine r_aload_n (pc := 15) (j := 0) dX8_here_15 rfl rfl ?_
  refine gf8_2 (pc := 16) tw_5_96 rfl dX8_here_16 ?_
  obtain ⟨h1, hr⟩ := grd_inv hr
  refine x_bald (pc := 19) (k := (Int32.toNatClampNeg (gI σ0 73 2))) rfl h1 rfl dX8_here_19 ?_
  refine r_sipush (pc := 20) (v := (255 : Int32)) dX8_here_20 rfl ?_
  refine r_iand (pc := 23) dX8_here_23 ?_
  refine r_goto (pc := 24) (tgt := 28) dX8_here_24 rfl ?_
  exact l_opi hr (r_iret (pc := 28) (v := ((gI σ0 74 (Int32.toNatClampNeg (gI σ0 73 2))) &&& (255 : Int32))) rfl rfl ⟨Nat.le_refl _, Nat.le_refl _⟩ dX8_here_28)

theorem kX8_here {g : GG} {σ0 : SS}  {v : Int32} {M : MM} {F : State → Array Value → List Frame → State → Prop} {pc index : Nat} {ls : List (Nat × Value)} {rest : List Value} (hf : fX8_here σ0 = some v)  (hl : Cond.methodLink M.1.cls index yX8_here ∈ lw_gt) (hR : mX8_here.2.2.2.2.frames + 1 ≤ M.2.2.2.2.frames ∧ 8 + (mX8_here.2.2.1 + 11) + mX8_here.2.2.2.2.locals ≤ M.2.2.2.2.locals) (hrest : (rest.map fun v => v.category).sum ≤ 8) (hd : decode M.2.1 pc = .ok (.invokevirtual index, 3)) (k : RR g M F zF (pc + 3) ls (.int v :: rest) σ0) : RR g M F zF pc ls (.ref (ad g 73) :: rest) σ0 :=
  r_callV (z := zF) (N := mX8_here) (nn := 0) (o1 := some (.int v)) (sX8_here hf ) (rfl : shp 73 = (8, 0)) (by decide) (shp_le (rfl : shp 73 = (8, 0)) (nle rfl)) (ci := 8) rfl rfl tw_6_75 tw_1_10 hl tw_6_74 tp_35 ⟨by decide, by decide, rfl⟩ hR rfl hrest hd ⟨Nat.zero_le _, Nat.zero_le _⟩ rfl (fun h => k)

theorem dX8_next_0 : decode cX8_next 0 = .ok (.aload_n 0, 1) := by decide +kernel
theorem dX8_next_1 : decode cX8_next 1 = .ok (.invokevirtual 155, 3) := by decide +kernel
theorem dX8_next_4 : decode cX8_next 4 = .ok (.bipush 32, 2) := by decide +kernel
theorem dX8_next_6 : decode cX8_next 6 = .ok (.if_icmp .eq 12, 3) := by decide +kernel
theorem dX8_next_9 : decode cX8_next 9 = .ok (.aload_n 0, 1) := by decide +kernel
theorem dX8_next_10 : decode cX8_next 10 = .ok (.invokevirtual 155, 3) := by decide +kernel
theorem dX8_next_13 : decode cX8_next 13 = .ok (.bipush 10, 2) := by decide +kernel
theorem dX8_next_15 : decode cX8_next 15 = .ok (.if_icmp .ne 16, 3) := by decide +kernel
theorem dX8_next_18 : decode cX8_next 18 = .ok (.aload_n 0, 1) := by decide +kernel
theorem dX8_next_19 : decode cX8_next 19 = .ok (.aload_n 0, 1) := by decide +kernel
theorem dX8_next_20 : decode cX8_next 20 = .ok (.getfield 149, 3) := by decide +kernel
theorem dX8_next_23 : decode cX8_next 23 = .ok (.iconst 1, 1) := by decide +kernel
theorem dX8_next_24 : decode cX8_next 24 = .ok (.iadd, 1) := by decide +kernel
theorem dX8_next_25 : decode cX8_next 25 = .ok (.putfield 149, 3) := by decide +kernel
theorem dX8_next_28 : decode cX8_next 28 = .ok (.goto (-28), 3) := by decide +kernel
theorem dX8_next_31 : decode cX8_next 31 = .ok (.aload_n 0, 1) := by decide +kernel
theorem dX8_next_32 : decode cX8_next 32 = .ok (.aload_n 0, 1) := by decide +kernel
theorem dX8_next_33 : decode cX8_next 33 = .ok (.getfield 149, 3) := by decide +kernel
theorem dX8_next_36 : decode cX8_next 36 = .ok (.putfield 159, 3) := by decide +kernel
theorem dX8_next_39 : decode cX8_next 39 = .ok (.aload_n 0, 1) := by decide +kernel
theorem dX8_next_40 : decode cX8_next 40 = .ok (.invokevirtual 155, 3) := by decide +kernel
theorem dX8_next_43 : decode cX8_next 43 = .ok (.istore_n 1, 1) := by decide +kernel
theorem dX8_next_44 : decode cX8_next 44 = .ok (.iload_n 1, 1) := by decide +kernel
theorem dX8_next_45 : decode cX8_next 45 = .ok (.iconst (-1), 1) := by decide +kernel
theorem dX8_next_46 : decode cX8_next 46 = .ok (.if_icmp .ne 11, 3) := by decide +kernel
theorem dX8_next_49 : decode cX8_next 49 = .ok (.aload_n 0, 1) := by decide +kernel
theorem dX8_next_50 : decode cX8_next 50 = .ok (.iconst 0, 1) := by decide +kernel
theorem dX8_next_51 : decode cX8_next 51 = .ok (.putfield 162, 3) := by decide +kernel
theorem dX8_next_54 : decode cX8_next 54 = .ok (.goto 229, 3) := by decide +kernel
theorem dX8_next_57 : decode cX8_next 57 = .ok (.iload_n 1, 1) := by decide +kernel
theorem dX8_next_58 : decode cX8_next 58 = .ok (.bipush 97, 2) := by decide +kernel
theorem dX8_next_60 : decode cX8_next 60 = .ok (.bipush 122, 2) := by decide +kernel
theorem dX8_next_62 : decode cX8_next 62 = .ok (.invokestatic 165, 3) := by decide +kernel
theorem dX8_next_65 : decode cX8_next 65 = .ok (.ifCond .eq 100, 3) := by decide +kernel
theorem dX8_next_68 : decode cX8_next 68 = .ok (.aload_n 0, 1) := by decide +kernel
theorem dX8_next_69 : decode cX8_next 69 = .ok (.iconst 1, 1) := by decide +kernel
theorem dX8_next_70 : decode cX8_next 70 = .ok (.putfield 162, 3) := by decide +kernel
theorem dX8_next_73 : decode cX8_next 73 = .ok (.aload_n 0, 1) := by decide +kernel
theorem dX8_next_74 : decode cX8_next 74 = .ok (.lconst 0, 1) := by decide +kernel
theorem dX8_next_75 : decode cX8_next 75 = .ok (.putfield 169, 3) := by decide +kernel
theorem dX8_next_78 : decode cX8_next 78 = .ok (.aload_n 0, 1) := by decide +kernel
theorem dX8_next_79 : decode cX8_next 79 = .ok (.invokevirtual 155, 3) := by decide +kernel
theorem dX8_next_82 : decode cX8_next 82 = .ok (.bipush 97, 2) := by decide +kernel
theorem dX8_next_84 : decode cX8_next 84 = .ok (.bipush 122, 2) := by decide +kernel
theorem dX8_next_86 : decode cX8_next 86 = .ok (.invokestatic 165, 3) := by decide +kernel
theorem dX8_next_89 : decode cX8_next 89 = .ok (.ifCond .eq 60, 3) := by decide +kernel
theorem dX8_next_92 : decode cX8_next 92 = .ok (.aload_n 0, 1) := by decide +kernel
theorem dX8_next_93 : decode cX8_next 93 = .ok (.aload_n 0, 1) := by decide +kernel
theorem dX8_next_94 : decode cX8_next 94 = .ok (.getfield 149, 3) := by decide +kernel
theorem dX8_next_97 : decode cX8_next 97 = .ok (.aload_n 0, 1) := by decide +kernel
theorem dX8_next_98 : decode cX8_next 98 = .ok (.getfield 159, 3) := by decide +kernel
theorem dX8_next_101 : decode cX8_next 101 = .ok (.isub, 1) := by decide +kernel
theorem dX8_next_102 : decode cX8_next 102 = .ok (.bipush 7, 2) := by decide +kernel
theorem dX8_next_104 : decode cX8_next 104 = .ok (.if_icmp .ge 26, 3) := by decide +kernel
theorem dX8_next_107 : decode cX8_next 107 = .ok (.ldc2_w 173, 3) := by decide +kernel
theorem dX8_next_110 : decode cX8_next 110 = .ok (.aload_n 0, 1) := by decide +kernel
theorem dX8_next_111 : decode cX8_next 111 = .ok (.getfield 169, 3) := by decide +kernel
theorem dX8_next_114 : decode cX8_next 114 = .ok (.lmul, 1) := by decide +kernel
theorem dX8_next_115 : decode cX8_next 115 = .ok (.aload_n 0, 1) := by decide +kernel
theorem dX8_next_116 : decode cX8_next 116 = .ok (.invokevirtual 155, 3) := by decide +kernel
theorem dX8_next_119 : decode cX8_next 119 = .ok (.i2l, 1) := by decide +kernel
theorem dX8_next_120 : decode cX8_next 120 = .ok (.ladd, 1) := by decide +kernel
theorem dX8_next_121 : decode cX8_next 121 = .ok (.ldc2_w 175, 3) := by decide +kernel
theorem dX8_next_124 : decode cX8_next 124 = .ok (.lsub, 1) := by decide +kernel
theorem dX8_next_125 : decode cX8_next 125 = .ok (.lconst 1, 1) := by decide +kernel
theorem dX8_next_126 : decode cX8_next 126 = .ok (.ladd, 1) := by decide +kernel
theorem dX8_next_127 : decode cX8_next 127 = .ok (.goto 6, 3) := by decide +kernel
theorem dX8_next_130 : decode cX8_next 130 = .ok (.ldc2_w 177, 3) := by decide +kernel
theorem dX8_next_133 : decode cX8_next 133 = .ok (.putfield 169, 3) := by decide +kernel
theorem dX8_next_136 : decode cX8_next 136 = .ok (.aload_n 0, 1) := by decide +kernel
theorem dX8_next_137 : decode cX8_next 137 = .ok (.aload_n 0, 1) := by decide +kernel
theorem dX8_next_138 : decode cX8_next 138 = .ok (.getfield 149, 3) := by decide +kernel
theorem dX8_next_141 : decode cX8_next 141 = .ok (.iconst 1, 1) := by decide +kernel
theorem dX8_next_142 : decode cX8_next 142 = .ok (.iadd, 1) := by decide +kernel
theorem dX8_next_143 : decode cX8_next 143 = .ok (.putfield 149, 3) := by decide +kernel
theorem dX8_next_146 : decode cX8_next 146 = .ok (.goto (-68), 3) := by decide +kernel
theorem dX8_next_149 : decode cX8_next 149 = .ok (.aload_n 0, 1) := by decide +kernel
theorem dX8_next_150 : decode cX8_next 150 = .ok (.aload_n 0, 1) := by decide +kernel
theorem dX8_next_151 : decode cX8_next 151 = .ok (.getfield 149, 3) := by decide +kernel
theorem dX8_next_154 : decode cX8_next 154 = .ok (.aload_n 0, 1) := by decide +kernel
theorem dX8_next_155 : decode cX8_next 155 = .ok (.getfield 159, 3) := by decide +kernel
theorem dX8_next_158 : decode cX8_next 158 = .ok (.isub, 1) := by decide +kernel
theorem dX8_next_159 : decode cX8_next 159 = .ok (.putfield 179, 3) := by decide +kernel
theorem dX8_next_162 : decode cX8_next 162 = .ok (.goto 121, 3) := by decide +kernel
theorem dX8_next_165 : decode cX8_next 165 = .ok (.iload_n 1, 1) := by decide +kernel
theorem dX8_next_166 : decode cX8_next 166 = .ok (.bipush 48, 2) := by decide +kernel
theorem dX8_next_168 : decode cX8_next 168 = .ok (.bipush 57, 2) := by decide +kernel
theorem dX8_next_170 : decode cX8_next 170 = .ok (.invokestatic 165, 3) := by decide +kernel
theorem dX8_next_173 : decode cX8_next 173 = .ok (.ifCond .eq 74, 3) := by decide +kernel
theorem dX8_next_176 : decode cX8_next 176 = .ok (.aload_n 0, 1) := by decide +kernel
theorem dX8_next_177 : decode cX8_next 177 = .ok (.iconst 2, 1) := by decide +kernel
theorem dX8_next_178 : decode cX8_next 178 = .ok (.putfield 162, 3) := by decide +kernel
theorem dX8_next_181 : decode cX8_next 181 = .ok (.aload_n 0, 1) := by decide +kernel
theorem dX8_next_182 : decode cX8_next 182 = .ok (.iconst 0, 1) := by decide +kernel
theorem dX8_next_183 : decode cX8_next 183 = .ok (.putfield 182, 3) := by decide +kernel
theorem dX8_next_186 : decode cX8_next 186 = .ok (.aload_n 0, 1) := by decide +kernel
theorem dX8_next_187 : decode cX8_next 187 = .ok (.invokevirtual 155, 3) := by decide +kernel
theorem dX8_next_190 : decode cX8_next 190 = .ok (.bipush 48, 2) := by decide +kernel
theorem dX8_next_192 : decode cX8_next 192 = .ok (.bipush 57, 2) := by decide +kernel
theorem dX8_next_194 : decode cX8_next 194 = .ok (.invokestatic 165, 3) := by decide +kernel
theorem dX8_next_197 : decode cX8_next 197 = .ok (.ifCond .eq 86, 3) := by decide +kernel
theorem dX8_next_200 : decode cX8_next 200 = .ok (.aload_n 0, 1) := by decide +kernel
theorem dX8_next_201 : decode cX8_next 201 = .ok (.aload_n 0, 1) := by decide +kernel
theorem dX8_next_202 : decode cX8_next 202 = .ok (.getfield 182, 3) := by decide +kernel
theorem dX8_next_205 : decode cX8_next 205 = .ok (.bipush 99, 2) := by decide +kernel
theorem dX8_next_207 : decode cX8_next 207 = .ok (.if_icmp .le 9, 3) := by decide +kernel
theorem dX8_next_210 : decode cX8_next 210 = .ok (.sipush 999, 3) := by decide +kernel
theorem dX8_next_213 : decode cX8_next 213 = .ok (.goto 18, 3) := by decide +kernel
theorem dX8_next_216 : decode cX8_next 216 = .ok (.bipush 10, 2) := by decide +kernel
theorem dX8_next_218 : decode cX8_next 218 = .ok (.aload_n 0, 1) := by decide +kernel
theorem dX8_next_219 : decode cX8_next 219 = .ok (.getfield 182, 3) := by decide +kernel
theorem dX8_next_222 : decode cX8_next 222 = .ok (.imul, 1) := by decide +kernel
theorem dX8_next_223 : decode cX8_next 223 = .ok (.aload_n 0, 1) := by decide +kernel
theorem dX8_next_224 : decode cX8_next 224 = .ok (.invokevirtual 155, 3) := by decide +kernel
theorem dX8_next_227 : decode cX8_next 227 = .ok (.iadd, 1) := by decide +kernel
theorem dX8_next_228 : decode cX8_next 228 = .ok (.bipush 48, 2) := by decide +kernel
theorem dX8_next_230 : decode cX8_next 230 = .ok (.isub, 1) := by decide +kernel
theorem dX8_next_231 : decode cX8_next 231 = .ok (.putfield 182, 3) := by decide +kernel
theorem dX8_next_234 : decode cX8_next 234 = .ok (.aload_n 0, 1) := by decide +kernel
theorem dX8_next_235 : decode cX8_next 235 = .ok (.aload_n 0, 1) := by decide +kernel
theorem dX8_next_236 : decode cX8_next 236 = .ok (.getfield 149, 3) := by decide +kernel
theorem dX8_next_239 : decode cX8_next 239 = .ok (.iconst 1, 1) := by decide +kernel
theorem dX8_next_240 : decode cX8_next 240 = .ok (.iadd, 1) := by decide +kernel
theorem dX8_next_241 : decode cX8_next 241 = .ok (.putfield 149, 3) := by decide +kernel
theorem dX8_next_244 : decode cX8_next 244 = .ok (.goto (-58), 3) := by decide +kernel
theorem dX8_next_247 : decode cX8_next 247 = .ok (.aload_n 0, 1) := by decide +kernel
theorem dX8_next_248 : decode cX8_next 248 = .ok (.iload_n 1, 1) := by decide +kernel
theorem dX8_next_249 : decode cX8_next 249 = .ok (.bipush 44, 2) := by decide +kernel
theorem dX8_next_251 : decode cX8_next 251 = .ok (.if_icmp .eq 9, 3) := by decide +kernel
theorem dX8_next_254 : decode cX8_next 254 = .ok (.iload_n 1, 1) := by decide +kernel
theorem dX8_next_255 : decode cX8_next 255 = .ok (.bipush 59, 2) := by decide +kernel
theorem dX8_next_257 : decode cX8_next 257 = .ok (.if_icmp .ne 7, 3) := by decide +kernel
theorem dX8_next_260 : decode cX8_next 260 = .ok (.iconst 3, 1) := by decide +kernel
theorem dX8_next_261 : decode cX8_next 261 = .ok (.goto 4, 3) := by decide +kernel
theorem dX8_next_264 : decode cX8_next 264 = .ok (.iconst 4, 1) := by decide +kernel
theorem dX8_next_265 : decode cX8_next 265 = .ok (.putfield 162, 3) := by decide +kernel
theorem dX8_next_268 : decode cX8_next 268 = .ok (.aload_n 0, 1) := by decide +kernel
theorem dX8_next_269 : decode cX8_next 269 = .ok (.iload_n 1, 1) := by decide +kernel
theorem dX8_next_270 : decode cX8_next 270 = .ok (.putfield 185, 3) := by decide +kernel
theorem dX8_next_273 : decode cX8_next 273 = .ok (.aload_n 0, 1) := by decide +kernel
theorem dX8_next_274 : decode cX8_next 274 = .ok (.aload_n 0, 1) := by decide +kernel
theorem dX8_next_275 : decode cX8_next 275 = .ok (.getfield 149, 3) := by decide +kernel
theorem dX8_next_278 : decode cX8_next 278 = .ok (.iconst 1, 1) := by decide +kernel
theorem dX8_next_279 : decode cX8_next 279 = .ok (.iadd, 1) := by decide +kernel
theorem dX8_next_280 : decode cX8_next 280 = .ok (.putfield 149, 3) := by decide +kernel
theorem dX8_next_283 : decode cX8_next 283 = .ok (.return_, 1) := by decide +kernel
def mX8_next : MM := (yX8_next, cX8_next, 2, none, { frames := 1, cells := 0, slots := 0, locals := 22 })
def X8_next_L0  (k31 : SS → Option SS) : Nat → SS → Option SS :=
  lp (fun _ => none) fun rec σ_ =>
    bnd1 (fX8_here σ_) fun v1 =>
    vthen (fun (_u : Unit) =>
      vthen (sI σ_ 73 2 ((gI σ_ 73 2) + (1 : Int32))) fun σ4 =>
      rec σ4
      ) fun j18 =>
    if v1 = (32 : Int32) then (
      j18 ()
      ) else (
      bnd1 (fX8_here σ_) fun v5 =>
      if v5 = (10 : Int32) then (
        j18 ()
        ) else (
        k31 σ_
        )
      )

def X8_next_L186   : Nat → SS → Option SS :=
  lp (fun _ => none) fun rec σ_ =>
    bnd1 (fX8_here σ_) fun v19 =>
    if (fX8_in σ_ v19 (48 : Int32) (57 : Int32)) = true then (
      vthen (fun (s22 : Int32) =>
        vthen (sI σ_ 73 7 s22) fun σ23 =>
        vthen (sI σ23 73 2 ((gI σ23 73 2) + (1 : Int32))) fun σ24 =>
        rec σ24
        ) fun j231 =>
      if (gI σ_ 73 7) ≤ (99 : Int32) then (
        bnd1 (fX8_here σ_) fun v25 =>
        j231 ((((10 : Int32) * (gI σ_ 73 7)) + v25) - (48 : Int32))
        ) else (
        j231 (999 : Int32)
        )
      ) else (
      some σ_
      )

def X8_next_L78   : Nat → SS → Option SS :=
  lp (fun _ => none) fun rec σ_ =>
    bnd1 (fX8_here σ_) fun v30 =>
    if (fX8_in σ_ v30 (97 : Int32) (122 : Int32)) = true then (
      vthen (fun (s34 : Int64) =>
        vthen (sL σ_ 73 10 s34) fun σ35 =>
        vthen (sI σ35 73 2 ((gI σ35 73 2) + (1 : Int32))) fun σ36 =>
        rec σ36
        ) fun j133 =>
      if (7 : Int32) ≤ ((gI σ_ 73 2) - (gI σ_ 73 6)) then (
        j133 (-1 : Int64)
        ) else (
        bnd1 (fX8_here σ_) fun v37 =>
        j133 (((((32 : Int64) * (gL σ_ 73 10)) + (Int32.toInt64 v37)) - (97 : Int64)) + (1 : Int64))
        )
      ) else (
      vthen (sI σ_ 73 9 ((gI σ_ 73 2) - (gI σ_ 73 6))) fun σ33 =>
      some σ33
      )

def fX8_next (σ : SS)  : Option SS :=
  X8_next_L0
  (fun σ8 =>
    vthen (sI σ8 73 6 (gI σ8 73 2)) fun σ9 =>
    bnd1 (fX8_here σ9) fun v10 =>
    if v10 = (-1 : Int32) then (
      vthen (sI σ9 73 5 (0 : Int32)) fun σ40 =>
      some σ40
      ) else (
      if (fX8_in σ9 v10 (97 : Int32) (122 : Int32)) = true then (
        vthen (sI σ9 73 5 (1 : Int32)) fun σ28 =>
        vthen (sL σ28 73 10 (0 : Int64)) fun σ29 =>
        X8_next_L78
        fuel σ29
        ) else (
        if (fX8_in σ9 v10 (48 : Int32) (57 : Int32)) = true then (
          vthen (sI σ9 73 5 (2 : Int32)) fun σ17 =>
          vthen (sI σ17 73 7 (0 : Int32)) fun σ18 =>
          X8_next_L186
          fuel σ18
          ) else (
          vthen (fun (s13 : Int32) =>
            vthen (sI σ9 73 5 s13) fun σ14 =>
            vthen (sI σ14 73 8 v10) fun σ15 =>
            vthen (sI σ15 73 2 ((gI σ15 73 2) + (1 : Int32))) fun σ16 =>
            some σ16
            ) fun j265 =>
          vthen (fun (_u : Unit) =>
            j265 (3 : Int32)
            ) fun j260 =>
          if v10 = (44 : Int32) then (
            j260 ()
            ) else (
            if v10 = (59 : Int32) then (
              j260 ()
              ) else (
              j265 (4 : Int32)
              )
            )
          )
        )
      )
    )
  fuel σ

set_option maxRecDepth 20000 in
theorem sX8_next_L0 {g : GG} {r : SS}  {k31 : SS → Option SS} 
    (hk31 : ∀ (σ_ : SS), k31 σ_ = some r → WT σ_ → RR g mX8_next (FinR g mX8_next none NF r) zF 31 [(0, .ref (ad g 73))] [] σ_)
    (n : Nat) : ∀ (σ_ : SS), X8_next_L0 k31 n σ_ = some r → WT σ_ → RR g mX8_next (FinR g mX8_next none NF r) zF 0 [(0, .ref (ad g 73))] [] σ_ := by
  unfold X8_next_L0
  refine lp_ind (P := fun (rec : SS → Option SS) => ∀ (σ_ : SS), rec σ_ = some r → WT σ_ → RR g mX8_next (FinR g mX8_next none NF r) zF 0 [(0, .ref (ad g 73))] [] σ_) ?_ ?_ n
  · intro σ_ hr; cases hr
  intro rec ih σ_ hr hw_
  refine r_aload_n (pc := 0) (j := 0) dX8_next_0 rfl rfl ?_
  obtain ⟨v1, hv1, hr⟩ := bnd1_inv hr
  refine kX8_here (pc := 1) hv1 tw_6_72 ⟨nle rfl, nle rfl⟩ (nle rfl) dX8_next_1 ?_
  refine r_bipush (pc := 4) (v := (32 : Int32)) dX8_next_4 rfl ?_
  obtain ⟨j18, ej18, hr⟩ := vth_ex hr
  have hj18 : j18 () = some r → RR g mX8_next (FinR g mX8_next none NF r) zF 18 [(0, .ref (ad g 73))] [] σ_ := by
    intro  hr
    replace hr := (congrFun ej18 ()).symm.trans hr
    refine r_aload_n (pc := 18) (j := 0) dX8_next_18 rfl rfl ?_
    refine r_aload_n (pc := 19) (j := 0) dX8_next_19 rfl rfl ?_
    refine gf8_2 (pc := 20) tw_5_96 rfl dX8_next_20 ?_
    refine r_iconst (pc := 23) (v := (1 : Int32)) dX8_next_23 rfl ?_
    refine r_iadd (pc := 24) dX8_next_24 ?_
    refine pf8_2 (pc := 25) tw_5_96 rfl dX8_next_25 fun σ4 eσ4 => ?_
    replace hr := vthen_inv hr σ4 eσ4
    have hσ4 := wtI eσ4 hw_
    refine r_goto (pc := 28) (tgt := 0) dX8_next_28 rfl ?_
    exact r_pick (ls1 := [(0, .ref (ad g 73))]) [0] rfl (ih σ4 hr hσ4)
  refine r_icmp_eq (pc := 6) (tgt := 18) dX8_next_6 rfl (fun hc => ?_) (fun hc => ?_)
  · replace hr := ite_t hc hr
    exact r_pick (ls1 := [(0, .ref (ad g 73))]) [0] rfl (hj18  hr)
  replace hr := ite_f hc hr
  refine r_aload_n (pc := 9) (j := 0) dX8_next_9 rfl rfl ?_
  obtain ⟨v5, hv5, hr⟩ := bnd1_inv hr
  refine kX8_here (pc := 10) hv5 tw_6_72 ⟨nle rfl, nle rfl⟩ (nle rfl) dX8_next_10 ?_
  refine r_bipush (pc := 13) (v := (10 : Int32)) dX8_next_13 rfl ?_
  refine r_icmp_ne (pc := 15) (tgt := 31) dX8_next_15 rfl (fun hc => ?_) (fun hc => ?_)
  · replace hr := ite_f hc hr
    exact r_pick (ls1 := [(0, .ref (ad g 73))]) [0] rfl (hk31 σ_ hr hw_)
  replace hr := ite_t hc hr
  exact r_pick (ls1 := [(0, .ref (ad g 73))]) [0] rfl (hj18  hr)

set_option maxRecDepth 20000 in
theorem sX8_next_L186 {g : GG} {r : SS}   
    (n : Nat) : ∀ (σ_ : SS), X8_next_L186 n σ_ = some r → WT σ_ → RR g mX8_next (FinR g mX8_next none NF r) zF 186 [(0, .ref (ad g 73))] [] σ_ := by
  unfold X8_next_L186
  refine lp_ind (P := fun (rec : SS → Option SS) => ∀ (σ_ : SS), rec σ_ = some r → WT σ_ → RR g mX8_next (FinR g mX8_next none NF r) zF 186 [(0, .ref (ad g 73))] [] σ_) ?_ ?_ n
  · intro σ_ hr; cases hr
  intro rec ih σ_ hr hw_
  refine r_aload_n (pc := 186) (j := 0) dX8_next_186 rfl rfl ?_
  obtain ⟨v19, hv19, hr⟩ := bnd1_inv hr
  refine kX8_here (pc := 187) hv19 tw_6_72 ⟨nle rfl, nle rfl⟩ (nle rfl) dX8_next_187 ?_
  refine r_bipush (pc := 190) (v := (48 : Int32)) dX8_next_190 rfl ?_
  refine r_bipush (pc := 192) (v := (57 : Int32)) dX8_next_192 rfl ?_
  refine kX8_in (pc := 194) (hf := rfl) tw_6_65 ⟨nle rfl, nle rfl⟩ (nle rfl) dX8_next_194 ?_
  refine r_ifB_eq (pc := 197) (tgt := 283) dX8_next_197 rfl (fun hc => ?_) (fun hc => ?_)
  · replace hr := ite_f hc hr
    exact l_ov hr (r_vret (pc := 283) rfl rfl ⟨Nat.le_refl _, Nat.le_refl _⟩ dX8_next_283)
  replace hr := ite_t hc hr
  refine r_aload_n (pc := 200) (j := 0) dX8_next_200 rfl rfl ?_
  refine r_aload_n (pc := 201) (j := 0) dX8_next_201 rfl rfl ?_
  refine gf8_7 (pc := 202) tw_5_101 rfl dX8_next_202 ?_
  refine r_bipush (pc := 205) (v := (99 : Int32)) dX8_next_205 rfl ?_
  obtain ⟨j231, ej231, hr⟩ := vth_ex hr
  have hj231 : ∀ (s22 : Int32), j231 s22 = some r → RR g mX8_next (FinR g mX8_next none NF r) zF 231 [(0, .ref (ad g 73))] [.int s22, .ref (ad g 73)] σ_ := by
    intro s22 hr
    replace hr := (congrFun ej231 s22).symm.trans hr
    refine pf8_7 (pc := 231) tw_5_101 rfl dX8_next_231 fun σ23 eσ23 => ?_
    replace hr := vthen_inv hr σ23 eσ23
    have hσ23 := wtI eσ23 hw_
    refine r_aload_n (pc := 234) (j := 0) dX8_next_234 rfl rfl ?_
    refine r_aload_n (pc := 235) (j := 0) dX8_next_235 rfl rfl ?_
    refine gf8_2 (pc := 236) tw_5_96 rfl dX8_next_236 ?_
    refine r_iconst (pc := 239) (v := (1 : Int32)) dX8_next_239 rfl ?_
    refine r_iadd (pc := 240) dX8_next_240 ?_
    refine pf8_2 (pc := 241) tw_5_96 rfl dX8_next_241 fun σ24 eσ24 => ?_
    replace hr := vthen_inv hr σ24 eσ24
    have hσ24 := wtI eσ24 hσ23
    refine r_goto (pc := 244) (tgt := 186) dX8_next_244 rfl ?_
    exact r_pick (ls1 := [(0, .ref (ad g 73))]) [0] rfl (ih σ24 hr hσ24)
  refine r_icmp_le (pc := 207) (tgt := 216) dX8_next_207 rfl (fun hc => ?_) (fun hc => ?_)
  · replace hr := ite_t hc hr
    refine r_bipush (pc := 216) (v := (10 : Int32)) dX8_next_216 rfl ?_
    refine r_aload_n (pc := 218) (j := 0) dX8_next_218 rfl rfl ?_
    refine gf8_7 (pc := 219) tw_5_101 rfl dX8_next_219 ?_
    refine r_imul (pc := 222) dX8_next_222 ?_
    refine r_aload_n (pc := 223) (j := 0) dX8_next_223 rfl rfl ?_
    obtain ⟨v25, hv25, hr⟩ := bnd1_inv hr
    refine kX8_here (pc := 224) hv25 tw_6_72 ⟨nle rfl, nle rfl⟩ (nle rfl) dX8_next_224 ?_
    refine r_iadd (pc := 227) dX8_next_227 ?_
    refine r_bipush (pc := 228) (v := (48 : Int32)) dX8_next_228 rfl ?_
    refine r_isub (pc := 230) dX8_next_230 ?_
    exact r_pick (ls1 := [(0, .ref (ad g 73))]) [0] rfl (hj231 ((((10 : Int32) * (gI σ_ 73 7)) + v25) - (48 : Int32)) hr)
  replace hr := ite_f hc hr
  refine r_sipush (pc := 210) (v := (999 : Int32)) dX8_next_210 rfl ?_
  refine r_goto (pc := 213) (tgt := 231) dX8_next_213 rfl ?_
  exact r_pick (ls1 := [(0, .ref (ad g 73))]) [0] rfl (hj231 (999 : Int32) hr)

set_option maxRecDepth 20000 in
theorem sX8_next_L78 {g : GG} {r : SS}   
    (n : Nat) : ∀ (σ_ : SS), X8_next_L78 n σ_ = some r → WT σ_ → RR g mX8_next (FinR g mX8_next none NF r) zF 78 [(0, .ref (ad g 73))] [] σ_ := by
  unfold X8_next_L78
  refine lp_ind (P := fun (rec : SS → Option SS) => ∀ (σ_ : SS), rec σ_ = some r → WT σ_ → RR g mX8_next (FinR g mX8_next none NF r) zF 78 [(0, .ref (ad g 73))] [] σ_) ?_ ?_ n
  · intro σ_ hr; cases hr
  intro rec ih σ_ hr hw_
  refine r_aload_n (pc := 78) (j := 0) dX8_next_78 rfl rfl ?_
  obtain ⟨v30, hv30, hr⟩ := bnd1_inv hr
  refine kX8_here (pc := 79) hv30 tw_6_72 ⟨nle rfl, nle rfl⟩ (nle rfl) dX8_next_79 ?_
  refine r_bipush (pc := 82) (v := (97 : Int32)) dX8_next_82 rfl ?_
  refine r_bipush (pc := 84) (v := (122 : Int32)) dX8_next_84 rfl ?_
  refine kX8_in (pc := 86) (hf := rfl) tw_6_65 ⟨nle rfl, nle rfl⟩ (nle rfl) dX8_next_86 ?_
  refine r_ifB_eq (pc := 89) (tgt := 149) dX8_next_89 rfl (fun hc => ?_) (fun hc => ?_)
  · replace hr := ite_f hc hr
    refine r_aload_n (pc := 149) (j := 0) dX8_next_149 rfl rfl ?_
    refine r_aload_n (pc := 150) (j := 0) dX8_next_150 rfl rfl ?_
    refine gf8_2 (pc := 151) tw_5_96 rfl dX8_next_151 ?_
    refine r_aload_n (pc := 154) (j := 0) dX8_next_154 rfl rfl ?_
    refine gf8_6 (pc := 155) tw_5_100 rfl dX8_next_155 ?_
    refine r_isub (pc := 158) dX8_next_158 ?_
    refine pf8_9 (pc := 159) tw_5_103 rfl dX8_next_159 fun σ33 eσ33 => ?_
    replace hr := vthen_inv hr σ33 eσ33
    have hσ33 := wtI eσ33 hw_
    refine r_goto (pc := 162) (tgt := 283) dX8_next_162 rfl ?_
    exact l_ov hr (r_vret (pc := 283) rfl rfl ⟨Nat.le_refl _, Nat.le_refl _⟩ dX8_next_283)
  replace hr := ite_t hc hr
  refine r_aload_n (pc := 92) (j := 0) dX8_next_92 rfl rfl ?_
  refine r_aload_n (pc := 93) (j := 0) dX8_next_93 rfl rfl ?_
  refine gf8_2 (pc := 94) tw_5_96 rfl dX8_next_94 ?_
  refine r_aload_n (pc := 97) (j := 0) dX8_next_97 rfl rfl ?_
  refine gf8_6 (pc := 98) tw_5_100 rfl dX8_next_98 ?_
  refine r_isub (pc := 101) dX8_next_101 ?_
  refine r_bipush (pc := 102) (v := (7 : Int32)) dX8_next_102 rfl ?_
  obtain ⟨j133, ej133, hr⟩ := vth_ex hr
  have hj133 : ∀ (s34 : Int64), j133 s34 = some r → RR g mX8_next (FinR g mX8_next none NF r) zF 133 [(0, .ref (ad g 73))] [.long s34, .ref (ad g 73)] σ_ := by
    intro s34 hr
    replace hr := (congrFun ej133 s34).symm.trans hr
    refine pf8_10 (pc := 133) tw_5_104 rfl dX8_next_133 fun σ35 eσ35 => ?_
    replace hr := vthen_inv hr σ35 eσ35
    have hσ35 := wtL eσ35 hw_
    refine r_aload_n (pc := 136) (j := 0) dX8_next_136 rfl rfl ?_
    refine r_aload_n (pc := 137) (j := 0) dX8_next_137 rfl rfl ?_
    refine gf8_2 (pc := 138) tw_5_96 rfl dX8_next_138 ?_
    refine r_iconst (pc := 141) (v := (1 : Int32)) dX8_next_141 rfl ?_
    refine r_iadd (pc := 142) dX8_next_142 ?_
    refine pf8_2 (pc := 143) tw_5_96 rfl dX8_next_143 fun σ36 eσ36 => ?_
    replace hr := vthen_inv hr σ36 eσ36
    have hσ36 := wtI eσ36 hσ35
    refine r_goto (pc := 146) (tgt := 78) dX8_next_146 rfl ?_
    exact r_pick (ls1 := [(0, .ref (ad g 73))]) [0] rfl (ih σ36 hr hσ36)
  refine r_icmp_ge (pc := 104) (tgt := 130) dX8_next_104 rfl (fun hc => ?_) (fun hc => ?_)
  · replace hr := ite_t hc hr
    refine r_ldc2 (pc := 130) (v := (-1 : Int64)) dX8_next_130 tw_6_78 ?_
    exact r_pick (ls1 := [(0, .ref (ad g 73))]) [0] rfl (hj133 (-1 : Int64) hr)
  replace hr := ite_f hc hr
  refine r_ldc2 (pc := 107) (v := (32 : Int64)) dX8_next_107 tw_6_76 ?_
  refine r_aload_n (pc := 110) (j := 0) dX8_next_110 rfl rfl ?_
  refine gf8_10 (pc := 111) tw_5_104 rfl dX8_next_111 ?_
  refine r_lmul (pc := 114) dX8_next_114 ?_
  refine r_aload_n (pc := 115) (j := 0) dX8_next_115 rfl rfl ?_
  obtain ⟨v37, hv37, hr⟩ := bnd1_inv hr
  refine kX8_here (pc := 116) hv37 tw_6_72 ⟨nle rfl, nle rfl⟩ (nle rfl) dX8_next_116 ?_
  refine r_i2l (pc := 119) dX8_next_119 ?_
  refine r_ladd (pc := 120) dX8_next_120 ?_
  refine r_ldc2 (pc := 121) (v := (97 : Int64)) dX8_next_121 tw_6_77 ?_
  refine r_lsub (pc := 124) dX8_next_124 ?_
  refine r_lconst (pc := 125) (v := (1 : Int64)) dX8_next_125 rfl ?_
  refine r_ladd (pc := 126) dX8_next_126 ?_
  refine r_goto (pc := 127) (tgt := 133) dX8_next_127 rfl ?_
  exact r_pick (ls1 := [(0, .ref (ad g 73))]) [0] rfl (hj133 (((((32 : Int64) * (gL σ_ 73 10)) + (Int32.toInt64 v37)) - (97 : Int64)) + (1 : Int64)) hr)

set_option maxRecDepth 20000 in
theorem sX8_next {g : GG} {σ : SS}  {r : SS} (hr : fX8_next σ = some r)  : Ct g mX8_next [.ref (ad g 73)] NF σ none NF r := by
  refine Ct.of (by decide +kernel) (nle rfl) fun hw0 => ?_
  have hw := hw0 rfl
  unfold fX8_next at hr
  change RR g mX8_next (FinR g mX8_next none NF r) zF 0 [(0, .ref (ad g 73))] [] σ
  refine r_pick (ls1 := [(0, .ref (ad g 73))]) [0] rfl ?_
  refine sX8_next_L0    (fun σ8 hr hσ8 => ?_) fuel σ hr hw
  refine r_aload_n (pc := 31) (j := 0) dX8_next_31 rfl rfl ?_
  refine r_aload_n (pc := 32) (j := 0) dX8_next_32 rfl rfl ?_
  refine gf8_2 (pc := 33) tw_5_96 rfl dX8_next_33 ?_
  refine pf8_6 (pc := 36) tw_5_100 rfl dX8_next_36 fun σ9 eσ9 => ?_
  replace hr := vthen_inv hr σ9 eσ9
  have hσ9 := wtI eσ9 hσ8
  refine r_aload_n (pc := 39) (j := 0) dX8_next_39 rfl rfl ?_
  obtain ⟨v10, hv10, hr⟩ := bnd1_inv hr
  refine kX8_here (pc := 40) hv10 tw_6_72 ⟨nle rfl, nle rfl⟩ (nle rfl) dX8_next_40 ?_
  refine r_istore_n (pc := 43) (ls1 := [(1, .int v10), (0, .ref (ad g 73))]) dX8_next_43 rfl (nle rfl) rfl ?_
  refine r_iload_n (pc := 44) (j := 0) dX8_next_44 rfl rfl ?_
  refine r_iconst (pc := 45) (v := (-1 : Int32)) dX8_next_45 rfl ?_
  refine r_icmp_ne (pc := 46) (tgt := 57) dX8_next_46 rfl (fun hc => ?_) (fun hc => ?_)
  · replace hr := ite_f hc hr
    refine r_iload_n (pc := 57) (j := 0) dX8_next_57 rfl rfl ?_
    refine r_bipush (pc := 58) (v := (97 : Int32)) dX8_next_58 rfl ?_
    refine r_bipush (pc := 60) (v := (122 : Int32)) dX8_next_60 rfl ?_
    refine kX8_in (pc := 62) (hf := rfl) tw_6_65 ⟨nle rfl, nle rfl⟩ (nle rfl) dX8_next_62 ?_
    refine r_ifB_eq (pc := 65) (tgt := 165) dX8_next_65 rfl (fun hc => ?_) (fun hc => ?_)
    · replace hr := ite_f hc hr
      refine r_iload_n (pc := 165) (j := 0) dX8_next_165 rfl rfl ?_
      refine r_bipush (pc := 166) (v := (48 : Int32)) dX8_next_166 rfl ?_
      refine r_bipush (pc := 168) (v := (57 : Int32)) dX8_next_168 rfl ?_
      refine kX8_in (pc := 170) (hf := rfl) tw_6_65 ⟨nle rfl, nle rfl⟩ (nle rfl) dX8_next_170 ?_
      refine r_ifB_eq (pc := 173) (tgt := 247) dX8_next_173 rfl (fun hc => ?_) (fun hc => ?_)
      · replace hr := ite_f hc hr
        refine r_aload_n (pc := 247) (j := 1) dX8_next_247 rfl rfl ?_
        refine r_iload_n (pc := 248) (j := 0) dX8_next_248 rfl rfl ?_
        refine r_bipush (pc := 249) (v := (44 : Int32)) dX8_next_249 rfl ?_
        obtain ⟨j265, ej265, hr⟩ := vth_ex hr
        have hj265 : ∀ (s13 : Int32), j265 s13 = some r → RR g mX8_next (FinR g mX8_next none NF r) zF 265 [(0, .ref (ad g 73)), (1, .int v10)] [.int s13, .ref (ad g 73)] σ9 := by
          intro s13 hr
          replace hr := (congrFun ej265 s13).symm.trans hr
          refine pf8_5 (pc := 265) tw_5_99 rfl dX8_next_265 fun σ14 eσ14 => ?_
          replace hr := vthen_inv hr σ14 eσ14
          have hσ14 := wtI eσ14 hσ9
          refine r_aload_n (pc := 268) (j := 0) dX8_next_268 rfl rfl ?_
          refine r_iload_n (pc := 269) (j := 1) dX8_next_269 rfl rfl ?_
          refine pf8_8 (pc := 270) tw_5_102 rfl dX8_next_270 fun σ15 eσ15 => ?_
          replace hr := vthen_inv hr σ15 eσ15
          have hσ15 := wtI eσ15 hσ14
          refine r_aload_n (pc := 273) (j := 0) dX8_next_273 rfl rfl ?_
          refine r_aload_n (pc := 274) (j := 0) dX8_next_274 rfl rfl ?_
          refine gf8_2 (pc := 275) tw_5_96 rfl dX8_next_275 ?_
          refine r_iconst (pc := 278) (v := (1 : Int32)) dX8_next_278 rfl ?_
          refine r_iadd (pc := 279) dX8_next_279 ?_
          refine pf8_2 (pc := 280) tw_5_96 rfl dX8_next_280 fun σ16 eσ16 => ?_
          replace hr := vthen_inv hr σ16 eσ16
          have hσ16 := wtI eσ16 hσ15
          exact l_ov hr (r_vret (pc := 283) rfl rfl ⟨Nat.le_refl _, Nat.le_refl _⟩ dX8_next_283)
        obtain ⟨j260, ej260, hr⟩ := vth_ex hr
        have hj260 : j260 () = some r → RR g mX8_next (FinR g mX8_next none NF r) zF 260 [(0, .ref (ad g 73)), (1, .int v10)] [.ref (ad g 73)] σ9 := by
          intro  hr
          replace hr := (congrFun ej260 ()).symm.trans hr
          refine r_iconst (pc := 260) (v := (3 : Int32)) dX8_next_260 rfl ?_
          refine r_goto (pc := 261) (tgt := 265) dX8_next_261 rfl ?_
          exact r_pick (ls1 := [(0, .ref (ad g 73)), (1, .int v10)]) [0, 1] rfl (hj265 (3 : Int32) hr)
        refine r_icmp_eq (pc := 251) (tgt := 260) dX8_next_251 rfl (fun hc => ?_) (fun hc => ?_)
        · replace hr := ite_t hc hr
          exact r_pick (ls1 := [(0, .ref (ad g 73)), (1, .int v10)]) [1, 0] rfl (hj260  hr)
        replace hr := ite_f hc hr
        refine r_iload_n (pc := 254) (j := 0) dX8_next_254 rfl rfl ?_
        refine r_bipush (pc := 255) (v := (59 : Int32)) dX8_next_255 rfl ?_
        refine r_icmp_ne (pc := 257) (tgt := 264) dX8_next_257 rfl (fun hc => ?_) (fun hc => ?_)
        · replace hr := ite_f hc hr
          refine r_iconst (pc := 264) (v := (4 : Int32)) dX8_next_264 rfl ?_
          exact r_pick (ls1 := [(0, .ref (ad g 73)), (1, .int v10)]) [1, 0] rfl (hj265 (4 : Int32) hr)
        replace hr := ite_t hc hr
        exact r_pick (ls1 := [(0, .ref (ad g 73)), (1, .int v10)]) [1, 0] rfl (hj260  hr)
      replace hr := ite_t hc hr
      refine r_aload_n (pc := 176) (j := 1) dX8_next_176 rfl rfl ?_
      refine r_iconst (pc := 177) (v := (2 : Int32)) dX8_next_177 rfl ?_
      refine pf8_5 (pc := 178) tw_5_99 rfl dX8_next_178 fun σ17 eσ17 => ?_
      replace hr := vthen_inv hr σ17 eσ17
      have hσ17 := wtI eσ17 hσ9
      refine r_aload_n (pc := 181) (j := 1) dX8_next_181 rfl rfl ?_
      refine r_iconst (pc := 182) (v := (0 : Int32)) dX8_next_182 rfl ?_
      refine pf8_7 (pc := 183) tw_5_101 rfl dX8_next_183 fun σ18 eσ18 => ?_
      replace hr := vthen_inv hr σ18 eσ18
      have hσ18 := wtI eσ18 hσ17
      refine r_pick (ls1 := [(0, .ref (ad g 73))]) [1] rfl ?_
      refine sX8_next_L186     fuel σ18 hr hσ18
    replace hr := ite_t hc hr
    refine r_aload_n (pc := 68) (j := 1) dX8_next_68 rfl rfl ?_
    refine r_iconst (pc := 69) (v := (1 : Int32)) dX8_next_69 rfl ?_
    refine pf8_5 (pc := 70) tw_5_99 rfl dX8_next_70 fun σ28 eσ28 => ?_
    replace hr := vthen_inv hr σ28 eσ28
    have hσ28 := wtI eσ28 hσ9
    refine r_aload_n (pc := 73) (j := 1) dX8_next_73 rfl rfl ?_
    refine r_lconst (pc := 74) (v := (0 : Int64)) dX8_next_74 rfl ?_
    refine pf8_10 (pc := 75) tw_5_104 rfl dX8_next_75 fun σ29 eσ29 => ?_
    replace hr := vthen_inv hr σ29 eσ29
    have hσ29 := wtL eσ29 hσ28
    refine r_pick (ls1 := [(0, .ref (ad g 73))]) [1] rfl ?_
    refine sX8_next_L78     fuel σ29 hr hσ29
  replace hr := ite_t hc hr
  refine r_aload_n (pc := 49) (j := 1) dX8_next_49 rfl rfl ?_
  refine r_iconst (pc := 50) (v := (0 : Int32)) dX8_next_50 rfl ?_
  refine pf8_5 (pc := 51) tw_5_99 rfl dX8_next_51 fun σ40 eσ40 => ?_
  replace hr := vthen_inv hr σ40 eσ40
  have hσ40 := wtI eσ40 hσ9
  refine r_goto (pc := 54) (tgt := 283) dX8_next_54 rfl ?_
  exact l_ov hr (r_vret (pc := 283) rfl rfl ⟨Nat.le_refl _, Nat.le_refl _⟩ dX8_next_283)

theorem kX8_next {g : GG} {σ : SS}  {σ2 : SS} {M : MM} {F : State → Array Value → List Frame → State → Prop} {pc index : Nat} {ls : List (Nat × Value)} {rest : List Value} (hf : fX8_next σ = some σ2)  (hl : Cond.methodLink M.1.cls index yX8_next ∈ lw_gt) (hR : mX8_next.2.2.2.2.frames + 1 ≤ M.2.2.2.2.frames ∧ 8 + (mX8_next.2.2.1 + 11) + mX8_next.2.2.2.2.locals ≤ M.2.2.2.2.locals) (hrest : (rest.map fun v => v.category).sum ≤ 8) (hd : decode M.2.1 pc = .ok (.invokevirtual index, 3)) (k : WT σ2 → RR g M F zF (pc + 3) ls rest σ2) : RR g M F zF pc ls (.ref (ad g 73) :: rest) σ :=
  r_callV (z := zF) (N := mX8_next) (nn := 0) (o1 := none) (sX8_next hf ) (rfl : shp 73 = (8, 0)) (by decide) (shp_le (rfl : shp 73 = (8, 0)) (nle rfl)) (ci := 8) rfl rfl tw_6_71 tw_1_10 hl tw_6_70 tp_34 ⟨by decide, by decide, rfl⟩ hR rfl hrest hd ⟨Nat.zero_le _, Nat.zero_le _⟩ rfl (fun h => k (h rfl))

theorem dX8_isWord_0 : decode cX8_isWord 0 = .ok (.aload_n 0, 1) := by decide +kernel
theorem dX8_isWord_1 : decode cX8_isWord 1 = .ok (.getfield 162, 3) := by decide +kernel
theorem dX8_isWord_4 : decode cX8_isWord 4 = .ok (.iconst 1, 1) := by decide +kernel
theorem dX8_isWord_5 : decode cX8_isWord 5 = .ok (.if_icmp .ne 16, 3) := by decide +kernel
theorem dX8_isWord_8 : decode cX8_isWord 8 = .ok (.aload_n 0, 1) := by decide +kernel
theorem dX8_isWord_9 : decode cX8_isWord 9 = .ok (.getfield 169, 3) := by decide +kernel
theorem dX8_isWord_12 : decode cX8_isWord 12 = .ok (.lload_n 1, 1) := by decide +kernel
theorem dX8_isWord_13 : decode cX8_isWord 13 = .ok (.lcmp, 1) := by decide +kernel
theorem dX8_isWord_14 : decode cX8_isWord 14 = .ok (.ifCond .ne 7, 3) := by decide +kernel
theorem dX8_isWord_17 : decode cX8_isWord 17 = .ok (.iconst 1, 1) := by decide +kernel
theorem dX8_isWord_18 : decode cX8_isWord 18 = .ok (.goto 4, 3) := by decide +kernel
theorem dX8_isWord_21 : decode cX8_isWord 21 = .ok (.iconst 0, 1) := by decide +kernel
theorem dX8_isWord_22 : decode cX8_isWord 22 = .ok (.ireturn, 1) := by decide +kernel
def mX8_isWord : MM := (yX8_isWord, cX8_isWord, 3, Option.some Jvm.ClassFile.FieldType.boolean, { frames := 0, cells := 0, slots := 0, locals := 0 })
def fX8_isWord (σ0 : SS) (a1 : Int64) : Bool :=
  vthen (fun (_u : Unit) =>
    false
    ) fun j21 =>
  if (gI σ0 73 5) = (1 : Int32) then (
    if (lg_cmp (gL σ0 73 10) a1) = 0 then (
      true
      ) else (
      j21 ()
      )
    ) else (
    j21 ()
    )

set_option maxRecDepth 20000 in
theorem sX8_isWord {g : GG} {σ0 : SS} {a1 : Int64} {r : Bool} (hr : fX8_isWord σ0 a1 = r)  : Ct g mX8_isWord [.ref (ad g 73), .long a1] NF σ0 (some (.int (b2i r))) NF σ0 := by
  refine Ct.of (by decide +kernel) (nle rfl) fun hw0 => ?_
  have hw := hw0 rfl
  unfold fX8_isWord at hr
  change RR g mX8_isWord (FinR g mX8_isWord (some (.int (b2i r))) NF σ0) zF 0 [(0, .ref (ad g 73)), (1, .long a1)] [] σ0
  refine r_aload_n (pc := 0) (j := 0) dX8_isWord_0 rfl rfl ?_
  refine gf8_5 (pc := 1) tw_5_99 rfl dX8_isWord_1 ?_
  refine r_iconst (pc := 4) (v := (1 : Int32)) dX8_isWord_4 rfl ?_
  obtain ⟨j21, ej21, hr⟩ := vth_ex hr
  have hj21 : j21 () = r → RR g mX8_isWord (FinR g mX8_isWord (some (.int (b2i r))) NF σ0) zF 21 [] [] σ0 := by
    intro  hr
    replace hr := (congrFun ej21 ()).symm.trans hr
    refine r_iconst (pc := 21) (v := (0 : Int32)) dX8_isWord_21 rfl ?_
    exact l_pz hr (r_zret (pc := 22) (v := b2i false) (ty := .boolean) rfl (b2i_nar _) rfl ⟨Nat.le_refl _, Nat.le_refl _⟩ dX8_isWord_22)
  refine r_icmp_ne (pc := 5) (tgt := 21) dX8_isWord_5 rfl (fun hc => ?_) (fun hc => ?_)
  · replace hr := ite_f hc hr
    exact r_pick (ls1 := []) [] rfl (hj21  hr)
  replace hr := ite_t hc hr
  refine r_aload_n (pc := 8) (j := 0) dX8_isWord_8 rfl rfl ?_
  refine gf8_10 (pc := 9) tw_5_104 rfl dX8_isWord_9 ?_
  refine r_lload_n (pc := 12) (j := 1) dX8_isWord_12 rfl rfl ?_
  refine r_lcmp (pc := 13) dX8_isWord_13 ?_
  refine r_if_ne (pc := 14) (tgt := 21) dX8_isWord_14 rfl (fun hc => ?_) (fun hc => ?_)
  · replace hr := ite_f hc hr
    exact r_pick (ls1 := []) [] rfl (hj21  hr)
  replace hr := ite_t hc hr
  refine r_iconst (pc := 17) (v := (1 : Int32)) dX8_isWord_17 rfl ?_
  refine r_goto (pc := 18) (tgt := 22) dX8_isWord_18 rfl ?_
  exact l_pz hr (r_zret (pc := 22) (v := b2i true) (ty := .boolean) rfl (b2i_nar _) rfl ⟨Nat.le_refl _, Nat.le_refl _⟩ dX8_isWord_22)

theorem kX8_isWord {g : GG} {σ0 : SS} {a1 : Int64} {v : Bool} {M : MM} {F : State → Array Value → List Frame → State → Prop} {pc index : Nat} {ls : List (Nat × Value)} {rest : List Value} (hf : fX8_isWord σ0 a1 = v)  (hl : Cond.methodLink M.1.cls index yX8_isWord ∈ lw_gt) (hR : mX8_isWord.2.2.2.2.frames + 1 ≤ M.2.2.2.2.frames ∧ 8 + (mX8_isWord.2.2.1 + 11) + mX8_isWord.2.2.2.2.locals ≤ M.2.2.2.2.locals) (hrest : (rest.map fun v => v.category).sum ≤ 8) (hd : decode M.2.1 pc = .ok (.invokevirtual index, 3)) (k : RR g M F zF (pc + 3) ls (.int (b2i v) :: rest) σ0) : RR g M F zF pc ls (.long a1 :: .ref (ad g 73) :: rest) σ0 :=
  r_callV (z := zF) (N := mX8_isWord) (nn := 1) (o1 := some (.int (b2i v))) (sX8_isWord hf ) (rfl : shp 73 = (8, 0)) (by decide) (shp_le (rfl : shp 73 = (8, 0)) (nle rfl)) (ci := 8) rfl rfl tw_6_95 tw_1_10 hl tw_6_94 tp_39 ⟨by decide, by decide, rfl⟩ hR rfl hrest hd ⟨Nat.zero_le _, Nat.zero_le _⟩ rfl (fun h => k)

theorem dX8_wrong_0 : decode cX8_wrong 0 = .ok (.aload_n 0, 1) := by decide +kernel
theorem dX8_wrong_1 : decode cX8_wrong 1 = .ok (.sipush (-1000), 3) := by decide +kernel
theorem dX8_wrong_4 : decode cX8_wrong 4 = .ok (.iload_n 1, 1) := by decide +kernel
theorem dX8_wrong_5 : decode cX8_wrong 5 = .ok (.imul, 1) := by decide +kernel
theorem dX8_wrong_6 : decode cX8_wrong 6 = .ok (.aload_n 0, 1) := by decide +kernel
theorem dX8_wrong_7 : decode cX8_wrong 7 = .ok (.getfield 159, 3) := by decide +kernel
theorem dX8_wrong_10 : decode cX8_wrong 10 = .ok (.isub, 1) := by decide +kernel
theorem dX8_wrong_11 : decode cX8_wrong 11 = .ok (.putfield 188, 3) := by decide +kernel
theorem dX8_wrong_14 : decode cX8_wrong 14 = .ok (.iconst 0, 1) := by decide +kernel
theorem dX8_wrong_15 : decode cX8_wrong 15 = .ok (.ireturn, 1) := by decide +kernel
def mX8_wrong : MM := (yX8_wrong, cX8_wrong, 2, Option.some Jvm.ClassFile.FieldType.boolean, { frames := 0, cells := 0, slots := 0, locals := 0 })
def fX8_wrong (σ : SS) (a1 : Int32) : Option (Bool × SS) :=
  vthen (sI σ 73 4 (((-1000 : Int32) * a1) - (gI σ 73 6))) fun σ1 =>
  some (false, σ1)

set_option maxRecDepth 20000 in
theorem sX8_wrong {g : GG} {σ : SS} {a1 : Int32} {r : Bool × SS} (hr : fX8_wrong σ a1 = some r)  : Ct g mX8_wrong [.ref (ad g 73), .int a1] NF σ (some (.int (b2i r.1))) NF r.2 := by
  refine Ct.of (by decide +kernel) (nle rfl) fun hw0 => ?_
  have hw := hw0 rfl
  unfold fX8_wrong at hr
  change RR g mX8_wrong (FinR g mX8_wrong (some (.int (b2i r.1))) NF r.2) zF 0 [(0, .ref (ad g 73)), (1, .int a1)] [] σ
  refine r_aload_n (pc := 0) (j := 0) dX8_wrong_0 rfl rfl ?_
  refine r_sipush (pc := 1) (v := (-1000 : Int32)) dX8_wrong_1 rfl ?_
  refine r_iload_n (pc := 4) (j := 1) dX8_wrong_4 rfl rfl ?_
  refine r_imul (pc := 5) dX8_wrong_5 ?_
  refine r_aload_n (pc := 6) (j := 0) dX8_wrong_6 rfl rfl ?_
  refine gf8_6 (pc := 7) tw_5_100 rfl dX8_wrong_7 ?_
  refine r_isub (pc := 10) dX8_wrong_10 ?_
  refine pf8_4 (pc := 11) tw_5_98 rfl dX8_wrong_11 fun σ1 eσ1 => ?_
  replace hr := vthen_inv hr σ1 eσ1
  have hσ1 := wtI eσ1 hw
  refine r_iconst (pc := 14) (v := (0 : Int32)) dX8_wrong_14 rfl ?_
  exact l_osz hr (r_zret (pc := 15) (v := b2i false) (ty := .boolean) rfl (b2i_nar _) rfl ⟨Nat.le_refl _, Nat.le_refl _⟩ dX8_wrong_15)

theorem kX8_wrong {g : GG} {σ : SS} {a1 : Int32} {v : Bool} {σ2 : SS} {M : MM} {F : State → Array Value → List Frame → State → Prop} {pc index : Nat} {ls : List (Nat × Value)} {rest : List Value} (hf : fX8_wrong σ a1 = some (v, σ2))  (hl : Cond.methodLink M.1.cls index yX8_wrong ∈ lw_gt) (hR : mX8_wrong.2.2.2.2.frames + 1 ≤ M.2.2.2.2.frames ∧ 8 + (mX8_wrong.2.2.1 + 11) + mX8_wrong.2.2.2.2.locals ≤ M.2.2.2.2.locals) (hrest : (rest.map fun v => v.category).sum ≤ 8) (hd : decode M.2.1 pc = .ok (.invokevirtual index, 3)) (k : WT σ2 → RR g M F zF (pc + 3) ls (.int (b2i v) :: rest) σ2) : RR g M F zF pc ls (.int a1 :: .ref (ad g 73) :: rest) σ :=
  r_callV (z := zF) (N := mX8_wrong) (nn := 1) (o1 := some (.int (b2i v))) (sX8_wrong hf ) (rfl : shp 73 = (8, 0)) (by decide) (shp_le (rfl : shp 73 = (8, 0)) (nle rfl)) (ci := 8) rfl rfl tw_6_99 tw_1_10 hl tw_6_98 tp_40 ⟨by decide, by decide, rfl⟩ hR rfl hrest hd ⟨Nat.zero_le _, Nat.zero_le _⟩ rfl (fun h => k (h rfl))

theorem dX8_takesWord_0 : decode cX8_takesWord 0 = .ok (.aload_n 0, 1) := by decide +kernel
theorem dX8_takesWord_1 : decode cX8_takesWord 1 = .ok (.lload_n 1, 1) := by decide +kernel
theorem dX8_takesWord_2 : decode cX8_takesWord 2 = .ok (.invokevirtual 191, 3) := by decide +kernel
theorem dX8_takesWord_5 : decode cX8_takesWord 5 = .ok (.ifCond .ne 9, 3) := by decide +kernel
theorem dX8_takesWord_8 : decode cX8_takesWord 8 = .ok (.aload_n 0, 1) := by decide +kernel
theorem dX8_takesWord_9 : decode cX8_takesWord 9 = .ok (.iconst 1, 1) := by decide +kernel
theorem dX8_takesWord_10 : decode cX8_takesWord 10 = .ok (.invokevirtual 195, 3) := by decide +kernel
theorem dX8_takesWord_13 : decode cX8_takesWord 13 = .ok (.ireturn, 1) := by decide +kernel
theorem dX8_takesWord_14 : decode cX8_takesWord 14 = .ok (.aload_n 0, 1) := by decide +kernel
theorem dX8_takesWord_15 : decode cX8_takesWord 15 = .ok (.invokevirtual 199, 3) := by decide +kernel
theorem dX8_takesWord_18 : decode cX8_takesWord 18 = .ok (.iconst 1, 1) := by decide +kernel
theorem dX8_takesWord_19 : decode cX8_takesWord 19 = .ok (.ireturn, 1) := by decide +kernel
def mX8_takesWord : MM := (yX8_takesWord, cX8_takesWord, 3, Option.some Jvm.ClassFile.FieldType.boolean, { frames := 2, cells := 0, slots := 0, locals := 43 })
def fX8_takesWord (σ : SS) (a1 : Int64) : Option (Bool × SS) :=
  if (fX8_isWord σ a1) = true then (
    bnd1 (fX8_next σ) fun σ1 =>
    some (true, σ1)
    ) else (
    bnd (fX8_wrong σ (1 : Int32)) fun b3 σ5 =>
    some (b3, σ5)
    )

set_option maxRecDepth 20000 in
theorem sX8_takesWord {g : GG} {σ : SS} {a1 : Int64} {r : Bool × SS} (hr : fX8_takesWord σ a1 = some r)  : Ct g mX8_takesWord [.ref (ad g 73), .long a1] NF σ (some (.int (b2i r.1))) NF r.2 := by
  refine Ct.of (by decide +kernel) (nle rfl) fun hw0 => ?_
  have hw := hw0 rfl
  unfold fX8_takesWord at hr
  change RR g mX8_takesWord (FinR g mX8_takesWord (some (.int (b2i r.1))) NF r.2) zF 0 [(0, .ref (ad g 73)), (1, .long a1)] [] σ
  refine r_aload_n (pc := 0) (j := 0) dX8_takesWord_0 rfl rfl ?_
  refine r_lload_n (pc := 1) (j := 1) dX8_takesWord_1 rfl rfl ?_
  refine kX8_isWord (pc := 2) (hf := rfl) tw_6_92 ⟨nle rfl, nle rfl⟩ (nle rfl) dX8_takesWord_2 ?_
  refine r_ifB_ne (pc := 5) (tgt := 14) dX8_takesWord_5 rfl (fun hc => ?_) (fun hc => ?_)
  · replace hr := ite_t hc hr
    refine r_aload_n (pc := 14) (j := 0) dX8_takesWord_14 rfl rfl ?_
    obtain ⟨σ1, eσ1, hr⟩ := bnd1_inv hr
    refine kX8_next (pc := 15) eσ1 tw_6_68 ⟨nle rfl, nle rfl⟩ (nle rfl) dX8_takesWord_15 fun hσ1 => ?_
    refine r_iconst (pc := 18) (v := (1 : Int32)) dX8_takesWord_18 rfl ?_
    exact l_osz hr (r_zret (pc := 19) (v := b2i true) (ty := .boolean) rfl (b2i_nar _) rfl ⟨Nat.le_refl _, Nat.le_refl _⟩ dX8_takesWord_19)
  replace hr := ite_f hc hr
  refine r_aload_n (pc := 8) (j := 0) dX8_takesWord_8 rfl rfl ?_
  refine r_iconst (pc := 9) (v := (1 : Int32)) dX8_takesWord_9 rfl ?_
  obtain ⟨b3, σ5, eσ5, hr⟩ := bnd_inv hr
  refine kX8_wrong (pc := 10) eσ5 tw_6_96 ⟨nle rfl, nle rfl⟩ (nle rfl) dX8_takesWord_10 fun hσ5 => ?_
  exact l_osz hr (r_zret (pc := 13) (v := b2i b3) (ty := .boolean) rfl (b2i_nar _) rfl ⟨Nat.le_refl _, Nat.le_refl _⟩ dX8_takesWord_13)

theorem kX8_takesWord {g : GG} {σ : SS} {a1 : Int64} {v : Bool} {σ2 : SS} {M : MM} {F : State → Array Value → List Frame → State → Prop} {pc index : Nat} {ls : List (Nat × Value)} {rest : List Value} (hf : fX8_takesWord σ a1 = some (v, σ2))  (hl : Cond.methodLink M.1.cls index yX8_takesWord ∈ lw_gt) (hR : mX8_takesWord.2.2.2.2.frames + 1 ≤ M.2.2.2.2.frames ∧ 8 + (mX8_takesWord.2.2.1 + 11) + mX8_takesWord.2.2.2.2.locals ≤ M.2.2.2.2.locals) (hrest : (rest.map fun v => v.category).sum ≤ 8) (hd : decode M.2.1 pc = .ok (.invokevirtual index, 3)) (k : WT σ2 → RR g M F zF (pc + 3) ls (.int (b2i v) :: rest) σ2) : RR g M F zF pc ls (.long a1 :: .ref (ad g 73) :: rest) σ :=
  r_callV (z := zF) (N := mX8_takesWord) (nn := 1) (o1 := some (.int (b2i v))) (sX8_takesWord hf ) (rfl : shp 73 = (8, 0)) (by decide) (shp_le (rfl : shp 73 = (8, 0)) (nle rfl)) (ci := 8) rfl rfl tw_6_91 tw_1_10 hl tw_6_90 tp_38 ⟨by decide, by decide, rfl⟩ hR rfl hrest hd ⟨Nat.zero_le _, Nat.zero_le _⟩ rfl (fun h => k (h rfl))

theorem dX8_isNumber_0 : decode cX8_isNumber 0 = .ok (.aload_n 0, 1) := by decide +kernel
theorem dX8_isNumber_1 : decode cX8_isNumber 1 = .ok (.getfield 162, 3) := by decide +kernel
theorem dX8_isNumber_4 : decode cX8_isNumber 4 = .ok (.iconst 2, 1) := by decide +kernel
theorem dX8_isNumber_5 : decode cX8_isNumber 5 = .ok (.if_icmp .eq 9, 3) := by decide +kernel
theorem dX8_isNumber_8 : decode cX8_isNumber 8 = .ok (.aload_n 0, 1) := by decide +kernel
theorem dX8_isNumber_9 : decode cX8_isNumber 9 = .ok (.iconst 1, 1) := by decide +kernel
theorem dX8_isNumber_10 : decode cX8_isNumber 10 = .ok (.invokevirtual 195, 3) := by decide +kernel
theorem dX8_isNumber_13 : decode cX8_isNumber 13 = .ok (.ireturn, 1) := by decide +kernel
theorem dX8_isNumber_14 : decode cX8_isNumber 14 = .ok (.aload_n 0, 1) := by decide +kernel
theorem dX8_isNumber_15 : decode cX8_isNumber 15 = .ok (.getfield 182, 3) := by decide +kernel
theorem dX8_isNumber_18 : decode cX8_isNumber 18 = .ok (.iload_n 1, 1) := by decide +kernel
theorem dX8_isNumber_19 : decode cX8_isNumber 19 = .ok (.iload_n 2, 1) := by decide +kernel
theorem dX8_isNumber_20 : decode cX8_isNumber 20 = .ok (.invokestatic 165, 3) := by decide +kernel
theorem dX8_isNumber_23 : decode cX8_isNumber 23 = .ok (.ifCond .ne 11, 3) := by decide +kernel
theorem dX8_isNumber_26 : decode cX8_isNumber 26 = .ok (.aload_n 0, 1) := by decide +kernel
theorem dX8_isNumber_27 : decode cX8_isNumber 27 = .ok (.iconst 2, 1) := by decide +kernel
theorem dX8_isNumber_28 : decode cX8_isNumber 28 = .ok (.invokevirtual 195, 3) := by decide +kernel
theorem dX8_isNumber_31 : decode cX8_isNumber 31 = .ok (.ifCond .eq 7, 3) := by decide +kernel
theorem dX8_isNumber_34 : decode cX8_isNumber 34 = .ok (.iconst 1, 1) := by decide +kernel
theorem dX8_isNumber_35 : decode cX8_isNumber 35 = .ok (.goto 4, 3) := by decide +kernel
theorem dX8_isNumber_38 : decode cX8_isNumber 38 = .ok (.iconst 0, 1) := by decide +kernel
theorem dX8_isNumber_39 : decode cX8_isNumber 39 = .ok (.ireturn, 1) := by decide +kernel
def mX8_isNumber : MM := (yX8_isNumber, cX8_isNumber, 3, Option.some Jvm.ClassFile.FieldType.boolean, { frames := 1, cells := 0, slots := 0, locals := 22 })
def fX8_isNumber (σ : SS) (a1 : Int32) (a2 : Int32) : Option (Bool × SS) :=
  if (gI σ 73 5) = (2 : Int32) then (
    vthen (fun  (σ1 : SS) =>
      some (true, σ1)
      ) fun j34 =>
    if (fX8_in σ (gI σ 73 7) a1 a2) = true then (
      j34 σ
      ) else (
      bnd (fX8_wrong σ (2 : Int32)) fun b3 σ5 =>
      if b3 = true then (
        j34 σ5
        ) else (
        some (false, σ5)
        )
      )
    ) else (
    bnd (fX8_wrong σ (1 : Int32)) fun b7 σ9 =>
    some (b7, σ9)
    )

set_option maxRecDepth 20000 in
theorem sX8_isNumber {g : GG} {σ : SS} {a1 : Int32} {a2 : Int32} {r : Bool × SS} (hr : fX8_isNumber σ a1 a2 = some r)  : Ct g mX8_isNumber [.ref (ad g 73), .int a1, .int a2] NF σ (some (.int (b2i r.1))) NF r.2 := by
  refine Ct.of (by decide +kernel) (nle rfl) fun hw0 => ?_
  have hw := hw0 rfl
  unfold fX8_isNumber at hr
  change RR g mX8_isNumber (FinR g mX8_isNumber (some (.int (b2i r.1))) NF r.2) zF 0 [(0, .ref (ad g 73)), (1, .int a1), (2, .int a2)] [] σ
  refine r_aload_n (pc := 0) (j := 0) dX8_isNumber_0 rfl rfl ?_
  refine gf8_5 (pc := 1) tw_5_99 rfl dX8_isNumber_1 ?_
  refine r_iconst (pc := 4) (v := (2 : Int32)) dX8_isNumber_4 rfl ?_
  refine r_icmp_eq (pc := 5) (tgt := 14) dX8_isNumber_5 rfl (fun hc => ?_) (fun hc => ?_)
  · replace hr := ite_t hc hr
    refine r_aload_n (pc := 14) (j := 0) dX8_isNumber_14 rfl rfl ?_
    refine gf8_7 (pc := 15) tw_5_101 rfl dX8_isNumber_15 ?_
    refine r_iload_n (pc := 18) (j := 1) dX8_isNumber_18 rfl rfl ?_
    refine r_iload_n (pc := 19) (j := 2) dX8_isNumber_19 rfl rfl ?_
    refine kX8_in (pc := 20) (hf := rfl) tw_6_65 ⟨nle rfl, nle rfl⟩ (nle rfl) dX8_isNumber_20 ?_
    obtain ⟨j34, ej34, hr⟩ := vth_ex hr
    have hj34 : ∀ (σ1 : SS), j34 σ1 = some r → WT σ1 → RR g mX8_isNumber (FinR g mX8_isNumber (some (.int (b2i r.1))) NF r.2) zF 34 [] [] σ1 := by
      intro σ1 hr hσ1
      replace hr := (congrFun ej34 σ1).symm.trans hr
      refine r_iconst (pc := 34) (v := (1 : Int32)) dX8_isNumber_34 rfl ?_
      refine r_goto (pc := 35) (tgt := 39) dX8_isNumber_35 rfl ?_
      exact l_osz hr (r_zret (pc := 39) (v := b2i true) (ty := .boolean) rfl (b2i_nar _) rfl ⟨Nat.le_refl _, Nat.le_refl _⟩ dX8_isNumber_39)
    refine r_ifB_ne (pc := 23) (tgt := 34) dX8_isNumber_23 rfl (fun hc => ?_) (fun hc => ?_)
    · replace hr := ite_t hc hr
      exact r_pick (ls1 := []) [] rfl (hj34 σ hr hw)
    replace hr := ite_f hc hr
    refine r_aload_n (pc := 26) (j := 0) dX8_isNumber_26 rfl rfl ?_
    refine r_iconst (pc := 27) (v := (2 : Int32)) dX8_isNumber_27 rfl ?_
    obtain ⟨b3, σ5, eσ5, hr⟩ := bnd_inv hr
    refine kX8_wrong (pc := 28) eσ5 tw_6_96 ⟨nle rfl, nle rfl⟩ (nle rfl) dX8_isNumber_28 fun hσ5 => ?_
    refine r_ifB_eq (pc := 31) (tgt := 38) dX8_isNumber_31 rfl (fun hc => ?_) (fun hc => ?_)
    · replace hr := ite_f hc hr
      refine r_iconst (pc := 38) (v := (0 : Int32)) dX8_isNumber_38 rfl ?_
      exact l_osz hr (r_zret (pc := 39) (v := b2i false) (ty := .boolean) rfl (b2i_nar _) rfl ⟨Nat.le_refl _, Nat.le_refl _⟩ dX8_isNumber_39)
    replace hr := ite_t hc hr
    exact r_pick (ls1 := []) [] rfl (hj34 σ5 hr hσ5)
  replace hr := ite_f hc hr
  refine r_aload_n (pc := 8) (j := 0) dX8_isNumber_8 rfl rfl ?_
  refine r_iconst (pc := 9) (v := (1 : Int32)) dX8_isNumber_9 rfl ?_
  obtain ⟨b7, σ9, eσ9, hr⟩ := bnd_inv hr
  refine kX8_wrong (pc := 10) eσ9 tw_6_96 ⟨nle rfl, nle rfl⟩ (nle rfl) dX8_isNumber_10 fun hσ9 => ?_
  exact l_osz hr (r_zret (pc := 13) (v := b2i b7) (ty := .boolean) rfl (b2i_nar _) rfl ⟨Nat.le_refl _, Nat.le_refl _⟩ dX8_isNumber_13)

theorem kX8_isNumber {g : GG} {σ : SS} {a1 : Int32} {a2 : Int32} {v : Bool} {σ2 : SS} {M : MM} {F : State → Array Value → List Frame → State → Prop} {pc index : Nat} {ls : List (Nat × Value)} {rest : List Value} (hf : fX8_isNumber σ a1 a2 = some (v, σ2))  (hl : Cond.methodLink M.1.cls index yX8_isNumber ∈ lw_gt) (hR : mX8_isNumber.2.2.2.2.frames + 1 ≤ M.2.2.2.2.frames ∧ 8 + (mX8_isNumber.2.2.1 + 11) + mX8_isNumber.2.2.2.2.locals ≤ M.2.2.2.2.locals) (hrest : (rest.map fun v => v.category).sum ≤ 8) (hd : decode M.2.1 pc = .ok (.invokevirtual index, 3)) (k : WT σ2 → RR g M F zF (pc + 3) ls (.int (b2i v) :: rest) σ2) : RR g M F zF pc ls (.int a2 :: .int a1 :: .ref (ad g 73) :: rest) σ :=
  r_callV (z := zF) (N := mX8_isNumber) (nn := 2) (o1 := some (.int (b2i v))) (sX8_isNumber hf ) (rfl : shp 73 = (8, 0)) (by decide) (shp_le (rfl : shp 73 = (8, 0)) (nle rfl)) (ci := 8) rfl rfl tw_6_103 tw_1_10 hl tw_6_102 tp_41 ⟨by decide, by decide, rfl⟩ hR rfl hrest hd ⟨Nat.zero_le _, Nat.zero_le _⟩ rfl (fun h => k (h rfl))

theorem dX8_takesSign_0 : decode cX8_takesSign 0 = .ok (.aload_n 0, 1) := by decide +kernel
theorem dX8_takesSign_1 : decode cX8_takesSign 1 = .ok (.getfield 162, 3) := by decide +kernel
theorem dX8_takesSign_4 : decode cX8_takesSign 4 = .ok (.iconst 3, 1) := by decide +kernel
theorem dX8_takesSign_5 : decode cX8_takesSign 5 = .ok (.if_icmp .ne 11, 3) := by decide +kernel
theorem dX8_takesSign_8 : decode cX8_takesSign 8 = .ok (.aload_n 0, 1) := by decide +kernel
theorem dX8_takesSign_9 : decode cX8_takesSign 9 = .ok (.getfield 185, 3) := by decide +kernel
theorem dX8_takesSign_12 : decode cX8_takesSign 12 = .ok (.iload_n 1, 1) := by decide +kernel
theorem dX8_takesSign_13 : decode cX8_takesSign 13 = .ok (.if_icmp .eq 9, 3) := by decide +kernel
theorem dX8_takesSign_16 : decode cX8_takesSign 16 = .ok (.aload_n 0, 1) := by decide +kernel
theorem dX8_takesSign_17 : decode cX8_takesSign 17 = .ok (.iconst 1, 1) := by decide +kernel
theorem dX8_takesSign_18 : decode cX8_takesSign 18 = .ok (.invokevirtual 195, 3) := by decide +kernel
theorem dX8_takesSign_21 : decode cX8_takesSign 21 = .ok (.ireturn, 1) := by decide +kernel
theorem dX8_takesSign_22 : decode cX8_takesSign 22 = .ok (.aload_n 0, 1) := by decide +kernel
theorem dX8_takesSign_23 : decode cX8_takesSign 23 = .ok (.invokevirtual 199, 3) := by decide +kernel
theorem dX8_takesSign_26 : decode cX8_takesSign 26 = .ok (.iconst 1, 1) := by decide +kernel
theorem dX8_takesSign_27 : decode cX8_takesSign 27 = .ok (.ireturn, 1) := by decide +kernel
def mX8_takesSign : MM := (yX8_takesSign, cX8_takesSign, 2, Option.some Jvm.ClassFile.FieldType.boolean, { frames := 2, cells := 0, slots := 0, locals := 43 })
def fX8_takesSign (σ : SS) (a1 : Int32) : Option (Bool × SS) :=
  vthen (fun (_u : Unit) =>
    bnd (fX8_wrong σ (1 : Int32)) fun b2 σ4 =>
    some (b2, σ4)
    ) fun j16 =>
  if (gI σ 73 5) = (3 : Int32) then (
    if (gI σ 73 8) = a1 then (
      bnd1 (fX8_next σ) fun σ5 =>
      some (true, σ5)
      ) else (
      j16 ()
      )
    ) else (
    j16 ()
    )

set_option maxRecDepth 20000 in
theorem sX8_takesSign {g : GG} {σ : SS} {a1 : Int32} {r : Bool × SS} (hr : fX8_takesSign σ a1 = some r)  : Ct g mX8_takesSign [.ref (ad g 73), .int a1] NF σ (some (.int (b2i r.1))) NF r.2 := by
  refine Ct.of (by decide +kernel) (nle rfl) fun hw0 => ?_
  have hw := hw0 rfl
  unfold fX8_takesSign at hr
  change RR g mX8_takesSign (FinR g mX8_takesSign (some (.int (b2i r.1))) NF r.2) zF 0 [(0, .ref (ad g 73)), (1, .int a1)] [] σ
  refine r_aload_n (pc := 0) (j := 0) dX8_takesSign_0 rfl rfl ?_
  refine gf8_5 (pc := 1) tw_5_99 rfl dX8_takesSign_1 ?_
  refine r_iconst (pc := 4) (v := (3 : Int32)) dX8_takesSign_4 rfl ?_
  obtain ⟨j16, ej16, hr⟩ := vth_ex hr
  have hj16 : j16 () = some r → RR g mX8_takesSign (FinR g mX8_takesSign (some (.int (b2i r.1))) NF r.2) zF 16 [(0, .ref (ad g 73))] [] σ := by
    intro  hr
    replace hr := (congrFun ej16 ()).symm.trans hr
    refine r_aload_n (pc := 16) (j := 0) dX8_takesSign_16 rfl rfl ?_
    refine r_iconst (pc := 17) (v := (1 : Int32)) dX8_takesSign_17 rfl ?_
    obtain ⟨b2, σ4, eσ4, hr⟩ := bnd_inv hr
    refine kX8_wrong (pc := 18) eσ4 tw_6_96 ⟨nle rfl, nle rfl⟩ (nle rfl) dX8_takesSign_18 fun hσ4 => ?_
    exact l_osz hr (r_zret (pc := 21) (v := b2i b2) (ty := .boolean) rfl (b2i_nar _) rfl ⟨Nat.le_refl _, Nat.le_refl _⟩ dX8_takesSign_21)
  refine r_icmp_ne (pc := 5) (tgt := 16) dX8_takesSign_5 rfl (fun hc => ?_) (fun hc => ?_)
  · replace hr := ite_f hc hr
    exact r_pick (ls1 := [(0, .ref (ad g 73))]) [0] rfl (hj16  hr)
  replace hr := ite_t hc hr
  refine r_aload_n (pc := 8) (j := 0) dX8_takesSign_8 rfl rfl ?_
  refine gf8_8 (pc := 9) tw_5_102 rfl dX8_takesSign_9 ?_
  refine r_iload_n (pc := 12) (j := 1) dX8_takesSign_12 rfl rfl ?_
  refine r_icmp_eq (pc := 13) (tgt := 22) dX8_takesSign_13 rfl (fun hc => ?_) (fun hc => ?_)
  · replace hr := ite_t hc hr
    refine r_aload_n (pc := 22) (j := 0) dX8_takesSign_22 rfl rfl ?_
    obtain ⟨σ5, eσ5, hr⟩ := bnd1_inv hr
    refine kX8_next (pc := 23) eσ5 tw_6_68 ⟨nle rfl, nle rfl⟩ (nle rfl) dX8_takesSign_23 fun hσ5 => ?_
    refine r_iconst (pc := 26) (v := (1 : Int32)) dX8_takesSign_26 rfl ?_
    exact l_osz hr (r_zret (pc := 27) (v := b2i true) (ty := .boolean) rfl (b2i_nar _) rfl ⟨Nat.le_refl _, Nat.le_refl _⟩ dX8_takesSign_27)
  replace hr := ite_f hc hr
  exact r_pick (ls1 := [(0, .ref (ad g 73))]) [0] rfl (hj16  hr)

theorem kX8_takesSign {g : GG} {σ : SS} {a1 : Int32} {v : Bool} {σ2 : SS} {M : MM} {F : State → Array Value → List Frame → State → Prop} {pc index : Nat} {ls : List (Nat × Value)} {rest : List Value} (hf : fX8_takesSign σ a1 = some (v, σ2))  (hl : Cond.methodLink M.1.cls index yX8_takesSign ∈ lw_gt) (hR : mX8_takesSign.2.2.2.2.frames + 1 ≤ M.2.2.2.2.frames ∧ 8 + (mX8_takesSign.2.2.1 + 11) + mX8_takesSign.2.2.2.2.locals ≤ M.2.2.2.2.locals) (hrest : (rest.map fun v => v.category).sum ≤ 8) (hd : decode M.2.1 pc = .ok (.invokevirtual index, 3)) (k : WT σ2 → RR g M F zF (pc + 3) ls (.int (b2i v) :: rest) σ2) : RR g M F zF pc ls (.int a1 :: .ref (ad g 73) :: rest) σ :=
  r_callV (z := zF) (N := mX8_takesSign) (nn := 1) (o1 := some (.int (b2i v))) (sX8_takesSign hf ) (rfl : shp 73 = (8, 0)) (by decide) (shp_le (rfl : shp 73 = (8, 0)) (nle rfl)) (ci := 8) rfl rfl tw_6_107 tw_1_10 hl tw_6_106 tp_42 ⟨by decide, by decide, rfl⟩ hR rfl hrest hd ⟨Nat.zero_le _, Nat.zero_le _⟩ rfl (fun h => k (h rfl))

theorem dX8_readsTwo_0 : decode cX8_readsTwo 0 = .ok (.aload_n 0, 1) := by decide +kernel
theorem dX8_readsTwo_1 : decode cX8_readsTwo 1 = .ok (.lload_n 2, 1) := by decide +kernel
theorem dX8_readsTwo_2 : decode cX8_readsTwo 2 = .ok (.invokevirtual 209, 3) := by decide +kernel
theorem dX8_readsTwo_5 : decode cX8_readsTwo 5 = .ok (.ifCond .ne 5, 3) := by decide +kernel
theorem dX8_readsTwo_8 : decode cX8_readsTwo 8 = .ok (.iconst 0, 1) := by decide +kernel
theorem dX8_readsTwo_9 : decode cX8_readsTwo 9 = .ok (.ireturn, 1) := by decide +kernel
theorem dX8_readsTwo_10 : decode cX8_readsTwo 10 = .ok (.iconst 0, 1) := by decide +kernel
theorem dX8_readsTwo_11 : decode cX8_readsTwo 11 = .ok (.istore 6, 2) := by decide +kernel
theorem dX8_readsTwo_13 : decode cX8_readsTwo 13 = .ok (.iload 6, 2) := by decide +kernel
theorem dX8_readsTwo_15 : decode cX8_readsTwo 15 = .ok (.iconst 2, 1) := by decide +kernel
theorem dX8_readsTwo_16 : decode cX8_readsTwo 16 = .ok (.if_icmp .ge 46, 3) := by decide +kernel
theorem dX8_readsTwo_19 : decode cX8_readsTwo 19 = .ok (.aload_n 0, 1) := by decide +kernel
theorem dX8_readsTwo_20 : decode cX8_readsTwo 20 = .ok (.iload 4, 2) := by decide +kernel
theorem dX8_readsTwo_22 : decode cX8_readsTwo 22 = .ok (.iload 5, 2) := by decide +kernel
theorem dX8_readsTwo_24 : decode cX8_readsTwo 24 = .ok (.invokevirtual 212, 3) := by decide +kernel
theorem dX8_readsTwo_27 : decode cX8_readsTwo 27 = .ok (.ifCond .ne 5, 3) := by decide +kernel
theorem dX8_readsTwo_30 : decode cX8_readsTwo 30 = .ok (.iconst 0, 1) := by decide +kernel
theorem dX8_readsTwo_31 : decode cX8_readsTwo 31 = .ok (.ireturn, 1) := by decide +kernel
theorem dX8_readsTwo_32 : decode cX8_readsTwo 32 = .ok (.aload_n 0, 1) := by decide +kernel
theorem dX8_readsTwo_33 : decode cX8_readsTwo 33 = .ok (.getfield 13, 3) := by decide +kernel
theorem dX8_readsTwo_36 : decode cX8_readsTwo 36 = .ok (.iconst 5, 1) := by decide +kernel
theorem dX8_readsTwo_37 : decode cX8_readsTwo 37 = .ok (.aload_n 0, 1) := by decide +kernel
theorem dX8_readsTwo_38 : decode cX8_readsTwo 38 = .ok (.getfield 206, 3) := by decide +kernel
theorem dX8_readsTwo_41 : decode cX8_readsTwo 41 = .ok (.imul, 1) := by decide +kernel
theorem dX8_readsTwo_42 : decode cX8_readsTwo 42 = .ok (.iload_n 1, 1) := by decide +kernel
theorem dX8_readsTwo_43 : decode cX8_readsTwo 43 = .ok (.iadd, 1) := by decide +kernel
theorem dX8_readsTwo_44 : decode cX8_readsTwo 44 = .ok (.iload 6, 2) := by decide +kernel
theorem dX8_readsTwo_46 : decode cX8_readsTwo 46 = .ok (.iadd, 1) := by decide +kernel
theorem dX8_readsTwo_47 : decode cX8_readsTwo 47 = .ok (.aload_n 0, 1) := by decide +kernel
theorem dX8_readsTwo_48 : decode cX8_readsTwo 48 = .ok (.getfield 182, 3) := by decide +kernel
theorem dX8_readsTwo_51 : decode cX8_readsTwo 51 = .ok (.iastore, 1) := by decide +kernel
theorem dX8_readsTwo_52 : decode cX8_readsTwo 52 = .ok (.aload_n 0, 1) := by decide +kernel
theorem dX8_readsTwo_53 : decode cX8_readsTwo 53 = .ok (.invokevirtual 199, 3) := by decide +kernel
theorem dX8_readsTwo_56 : decode cX8_readsTwo 56 = .ok (.iinc 6 1, 3) := by decide +kernel
theorem dX8_readsTwo_59 : decode cX8_readsTwo 59 = .ok (.goto (-46), 3) := by decide +kernel
theorem dX8_readsTwo_62 : decode cX8_readsTwo 62 = .ok (.aload_n 0, 1) := by decide +kernel
theorem dX8_readsTwo_63 : decode cX8_readsTwo 63 = .ok (.bipush 59, 2) := by decide +kernel
theorem dX8_readsTwo_65 : decode cX8_readsTwo 65 = .ok (.invokevirtual 216, 3) := by decide +kernel
theorem dX8_readsTwo_68 : decode cX8_readsTwo 68 = .ok (.ireturn, 1) := by decide +kernel
def mX8_readsTwo : MM := (yX8_readsTwo, cX8_readsTwo, 7, Option.some Jvm.ClassFile.FieldType.boolean, { frames := 3, cells := 0, slots := 0, locals := 65 })
def X8_readsTwo_L13 (u1_ : Int32) (u4_ : Int32) (u5_ : Int32)  : Nat → Int32 → SS → Option (Bool × SS) :=
  lp (fun _ _ => none) fun rec v6_ σ_ =>
    if (2 : Int32) ≤ v6_ then (
      bnd (fX8_takesSign σ_ (59 : Int32)) fun b6 σ8 =>
      some (b6, σ8)
      ) else (
      bnd (fX8_isNumber σ_ u4_ u5_) fun b10 σ12 =>
      if b10 = true then (
        grd (inb ((((5 : Int32) * (gI σ12 73 11)) + u1_) + v6_) 10) <|
        vthen (sI σ12 75 (Int32.toNatClampNeg ((((5 : Int32) * (gI σ12 73 11)) + u1_) + v6_)) (gI σ12 73 7)) fun σ14 =>
        bnd1 (fX8_next σ14) fun σ15 =>
        rec (v6_ + (1 : Int32)) σ15
        ) else (
        some (false, σ12)
        )
      )

def fX8_readsTwo (σ : SS) (a1 : Int32) (a2 : Int64) (a4 : Int32) (a5 : Int32) : Option (Bool × SS) :=
  bnd (fX8_takesWord σ a2) fun b2 σ4 =>
  if b2 = true then (
    X8_readsTwo_L13 a1 a4 a5
    fuel (0 : Int32) σ4
    ) else (
    some (false, σ4)
    )

set_option maxRecDepth 20000 in
theorem sX8_readsTwo_L13 {g : GG} {r : Bool × SS} {u1_ : Int32} {u4_ : Int32} {u5_ : Int32}  
    (n : Nat) : ∀ (v6_ : Int32) (σ_ : SS), X8_readsTwo_L13 u1_ u4_ u5_ n v6_ σ_ = some r → WT σ_ → RR g mX8_readsTwo (FinR g mX8_readsTwo (some (.int (b2i r.1))) NF r.2) zF 13 [(0, .ref (ad g 73)), (1, .int u1_), (4, .int u4_), (5, .int u5_), (6, .int v6_)] [] σ_ := by
  unfold X8_readsTwo_L13
  refine lp_ind (P := fun (rec : Int32 → SS → Option (Bool × SS)) => ∀ (v6_ : Int32) (σ_ : SS), rec v6_ σ_ = some r → WT σ_ → RR g mX8_readsTwo (FinR g mX8_readsTwo (some (.int (b2i r.1))) NF r.2) zF 13 [(0, .ref (ad g 73)), (1, .int u1_), (4, .int u4_), (5, .int u5_), (6, .int v6_)] [] σ_) ?_ ?_ n
  · intro v6_ σ_ hr; cases hr
  intro rec ih v6_ σ_ hr hw_
  refine r_iload (pc := 13) (j := 4) dX8_readsTwo_13 rfl ?_
  refine r_iconst (pc := 15) (v := (2 : Int32)) dX8_readsTwo_15 rfl ?_
  refine r_icmp_ge (pc := 16) (tgt := 62) dX8_readsTwo_16 rfl (fun hc => ?_) (fun hc => ?_)
  · replace hr := ite_t hc hr
    refine r_aload_n (pc := 62) (j := 0) dX8_readsTwo_62 rfl rfl ?_
    refine r_bipush (pc := 63) (v := (59 : Int32)) dX8_readsTwo_63 rfl ?_
    obtain ⟨b6, σ8, eσ8, hr⟩ := bnd_inv hr
    refine kX8_takesSign (pc := 65) eσ8 tw_6_104 ⟨nle rfl, nle rfl⟩ (nle rfl) dX8_readsTwo_65 fun hσ8 => ?_
    exact l_osz hr (r_zret (pc := 68) (v := b2i b6) (ty := .boolean) rfl (b2i_nar _) rfl ⟨Nat.le_refl _, Nat.le_refl _⟩ dX8_readsTwo_68)
  replace hr := ite_f hc hr
  refine r_aload_n (pc := 19) (j := 0) dX8_readsTwo_19 rfl rfl ?_
  refine r_iload (pc := 20) (j := 2) dX8_readsTwo_20 rfl ?_
  refine r_iload (pc := 22) (j := 3) dX8_readsTwo_22 rfl ?_
  obtain ⟨b10, σ12, eσ12, hr⟩ := bnd_inv hr
  refine kX8_isNumber (pc := 24) eσ12 tw_6_100 ⟨nle rfl, nle rfl⟩ (nle rfl) dX8_readsTwo_24 fun hσ12 => ?_
  refine r_ifB_ne (pc := 27) (tgt := 32) dX8_readsTwo_27 rfl (fun hc => ?_) (fun hc => ?_)
  · replace hr := ite_t hc hr
    refine r_aload_n (pc := 32) (j := 0) dX8_readsTwo_32 rfl rfl ?_
    refine gf8_13 (pc := 33) tw_5_107 hσ12 dX8_readsTwo_33 ?_
    refine r_iconst (pc := 36) (v := (5 : Int32)) dX8_readsTwo_36 rfl ?_
    refine r_aload_n (pc := 37) (j := 0) dX8_readsTwo_37 rfl rfl ?_
    refine gf8_11 (pc := 38) tw_5_105 rfl dX8_readsTwo_38 ?_
    refine r_imul (pc := 41) dX8_readsTwo_41 ?_
    refine r_iload_n (pc := 42) (j := 1) dX8_readsTwo_42 rfl rfl ?_
    refine r_iadd (pc := 43) dX8_readsTwo_43 ?_
    refine r_iload (pc := 44) (j := 4) dX8_readsTwo_44 rfl ?_
    refine r_iadd (pc := 46) dX8_readsTwo_46 ?_
    refine r_aload_n (pc := 47) (j := 0) dX8_readsTwo_47 rfl rfl ?_
    refine gf8_7 (pc := 48) tw_5_101 rfl dX8_readsTwo_48 ?_
    obtain ⟨h13, hr⟩ := grd_inv hr
    refine x_iast (pc := 51) (j := (Int32.toNatClampNeg ((((5 : Int32) * (gI σ12 73 11)) + u1_) + v6_))) rfl h13 rfl dX8_readsTwo_51 fun σ14 eσ14 => ?_
    replace hr := vthen_inv hr σ14 eσ14
    have hσ14 := wtI eσ14 hσ12
    refine r_aload_n (pc := 52) (j := 0) dX8_readsTwo_52 rfl rfl ?_
    obtain ⟨σ15, eσ15, hr⟩ := bnd1_inv hr
    refine kX8_next (pc := 53) eσ15 tw_6_68 ⟨nle rfl, nle rfl⟩ (nle rfl) dX8_readsTwo_53 fun hσ15 => ?_
    refine r_iinc (pc := 56) (j := 4) (v := (v6_ + (1 : Int32))) (ls1 := [(6, .int (v6_ + (1 : Int32))), (0, .ref (ad g 73)), (1, .int u1_), (4, .int u4_), (5, .int u5_)]) dX8_readsTwo_56 rfl rfl (nle rfl) rfl ?_
    refine r_goto (pc := 59) (tgt := 13) dX8_readsTwo_59 rfl ?_
    exact r_pick (ls1 := [(0, .ref (ad g 73)), (1, .int u1_), (4, .int u4_), (5, .int u5_), (6, .int (v6_ + (1 : Int32)))]) [1, 2, 3, 4, 0] rfl (ih (v6_ + (1 : Int32)) σ15 hr hσ15)
  replace hr := ite_f hc hr
  refine r_iconst (pc := 30) (v := (0 : Int32)) dX8_readsTwo_30 rfl ?_
  exact l_osz hr (r_zret (pc := 31) (v := b2i false) (ty := .boolean) rfl (b2i_nar _) rfl ⟨Nat.le_refl _, Nat.le_refl _⟩ dX8_readsTwo_31)

set_option maxRecDepth 20000 in
theorem sX8_readsTwo {g : GG} {σ : SS} {a1 : Int32} {a2 : Int64} {a4 : Int32} {a5 : Int32} {r : Bool × SS} (hr : fX8_readsTwo σ a1 a2 a4 a5 = some r)  : Ct g mX8_readsTwo [.ref (ad g 73), .int a1, .long a2, .int a4, .int a5] NF σ (some (.int (b2i r.1))) NF r.2 := by
  refine Ct.of (by decide +kernel) (nle rfl) fun hw0 => ?_
  have hw := hw0 rfl
  unfold fX8_readsTwo at hr
  change RR g mX8_readsTwo (FinR g mX8_readsTwo (some (.int (b2i r.1))) NF r.2) zF 0 [(0, .ref (ad g 73)), (1, .int a1), (2, .long a2), (4, .int a4), (5, .int a5)] [] σ
  refine r_aload_n (pc := 0) (j := 0) dX8_readsTwo_0 rfl rfl ?_
  refine r_lload_n (pc := 1) (j := 2) dX8_readsTwo_1 rfl rfl ?_
  obtain ⟨b2, σ4, eσ4, hr⟩ := bnd_inv hr
  refine kX8_takesWord (pc := 2) eσ4 tw_6_88 ⟨nle rfl, nle rfl⟩ (nle rfl) dX8_readsTwo_2 fun hσ4 => ?_
  refine r_ifB_ne (pc := 5) (tgt := 10) dX8_readsTwo_5 rfl (fun hc => ?_) (fun hc => ?_)
  · replace hr := ite_t hc hr
    refine r_iconst (pc := 10) (v := (0 : Int32)) dX8_readsTwo_10 rfl ?_
    refine r_istore (pc := 11) (ls1 := [(6, .int (0 : Int32)), (0, .ref (ad g 73)), (1, .int a1), (2, .long a2), (4, .int a4), (5, .int a5)]) dX8_readsTwo_11 (nle rfl) rfl ?_
    refine r_pick (ls1 := [(0, .ref (ad g 73)), (1, .int a1), (4, .int a4), (5, .int a5), (6, .int (0 : Int32))]) [1, 2, 4, 5, 0] rfl ?_
    refine sX8_readsTwo_L13     fuel (0 : Int32) σ4 hr hσ4
  replace hr := ite_f hc hr
  refine r_iconst (pc := 8) (v := (0 : Int32)) dX8_readsTwo_8 rfl ?_
  exact l_osz hr (r_zret (pc := 9) (v := b2i false) (ty := .boolean) rfl (b2i_nar _) rfl ⟨Nat.le_refl _, Nat.le_refl _⟩ dX8_readsTwo_9)

theorem kX8_readsTwo {g : GG} {σ : SS} {a1 : Int32} {a2 : Int64} {a4 : Int32} {a5 : Int32} {v : Bool} {σ2 : SS} {M : MM} {F : State → Array Value → List Frame → State → Prop} {pc index : Nat} {ls : List (Nat × Value)} {rest : List Value} (hf : fX8_readsTwo σ a1 a2 a4 a5 = some (v, σ2))  (hl : Cond.methodLink M.1.cls index yX8_readsTwo ∈ lw_gt) (hR : mX8_readsTwo.2.2.2.2.frames + 1 ≤ M.2.2.2.2.frames ∧ 8 + (mX8_readsTwo.2.2.1 + 11) + mX8_readsTwo.2.2.2.2.locals ≤ M.2.2.2.2.locals) (hrest : (rest.map fun v => v.category).sum ≤ 8) (hd : decode M.2.1 pc = .ok (.invokevirtual index, 3)) (k : WT σ2 → RR g M F zF (pc + 3) ls (.int (b2i v) :: rest) σ2) : RR g M F zF pc ls (.int a5 :: .int a4 :: .long a2 :: .int a1 :: .ref (ad g 73) :: rest) σ :=
  r_callV (z := zF) (N := mX8_readsTwo) (nn := 4) (o1 := some (.int (b2i v))) (sX8_readsTwo hf ) (rfl : shp 73 = (8, 0)) (by decide) (shp_le (rfl : shp 73 = (8, 0)) (nle rfl)) (ci := 8) rfl rfl tw_6_87 tw_1_10 hl tw_6_86 tp_37 ⟨by decide, by decide, rfl⟩ hR rfl hrest hd ⟨Nat.zero_le _, Nat.zero_le _⟩ rfl (fun h => k (h rfl))

theorem dX8_isOver_0 : decode cX8_isOver 0 = .ok (.aload_n 0, 1) := by decide +kernel
theorem dX8_isOver_1 : decode cX8_isOver 1 = .ok (.getfield 13, 3) := by decide +kernel
theorem dX8_isOver_4 : decode cX8_isOver 4 = .ok (.iconst 5, 1) := by decide +kernel
theorem dX8_isOver_5 : decode cX8_isOver 5 = .ok (.aload_n 0, 1) := by decide +kernel
theorem dX8_isOver_6 : decode cX8_isOver 6 = .ok (.getfield 206, 3) := by decide +kernel
theorem dX8_isOver_9 : decode cX8_isOver 9 = .ok (.imul, 1) := by decide +kernel
theorem dX8_isOver_10 : decode cX8_isOver 10 = .ok (.iconst 2, 1) := by decide +kernel
theorem dX8_isOver_11 : decode cX8_isOver 11 = .ok (.iadd, 1) := by decide +kernel
theorem dX8_isOver_12 : decode cX8_isOver 12 = .ok (.iaload, 1) := by decide +kernel
theorem dX8_isOver_13 : decode cX8_isOver 13 = .ok (.istore 4, 2) := by decide +kernel
theorem dX8_isOver_15 : decode cX8_isOver 15 = .ok (.aload_n 0, 1) := by decide +kernel
theorem dX8_isOver_16 : decode cX8_isOver 16 = .ok (.getfield 13, 3) := by decide +kernel
theorem dX8_isOver_19 : decode cX8_isOver 19 = .ok (.iconst 5, 1) := by decide +kernel
theorem dX8_isOver_20 : decode cX8_isOver 20 = .ok (.aload_n 0, 1) := by decide +kernel
theorem dX8_isOver_21 : decode cX8_isOver 21 = .ok (.getfield 206, 3) := by decide +kernel
theorem dX8_isOver_24 : decode cX8_isOver 24 = .ok (.imul, 1) := by decide +kernel
theorem dX8_isOver_25 : decode cX8_isOver 25 = .ok (.iconst 3, 1) := by decide +kernel
theorem dX8_isOver_26 : decode cX8_isOver 26 = .ok (.iadd, 1) := by decide +kernel
theorem dX8_isOver_27 : decode cX8_isOver 27 = .ok (.iaload, 1) := by decide +kernel
theorem dX8_isOver_28 : decode cX8_isOver 28 = .ok (.istore 5, 2) := by decide +kernel
theorem dX8_isOver_30 : decode cX8_isOver 30 = .ok (.iconst 0, 1) := by decide +kernel
theorem dX8_isOver_31 : decode cX8_isOver 31 = .ok (.istore 6, 2) := by decide +kernel
theorem dX8_isOver_33 : decode cX8_isOver 33 = .ok (.iload 6, 2) := by decide +kernel
theorem dX8_isOver_35 : decode cX8_isOver 35 = .ok (.iload_n 1, 1) := by decide +kernel
theorem dX8_isOver_36 : decode cX8_isOver 36 = .ok (.if_icmp .gt 114, 3) := by decide +kernel
theorem dX8_isOver_39 : decode cX8_isOver 39 = .ok (.iconst 0, 1) := by decide +kernel
theorem dX8_isOver_40 : decode cX8_isOver 40 = .ok (.istore 7, 2) := by decide +kernel
theorem dX8_isOver_42 : decode cX8_isOver 42 = .ok (.iload 7, 2) := by decide +kernel
theorem dX8_isOver_44 : decode cX8_isOver 44 = .ok (.aload_n 0, 1) := by decide +kernel
theorem dX8_isOver_45 : decode cX8_isOver 45 = .ok (.getfield 20, 3) := by decide +kernel
theorem dX8_isOver_48 : decode cX8_isOver 48 = .ok (.bipush 12, 2) := by decide +kernel
theorem dX8_isOver_50 : decode cX8_isOver 50 = .ok (.aload_n 0, 1) := by decide +kernel
theorem dX8_isOver_51 : decode cX8_isOver 51 = .ok (.getfield 206, 3) := by decide +kernel
theorem dX8_isOver_54 : decode cX8_isOver 54 = .ok (.imul, 1) := by decide +kernel
theorem dX8_isOver_55 : decode cX8_isOver 55 = .ok (.iload 6, 2) := by decide +kernel
theorem dX8_isOver_57 : decode cX8_isOver 57 = .ok (.iadd, 1) := by decide +kernel
theorem dX8_isOver_58 : decode cX8_isOver 58 = .ok (.iaload, 1) := by decide +kernel
theorem dX8_isOver_59 : decode cX8_isOver 59 = .ok (.if_icmp .ge 85, 3) := by decide +kernel
theorem dX8_isOver_62 : decode cX8_isOver 62 = .ok (.bipush 6, 2) := by decide +kernel
theorem dX8_isOver_64 : decode cX8_isOver 64 = .ok (.bipush 12, 2) := by decide +kernel
theorem dX8_isOver_66 : decode cX8_isOver 66 = .ok (.aload_n 0, 1) := by decide +kernel
theorem dX8_isOver_67 : decode cX8_isOver 67 = .ok (.getfield 206, 3) := by decide +kernel
theorem dX8_isOver_70 : decode cX8_isOver 70 = .ok (.imul, 1) := by decide +kernel
theorem dX8_isOver_71 : decode cX8_isOver 71 = .ok (.iload 6, 2) := by decide +kernel
theorem dX8_isOver_73 : decode cX8_isOver 73 = .ok (.iadd, 1) := by decide +kernel
theorem dX8_isOver_74 : decode cX8_isOver 74 = .ok (.imul, 1) := by decide +kernel
theorem dX8_isOver_75 : decode cX8_isOver 75 = .ok (.iload 7, 2) := by decide +kernel
theorem dX8_isOver_77 : decode cX8_isOver 77 = .ok (.iadd, 1) := by decide +kernel
theorem dX8_isOver_78 : decode cX8_isOver 78 = .ok (.istore 8, 2) := by decide +kernel
theorem dX8_isOver_80 : decode cX8_isOver 80 = .ok (.iload_n 2, 1) := by decide +kernel
theorem dX8_isOver_81 : decode cX8_isOver 81 = .ok (.aload_n 0, 1) := by decide +kernel
theorem dX8_isOver_82 : decode cX8_isOver 82 = .ok (.getfield 29, 3) := by decide +kernel
theorem dX8_isOver_85 : decode cX8_isOver 85 = .ok (.iload 8, 2) := by decide +kernel
theorem dX8_isOver_87 : decode cX8_isOver 87 = .ok (.iaload, 1) := by decide +kernel
theorem dX8_isOver_88 : decode cX8_isOver 88 = .ok (.iload 4, 2) := by decide +kernel
theorem dX8_isOver_90 : decode cX8_isOver 90 = .ok (.iadd, 1) := by decide +kernel
theorem dX8_isOver_91 : decode cX8_isOver 91 = .ok (.if_icmp .ge 47, 3) := by decide +kernel
theorem dX8_isOver_94 : decode cX8_isOver 94 = .ok (.aload_n 0, 1) := by decide +kernel
theorem dX8_isOver_95 : decode cX8_isOver 95 = .ok (.getfield 29, 3) := by decide +kernel
theorem dX8_isOver_98 : decode cX8_isOver 98 = .ok (.iload 8, 2) := by decide +kernel
theorem dX8_isOver_100 : decode cX8_isOver 100 = .ok (.iaload, 1) := by decide +kernel
theorem dX8_isOver_101 : decode cX8_isOver 101 = .ok (.iload_n 2, 1) := by decide +kernel
theorem dX8_isOver_102 : decode cX8_isOver 102 = .ok (.iload 4, 2) := by decide +kernel
theorem dX8_isOver_104 : decode cX8_isOver 104 = .ok (.iadd, 1) := by decide +kernel
theorem dX8_isOver_105 : decode cX8_isOver 105 = .ok (.if_icmp .ge 33, 3) := by decide +kernel
theorem dX8_isOver_108 : decode cX8_isOver 108 = .ok (.iload_n 3, 1) := by decide +kernel
theorem dX8_isOver_109 : decode cX8_isOver 109 = .ok (.aload_n 0, 1) := by decide +kernel
theorem dX8_isOver_110 : decode cX8_isOver 110 = .ok (.getfield 32, 3) := by decide +kernel
theorem dX8_isOver_113 : decode cX8_isOver 113 = .ok (.iload 8, 2) := by decide +kernel
theorem dX8_isOver_115 : decode cX8_isOver 115 = .ok (.iaload, 1) := by decide +kernel
theorem dX8_isOver_116 : decode cX8_isOver 116 = .ok (.iload 5, 2) := by decide +kernel
theorem dX8_isOver_118 : decode cX8_isOver 118 = .ok (.iadd, 1) := by decide +kernel
theorem dX8_isOver_119 : decode cX8_isOver 119 = .ok (.if_icmp .ge 19, 3) := by decide +kernel
theorem dX8_isOver_122 : decode cX8_isOver 122 = .ok (.aload_n 0, 1) := by decide +kernel
theorem dX8_isOver_123 : decode cX8_isOver 123 = .ok (.getfield 32, 3) := by decide +kernel
theorem dX8_isOver_126 : decode cX8_isOver 126 = .ok (.iload 8, 2) := by decide +kernel
theorem dX8_isOver_128 : decode cX8_isOver 128 = .ok (.iaload, 1) := by decide +kernel
theorem dX8_isOver_129 : decode cX8_isOver 129 = .ok (.iload_n 3, 1) := by decide +kernel
theorem dX8_isOver_130 : decode cX8_isOver 130 = .ok (.iload 5, 2) := by decide +kernel
theorem dX8_isOver_132 : decode cX8_isOver 132 = .ok (.iadd, 1) := by decide +kernel
theorem dX8_isOver_133 : decode cX8_isOver 133 = .ok (.if_icmp .ge 5, 3) := by decide +kernel
theorem dX8_isOver_136 : decode cX8_isOver 136 = .ok (.iconst 1, 1) := by decide +kernel
theorem dX8_isOver_137 : decode cX8_isOver 137 = .ok (.ireturn, 1) := by decide +kernel
theorem dX8_isOver_138 : decode cX8_isOver 138 = .ok (.iinc 7 1, 3) := by decide +kernel
theorem dX8_isOver_141 : decode cX8_isOver 141 = .ok (.goto (-99), 3) := by decide +kernel
theorem dX8_isOver_144 : decode cX8_isOver 144 = .ok (.iinc 6 1, 3) := by decide +kernel
theorem dX8_isOver_147 : decode cX8_isOver 147 = .ok (.goto (-114), 3) := by decide +kernel
theorem dX8_isOver_150 : decode cX8_isOver 150 = .ok (.iconst 0, 1) := by decide +kernel
theorem dX8_isOver_151 : decode cX8_isOver 151 = .ok (.ireturn, 1) := by decide +kernel
def mX8_isOver : MM := (yX8_isOver, cX8_isOver, 9, Option.some Jvm.ClassFile.FieldType.boolean, { frames := 0, cells := 0, slots := 0, locals := 0 })
def X8_isOver_L42 (σ_ : SS) (u2_ : Int32) (u3_ : Int32) (u4_ : Int32) (u5_ : Int32) (u6_ : Int32) (k144 : Unit → Option Bool) : Nat → Int32 → Option Bool :=
  lp (fun _ => none) fun rec v7_ =>
    grd (inb (((12 : Int32) * (gI σ_ 73 11)) + u6_) 24) <|
    if (gI σ_ 77 (Int32.toNatClampNeg (((12 : Int32) * (gI σ_ 73 11)) + u6_))) ≤ v7_ then (
      k144 ()
      ) else (
      vthen (((6 : Int32) * (((12 : Int32) * (gI σ_ 73 11)) + u6_)) + v7_) fun v6 =>
      grd (inb v6 144) <|
      if ((gI σ_ 80 (Int32.toNatClampNeg v6)) + u4_) ≤ u2_ then (
        rec (v7_ + (1 : Int32))
        ) else (
        if (u2_ + u4_) ≤ (gI σ_ 80 (Int32.toNatClampNeg v6)) then (
          rec (v7_ + (1 : Int32))
          ) else (
          if ((gI σ_ 81 (Int32.toNatClampNeg v6)) + u5_) ≤ u3_ then (
            rec (v7_ + (1 : Int32))
            ) else (
            if (u3_ + u5_) ≤ (gI σ_ 81 (Int32.toNatClampNeg v6)) then (
              rec (v7_ + (1 : Int32))
              ) else (
              some true
              )
            )
          )
        )
      )

def X8_isOver_L33 (σ_ : SS) (u1_ : Int32) (u2_ : Int32) (u3_ : Int32) (u4_ : Int32) (u5_ : Int32)  : Nat → Int32 → Option Bool :=
  lp (fun _ => none) fun rec v6_ =>
    if u1_ < v6_ then (
      some false
      ) else (
      X8_isOver_L42 σ_ u2_ u3_ u4_ u5_ v6_
      (fun _ =>
        rec (v6_ + (1 : Int32))
        )
      fuel (0 : Int32)
      )

def fX8_isOver (σ0 : SS) (a1 : Int32) (a2 : Int32) (a3 : Int32) : Option Bool :=
  grd (inb (((5 : Int32) * (gI σ0 73 11)) + (2 : Int32)) 10) <|
  vthen (gI σ0 75 (Int32.toNatClampNeg (((5 : Int32) * (gI σ0 73 11)) + (2 : Int32)))) fun v2 =>
  grd (inb (((5 : Int32) * (gI σ0 73 11)) + (3 : Int32)) 10) <|
  vthen (gI σ0 75 (Int32.toNatClampNeg (((5 : Int32) * (gI σ0 73 11)) + (3 : Int32)))) fun v4 =>
  X8_isOver_L33 σ0 a1 a2 a3 v2 v4
  fuel (0 : Int32)

set_option maxRecDepth 20000 in
theorem sX8_isOver_L42 {g : GG} {r : Bool} {σ_ : SS} {σ0 : SS} {x1_ : Int32} {u2_ : Int32} {u3_ : Int32} {u4_ : Int32} {u5_ : Int32} {u6_ : Int32} {k144 : Unit → Option Bool} 
    (hw_ : WT σ_)
    (h0_ : σ_ = σ0)
    (hk144 : k144 () = some r → RR g mX8_isOver (FinR g mX8_isOver (some (.int (b2i r))) NF σ0) zF 144 [(0, .ref (ad g 73)), (1, .int x1_), (2, .int u2_), (3, .int u3_), (4, .int u4_), (5, .int u5_), (6, .int u6_)] [] σ_)
    (n : Nat) : ∀ (v7_ : Int32), X8_isOver_L42 σ_ u2_ u3_ u4_ u5_ u6_ k144 n v7_ = some r → RR g mX8_isOver (FinR g mX8_isOver (some (.int (b2i r))) NF σ0) zF 42 [(0, .ref (ad g 73)), (1, .int x1_), (2, .int u2_), (3, .int u3_), (4, .int u4_), (5, .int u5_), (6, .int u6_), (7, .int v7_)] [] σ_ := by
  unfold X8_isOver_L42
  refine lp_ind (P := fun (rec : Int32 → Option Bool) => ∀ (v7_ : Int32), rec v7_ = some r → RR g mX8_isOver (FinR g mX8_isOver (some (.int (b2i r))) NF σ0) zF 42 [(0, .ref (ad g 73)), (1, .int x1_), (2, .int u2_), (3, .int u3_), (4, .int u4_), (5, .int u5_), (6, .int u6_), (7, .int v7_)] [] σ_) ?_ ?_ n
  · intro v7_ hr; cases hr
  intro rec ih v7_ hr
  subst h0_
  refine r_iload (pc := 42) (j := 7) dX8_isOver_42 rfl ?_
  refine r_aload_n (pc := 44) (j := 0) dX8_isOver_44 rfl rfl ?_
  refine gf8_15 (pc := 45) tw_5_109 hw_ dX8_isOver_45 ?_
  refine r_bipush (pc := 48) (v := (12 : Int32)) dX8_isOver_48 rfl ?_
  refine r_aload_n (pc := 50) (j := 0) dX8_isOver_50 rfl rfl ?_
  refine gf8_11 (pc := 51) tw_5_105 rfl dX8_isOver_51 ?_
  refine r_imul (pc := 54) dX8_isOver_54 ?_
  refine r_iload (pc := 55) (j := 6) dX8_isOver_55 rfl ?_
  refine r_iadd (pc := 57) dX8_isOver_57 ?_
  obtain ⟨h5, hr⟩ := grd_inv hr
  refine x_iald (pc := 58) (k := (Int32.toNatClampNeg (((12 : Int32) * (gI σ_ 73 11)) + u6_))) rfl h5 rfl dX8_isOver_58 ?_
  refine r_icmp_ge (pc := 59) (tgt := 144) dX8_isOver_59 rfl (fun hc => ?_) (fun hc => ?_)
  · replace hr := ite_t hc hr
    exact r_pick (ls1 := [(0, .ref (ad g 73)), (1, .int x1_), (2, .int u2_), (3, .int u3_), (4, .int u4_), (5, .int u5_), (6, .int u6_)]) [0, 1, 2, 3, 4, 5, 6] rfl (hk144  hr)
  replace hr := ite_f hc hr
  refine r_bipush (pc := 62) (v := (6 : Int32)) dX8_isOver_62 rfl ?_
  refine r_bipush (pc := 64) (v := (12 : Int32)) dX8_isOver_64 rfl ?_
  refine r_aload_n (pc := 66) (j := 0) dX8_isOver_66 rfl rfl ?_
  refine gf8_11 (pc := 67) tw_5_105 rfl dX8_isOver_67 ?_
  refine r_imul (pc := 70) dX8_isOver_70 ?_
  refine r_iload (pc := 71) (j := 6) dX8_isOver_71 rfl ?_
  refine r_iadd (pc := 73) dX8_isOver_73 ?_
  refine r_imul (pc := 74) dX8_isOver_74 ?_
  refine r_iload (pc := 75) (j := 7) dX8_isOver_75 rfl ?_
  refine r_iadd (pc := 77) dX8_isOver_77 ?_
  refine r_topi fun v6 ev6 => ?_
  replace hr := vthen_inv hr v6 ev6
  refine r_istore (pc := 78) (ls1 := [(8, .int v6), (0, .ref (ad g 73)), (1, .int x1_), (2, .int u2_), (3, .int u3_), (4, .int u4_), (5, .int u5_), (6, .int u6_), (7, .int v7_)]) dX8_isOver_78 (nle rfl) rfl ?_
  refine r_iload_n (pc := 80) (j := 3) dX8_isOver_80 rfl rfl ?_
  refine r_aload_n (pc := 81) (j := 1) dX8_isOver_81 rfl rfl ?_
  refine gf8_18 (pc := 82) tw_5_112 hw_ dX8_isOver_82 ?_
  refine r_iload (pc := 85) (j := 0) dX8_isOver_85 rfl ?_
  obtain ⟨h7, hr⟩ := grd_inv hr
  refine x_iald (pc := 87) (k := (Int32.toNatClampNeg v6)) rfl h7 rfl dX8_isOver_87 ?_
  refine r_iload (pc := 88) (j := 5) dX8_isOver_88 rfl ?_
  refine r_iadd (pc := 90) dX8_isOver_90 ?_
  refine r_icmp_ge (pc := 91) (tgt := 138) dX8_isOver_91 rfl (fun hc => ?_) (fun hc => ?_)
  · replace hr := ite_t hc hr
    refine r_iinc (pc := 138) (j := 8) (v := (v7_ + (1 : Int32))) (ls1 := [(7, .int (v7_ + (1 : Int32))), (8, .int v6), (0, .ref (ad g 73)), (1, .int x1_), (2, .int u2_), (3, .int u3_), (4, .int u4_), (5, .int u5_), (6, .int u6_)]) dX8_isOver_138 rfl rfl (nle rfl) rfl ?_
    refine r_goto (pc := 141) (tgt := 42) dX8_isOver_141 rfl ?_
    exact r_pick (ls1 := [(0, .ref (ad g 73)), (1, .int x1_), (2, .int u2_), (3, .int u3_), (4, .int u4_), (5, .int u5_), (6, .int u6_), (7, .int (v7_ + (1 : Int32)))]) [2, 3, 4, 5, 6, 7, 8, 0] rfl (ih (v7_ + (1 : Int32)) hr)
  replace hr := ite_f hc hr
  refine r_aload_n (pc := 94) (j := 1) dX8_isOver_94 rfl rfl ?_
  refine gf8_18 (pc := 95) tw_5_112 hw_ dX8_isOver_95 ?_
  refine r_iload (pc := 98) (j := 0) dX8_isOver_98 rfl ?_
  refine x_iald (pc := 100) (k := (Int32.toNatClampNeg v6)) rfl h7 rfl dX8_isOver_100 ?_
  refine r_iload_n (pc := 101) (j := 3) dX8_isOver_101 rfl rfl ?_
  refine r_iload (pc := 102) (j := 5) dX8_isOver_102 rfl ?_
  refine r_iadd (pc := 104) dX8_isOver_104 ?_
  refine r_icmp_ge (pc := 105) (tgt := 138) dX8_isOver_105 rfl (fun hc => ?_) (fun hc => ?_)
  · replace hr := ite_t hc hr
    refine r_iinc (pc := 138) (j := 8) (v := (v7_ + (1 : Int32))) (ls1 := [(7, .int (v7_ + (1 : Int32))), (8, .int v6), (0, .ref (ad g 73)), (1, .int x1_), (2, .int u2_), (3, .int u3_), (4, .int u4_), (5, .int u5_), (6, .int u6_)]) dX8_isOver_138 rfl rfl (nle rfl) rfl ?_
    refine r_goto (pc := 141) (tgt := 42) dX8_isOver_141 rfl ?_
    exact r_pick (ls1 := [(0, .ref (ad g 73)), (1, .int x1_), (2, .int u2_), (3, .int u3_), (4, .int u4_), (5, .int u5_), (6, .int u6_), (7, .int (v7_ + (1 : Int32)))]) [2, 3, 4, 5, 6, 7, 8, 0] rfl (ih (v7_ + (1 : Int32)) hr)
  replace hr := ite_f hc hr
  refine r_iload_n (pc := 108) (j := 4) dX8_isOver_108 rfl rfl ?_
  refine r_aload_n (pc := 109) (j := 1) dX8_isOver_109 rfl rfl ?_
  refine gf8_19 (pc := 110) tw_5_113 hw_ dX8_isOver_110 ?_
  refine r_iload (pc := 113) (j := 0) dX8_isOver_113 rfl ?_
  refine x_iald (pc := 115) (k := (Int32.toNatClampNeg v6)) rfl h7 rfl dX8_isOver_115 ?_
  refine r_iload (pc := 116) (j := 6) dX8_isOver_116 rfl ?_
  refine r_iadd (pc := 118) dX8_isOver_118 ?_
  refine r_icmp_ge (pc := 119) (tgt := 138) dX8_isOver_119 rfl (fun hc => ?_) (fun hc => ?_)
  · replace hr := ite_t hc hr
    refine r_iinc (pc := 138) (j := 8) (v := (v7_ + (1 : Int32))) (ls1 := [(7, .int (v7_ + (1 : Int32))), (8, .int v6), (0, .ref (ad g 73)), (1, .int x1_), (2, .int u2_), (3, .int u3_), (4, .int u4_), (5, .int u5_), (6, .int u6_)]) dX8_isOver_138 rfl rfl (nle rfl) rfl ?_
    refine r_goto (pc := 141) (tgt := 42) dX8_isOver_141 rfl ?_
    exact r_pick (ls1 := [(0, .ref (ad g 73)), (1, .int x1_), (2, .int u2_), (3, .int u3_), (4, .int u4_), (5, .int u5_), (6, .int u6_), (7, .int (v7_ + (1 : Int32)))]) [2, 3, 4, 5, 6, 7, 8, 0] rfl (ih (v7_ + (1 : Int32)) hr)
  replace hr := ite_f hc hr
  refine r_aload_n (pc := 122) (j := 1) dX8_isOver_122 rfl rfl ?_
  refine gf8_19 (pc := 123) tw_5_113 hw_ dX8_isOver_123 ?_
  refine r_iload (pc := 126) (j := 0) dX8_isOver_126 rfl ?_
  refine x_iald (pc := 128) (k := (Int32.toNatClampNeg v6)) rfl h7 rfl dX8_isOver_128 ?_
  refine r_iload_n (pc := 129) (j := 4) dX8_isOver_129 rfl rfl ?_
  refine r_iload (pc := 130) (j := 6) dX8_isOver_130 rfl ?_
  refine r_iadd (pc := 132) dX8_isOver_132 ?_
  refine r_icmp_ge (pc := 133) (tgt := 138) dX8_isOver_133 rfl (fun hc => ?_) (fun hc => ?_)
  · replace hr := ite_t hc hr
    refine r_iinc (pc := 138) (j := 8) (v := (v7_ + (1 : Int32))) (ls1 := [(7, .int (v7_ + (1 : Int32))), (8, .int v6), (0, .ref (ad g 73)), (1, .int x1_), (2, .int u2_), (3, .int u3_), (4, .int u4_), (5, .int u5_), (6, .int u6_)]) dX8_isOver_138 rfl rfl (nle rfl) rfl ?_
    refine r_goto (pc := 141) (tgt := 42) dX8_isOver_141 rfl ?_
    exact r_pick (ls1 := [(0, .ref (ad g 73)), (1, .int x1_), (2, .int u2_), (3, .int u3_), (4, .int u4_), (5, .int u5_), (6, .int u6_), (7, .int (v7_ + (1 : Int32)))]) [2, 3, 4, 5, 6, 7, 8, 0] rfl (ih (v7_ + (1 : Int32)) hr)
  replace hr := ite_f hc hr
  refine r_iconst (pc := 136) (v := (1 : Int32)) dX8_isOver_136 rfl ?_
  exact l_opz hr (r_zret (pc := 137) (v := b2i true) (ty := .boolean) rfl (b2i_nar _) rfl ⟨Nat.le_refl _, Nat.le_refl _⟩ dX8_isOver_137)

set_option maxRecDepth 20000 in
theorem sX8_isOver_L33 {g : GG} {r : Bool} {σ_ : SS} {σ0 : SS} {u1_ : Int32} {u2_ : Int32} {u3_ : Int32} {u4_ : Int32} {u5_ : Int32}  
    (hw_ : WT σ_)
    (h0_ : σ_ = σ0)
    (n : Nat) : ∀ (v6_ : Int32), X8_isOver_L33 σ_ u1_ u2_ u3_ u4_ u5_ n v6_ = some r → RR g mX8_isOver (FinR g mX8_isOver (some (.int (b2i r))) NF σ0) zF 33 [(0, .ref (ad g 73)), (1, .int u1_), (2, .int u2_), (3, .int u3_), (4, .int u4_), (5, .int u5_), (6, .int v6_)] [] σ_ := by
  unfold X8_isOver_L33
  refine lp_ind (P := fun (rec : Int32 → Option Bool) => ∀ (v6_ : Int32), rec v6_ = some r → RR g mX8_isOver (FinR g mX8_isOver (some (.int (b2i r))) NF σ0) zF 33 [(0, .ref (ad g 73)), (1, .int u1_), (2, .int u2_), (3, .int u3_), (4, .int u4_), (5, .int u5_), (6, .int v6_)] [] σ_) ?_ ?_ n
  · intro v6_ hr; cases hr
  intro rec ih v6_ hr
  subst h0_
  refine r_iload (pc := 33) (j := 6) dX8_isOver_33 rfl ?_
  refine r_iload_n (pc := 35) (j := 1) dX8_isOver_35 rfl rfl ?_
  refine r_icmp_gt (pc := 36) (tgt := 150) dX8_isOver_36 rfl (fun hc => ?_) (fun hc => ?_)
  · replace hr := ite_t hc hr
    refine r_iconst (pc := 150) (v := (0 : Int32)) dX8_isOver_150 rfl ?_
    exact l_opz hr (r_zret (pc := 151) (v := b2i false) (ty := .boolean) rfl (b2i_nar _) rfl ⟨Nat.le_refl _, Nat.le_refl _⟩ dX8_isOver_151)
  replace hr := ite_f hc hr
  refine r_iconst (pc := 39) (v := (0 : Int32)) dX8_isOver_39 rfl ?_
  refine r_istore (pc := 40) (ls1 := [(7, .int (0 : Int32)), (0, .ref (ad g 73)), (1, .int u1_), (2, .int u2_), (3, .int u3_), (4, .int u4_), (5, .int u5_), (6, .int v6_)]) dX8_isOver_40 (nle rfl) rfl ?_
  refine r_pick (ls1 := [(0, .ref (ad g 73)), (1, .int u1_), (2, .int u2_), (3, .int u3_), (4, .int u4_), (5, .int u5_), (6, .int v6_), (7, .int (0 : Int32))]) [1, 2, 3, 4, 5, 6, 7, 0] rfl ?_
  refine sX8_isOver_L42  hw_ rfl (fun hr => ?_) fuel (0 : Int32) hr
  refine r_iinc (pc := 144) (j := 6) (v := (v6_ + (1 : Int32))) (ls1 := [(6, .int (v6_ + (1 : Int32))), (0, .ref (ad g 73)), (1, .int u1_), (2, .int u2_), (3, .int u3_), (4, .int u4_), (5, .int u5_)]) dX8_isOver_144 rfl rfl (nle rfl) rfl ?_
  refine r_goto (pc := 147) (tgt := 33) dX8_isOver_147 rfl ?_
  exact r_pick (ls1 := [(0, .ref (ad g 73)), (1, .int u1_), (2, .int u2_), (3, .int u3_), (4, .int u4_), (5, .int u5_), (6, .int (v6_ + (1 : Int32)))]) [1, 2, 3, 4, 5, 6, 0] rfl (ih (v6_ + (1 : Int32)) hr)

set_option maxRecDepth 20000 in
theorem sX8_isOver {g : GG} {σ0 : SS} {a1 : Int32} {a2 : Int32} {a3 : Int32} {r : Bool} (hr : fX8_isOver σ0 a1 a2 a3 = some r)  : Ct g mX8_isOver [.ref (ad g 73), .int a1, .int a2, .int a3] NF σ0 (some (.int (b2i r))) NF σ0 := by
  refine Ct.of (by decide +kernel) (nle rfl) fun hw0 => ?_
  have hw := hw0 rfl
  unfold fX8_isOver at hr
  change RR g mX8_isOver (FinR g mX8_isOver (some (.int (b2i r))) NF σ0) zF 0 [(0, .ref (ad g 73)), (1, .int a1), (2, .int a2), (3, .int a3)] [] σ0
  refine r_aload_n (pc := 0) (j := 0) dX8_isOver_0 rfl rfl ?_
  refine gf8_13 (pc := 1) tw_5_107 hw dX8_isOver_1 ?_
  refine r_iconst (pc := 4) (v := (5 : Int32)) dX8_isOver_4 rfl ?_
  refine r_aload_n (pc := 5) (j := 0) dX8_isOver_5 rfl rfl ?_
  refine gf8_11 (pc := 6) tw_5_105 rfl dX8_isOver_6 ?_
  refine r_imul (pc := 9) dX8_isOver_9 ?_
  refine r_iconst (pc := 10) (v := (2 : Int32)) dX8_isOver_10 rfl ?_
  refine r_iadd (pc := 11) dX8_isOver_11 ?_
  obtain ⟨h1, hr⟩ := grd_inv hr
  refine x_iald (pc := 12) (k := (Int32.toNatClampNeg (((5 : Int32) * (gI σ0 73 11)) + (2 : Int32)))) rfl h1 rfl dX8_isOver_12 ?_
  refine r_topi fun v2 ev2 => ?_
  replace hr := vthen_inv hr v2 ev2
  refine r_istore (pc := 13) (ls1 := [(4, .int v2), (0, .ref (ad g 73)), (1, .int a1), (2, .int a2), (3, .int a3)]) dX8_isOver_13 (nle rfl) rfl ?_
  refine r_aload_n (pc := 15) (j := 1) dX8_isOver_15 rfl rfl ?_
  refine gf8_13 (pc := 16) tw_5_107 hw dX8_isOver_16 ?_
  refine r_iconst (pc := 19) (v := (5 : Int32)) dX8_isOver_19 rfl ?_
  refine r_aload_n (pc := 20) (j := 1) dX8_isOver_20 rfl rfl ?_
  refine gf8_11 (pc := 21) tw_5_105 rfl dX8_isOver_21 ?_
  refine r_imul (pc := 24) dX8_isOver_24 ?_
  refine r_iconst (pc := 25) (v := (3 : Int32)) dX8_isOver_25 rfl ?_
  refine r_iadd (pc := 26) dX8_isOver_26 ?_
  obtain ⟨h3, hr⟩ := grd_inv hr
  refine x_iald (pc := 27) (k := (Int32.toNatClampNeg (((5 : Int32) * (gI σ0 73 11)) + (3 : Int32)))) rfl h3 rfl dX8_isOver_27 ?_
  refine r_topi fun v4 ev4 => ?_
  replace hr := vthen_inv hr v4 ev4
  refine r_istore (pc := 28) (ls1 := [(5, .int v4), (4, .int v2), (0, .ref (ad g 73)), (1, .int a1), (2, .int a2), (3, .int a3)]) dX8_isOver_28 (nle rfl) rfl ?_
  refine r_iconst (pc := 30) (v := (0 : Int32)) dX8_isOver_30 rfl ?_
  refine r_istore (pc := 31) (ls1 := [(6, .int (0 : Int32)), (5, .int v4), (4, .int v2), (0, .ref (ad g 73)), (1, .int a1), (2, .int a2), (3, .int a3)]) dX8_isOver_31 (nle rfl) rfl ?_
  refine r_pick (ls1 := [(0, .ref (ad g 73)), (1, .int a1), (2, .int a2), (3, .int a3), (4, .int v2), (5, .int v4), (6, .int (0 : Int32))]) [3, 4, 5, 6, 2, 1, 0] rfl ?_
  refine sX8_isOver_L33  hw rfl  fuel (0 : Int32) hr

theorem kX8_isOver {g : GG} {σ0 : SS} {a1 : Int32} {a2 : Int32} {a3 : Int32} {v : Bool} {M : MM} {F : State → Array Value → List Frame → State → Prop} {pc index : Nat} {ls : List (Nat × Value)} {rest : List Value} (hf : fX8_isOver σ0 a1 a2 a3 = some v)  (hl : Cond.methodLink M.1.cls index yX8_isOver ∈ lw_gt) (hR : mX8_isOver.2.2.2.2.frames + 1 ≤ M.2.2.2.2.frames ∧ 8 + (mX8_isOver.2.2.1 + 11) + mX8_isOver.2.2.2.2.locals ≤ M.2.2.2.2.locals) (hrest : (rest.map fun v => v.category).sum ≤ 8) (hd : decode M.2.1 pc = .ok (.invokevirtual index, 3)) (k : RR g M F zF (pc + 3) ls (.int (b2i v) :: rest) σ0) : RR g M F zF pc ls (.int a3 :: .int a2 :: .int a1 :: .ref (ad g 73) :: rest) σ0 :=
  r_callV (z := zF) (N := mX8_isOver) (nn := 3) (o1 := some (.int (b2i v))) (sX8_isOver hf ) (rfl : shp 73 = (8, 0)) (by decide) (shp_le (rfl : shp 73 = (8, 0)) (nle rfl)) (ci := 8) rfl rfl tw_6_122 tw_1_10 hl tw_6_121 tp_45 ⟨by decide, by decide, rfl⟩ hR rfl hrest hd ⟨Nat.zero_le _, Nat.zero_le _⟩ rfl (fun h => k)

