/-! Walks written by a program out of the bytecode: each method as a function over the store, and its contract. -/
theorem dX4_remove_0 : decode cX4_remove 0 = .ok (.iload_n 1, 1) := by decide +kernel
theorem dX4_remove_1 : decode cX4_remove 1 = .ok (.istore_n 2, 1) := by decide +kernel
theorem dX4_remove_2 : decode cX4_remove 2 = .ok (.iload_n 2, 1) := by decide +kernel
theorem dX4_remove_3 : decode cX4_remove 3 = .ok (.iconst 1, 1) := by decide +kernel
theorem dX4_remove_4 : decode cX4_remove 4 = .ok (.iadd, 1) := by decide +kernel
theorem dX4_remove_5 : decode cX4_remove 5 = .ok (.aload_n 0, 1) := by decide +kernel
theorem dX4_remove_6 : decode cX4_remove 6 = .ok (.getfield 27, 3) := by decide +kernel
theorem dX4_remove_9 : decode cX4_remove 9 = .ok (.if_icmp .ge 89, 3) := by decide +kernel
theorem dX4_remove_12 : decode cX4_remove 12 = .ok (.aload_n 0, 1) := by decide +kernel
theorem dX4_remove_13 : decode cX4_remove 13 = .ok (.getfield 9, 3) := by decide +kernel
theorem dX4_remove_16 : decode cX4_remove 16 = .ok (.iload_n 2, 1) := by decide +kernel
theorem dX4_remove_17 : decode cX4_remove 17 = .ok (.aload_n 0, 1) := by decide +kernel
theorem dX4_remove_18 : decode cX4_remove 18 = .ok (.getfield 9, 3) := by decide +kernel
theorem dX4_remove_21 : decode cX4_remove 21 = .ok (.iload_n 2, 1) := by decide +kernel
theorem dX4_remove_22 : decode cX4_remove 22 = .ok (.iconst 1, 1) := by decide +kernel
theorem dX4_remove_23 : decode cX4_remove 23 = .ok (.iadd, 1) := by decide +kernel
theorem dX4_remove_24 : decode cX4_remove 24 = .ok (.iaload, 1) := by decide +kernel
theorem dX4_remove_25 : decode cX4_remove 25 = .ok (.iastore, 1) := by decide +kernel
theorem dX4_remove_26 : decode cX4_remove 26 = .ok (.aload_n 0, 1) := by decide +kernel
theorem dX4_remove_27 : decode cX4_remove 27 = .ok (.getfield 15, 3) := by decide +kernel
theorem dX4_remove_30 : decode cX4_remove 30 = .ok (.iload_n 2, 1) := by decide +kernel
theorem dX4_remove_31 : decode cX4_remove 31 = .ok (.aload_n 0, 1) := by decide +kernel
theorem dX4_remove_32 : decode cX4_remove 32 = .ok (.getfield 15, 3) := by decide +kernel
theorem dX4_remove_35 : decode cX4_remove 35 = .ok (.iload_n 2, 1) := by decide +kernel
theorem dX4_remove_36 : decode cX4_remove 36 = .ok (.iconst 1, 1) := by decide +kernel
theorem dX4_remove_37 : decode cX4_remove 37 = .ok (.iadd, 1) := by decide +kernel
theorem dX4_remove_38 : decode cX4_remove 38 = .ok (.iaload, 1) := by decide +kernel
theorem dX4_remove_39 : decode cX4_remove 39 = .ok (.iastore, 1) := by decide +kernel
theorem dX4_remove_40 : decode cX4_remove 40 = .ok (.aload_n 0, 1) := by decide +kernel
theorem dX4_remove_41 : decode cX4_remove 41 = .ok (.getfield 18, 3) := by decide +kernel
theorem dX4_remove_44 : decode cX4_remove 44 = .ok (.iload_n 2, 1) := by decide +kernel
theorem dX4_remove_45 : decode cX4_remove 45 = .ok (.aload_n 0, 1) := by decide +kernel
theorem dX4_remove_46 : decode cX4_remove 46 = .ok (.getfield 18, 3) := by decide +kernel
theorem dX4_remove_49 : decode cX4_remove 49 = .ok (.iload_n 2, 1) := by decide +kernel
theorem dX4_remove_50 : decode cX4_remove 50 = .ok (.iconst 1, 1) := by decide +kernel
theorem dX4_remove_51 : decode cX4_remove 51 = .ok (.iadd, 1) := by decide +kernel
theorem dX4_remove_52 : decode cX4_remove 52 = .ok (.iaload, 1) := by decide +kernel
theorem dX4_remove_53 : decode cX4_remove 53 = .ok (.iastore, 1) := by decide +kernel
theorem dX4_remove_54 : decode cX4_remove 54 = .ok (.iconst 0, 1) := by decide +kernel
theorem dX4_remove_55 : decode cX4_remove 55 = .ok (.istore_n 3, 1) := by decide +kernel
theorem dX4_remove_56 : decode cX4_remove 56 = .ok (.iload_n 3, 1) := by decide +kernel
theorem dX4_remove_57 : decode cX4_remove 57 = .ok (.bipush 12, 2) := by decide +kernel
theorem dX4_remove_59 : decode cX4_remove 59 = .ok (.if_icmp .ge 33, 3) := by decide +kernel
theorem dX4_remove_62 : decode cX4_remove 62 = .ok (.aload_n 0, 1) := by decide +kernel
theorem dX4_remove_63 : decode cX4_remove 63 = .ok (.getfield 21, 3) := by decide +kernel
theorem dX4_remove_66 : decode cX4_remove 66 = .ok (.iload_n 2, 1) := by decide +kernel
theorem dX4_remove_67 : decode cX4_remove 67 = .ok (.bipush 12, 2) := by decide +kernel
theorem dX4_remove_69 : decode cX4_remove 69 = .ok (.imul, 1) := by decide +kernel
theorem dX4_remove_70 : decode cX4_remove 70 = .ok (.iload_n 3, 1) := by decide +kernel
theorem dX4_remove_71 : decode cX4_remove 71 = .ok (.iadd, 1) := by decide +kernel
theorem dX4_remove_72 : decode cX4_remove 72 = .ok (.aload_n 0, 1) := by decide +kernel
theorem dX4_remove_73 : decode cX4_remove 73 = .ok (.getfield 21, 3) := by decide +kernel
theorem dX4_remove_76 : decode cX4_remove 76 = .ok (.iload_n 2, 1) := by decide +kernel
theorem dX4_remove_77 : decode cX4_remove 77 = .ok (.iconst 1, 1) := by decide +kernel
theorem dX4_remove_78 : decode cX4_remove 78 = .ok (.iadd, 1) := by decide +kernel
theorem dX4_remove_79 : decode cX4_remove 79 = .ok (.bipush 12, 2) := by decide +kernel
theorem dX4_remove_81 : decode cX4_remove 81 = .ok (.imul, 1) := by decide +kernel
theorem dX4_remove_82 : decode cX4_remove 82 = .ok (.iload_n 3, 1) := by decide +kernel
theorem dX4_remove_83 : decode cX4_remove 83 = .ok (.iadd, 1) := by decide +kernel
theorem dX4_remove_84 : decode cX4_remove 84 = .ok (.iaload, 1) := by decide +kernel
theorem dX4_remove_85 : decode cX4_remove 85 = .ok (.iastore, 1) := by decide +kernel
theorem dX4_remove_86 : decode cX4_remove 86 = .ok (.iinc 3 1, 3) := by decide +kernel
theorem dX4_remove_89 : decode cX4_remove 89 = .ok (.goto (-33), 3) := by decide +kernel
theorem dX4_remove_92 : decode cX4_remove 92 = .ok (.iinc 2 1, 3) := by decide +kernel
theorem dX4_remove_95 : decode cX4_remove 95 = .ok (.goto (-93), 3) := by decide +kernel
theorem dX4_remove_98 : decode cX4_remove 98 = .ok (.aload_n 0, 1) := by decide +kernel
theorem dX4_remove_99 : decode cX4_remove 99 = .ok (.dup, 1) := by decide +kernel
theorem dX4_remove_100 : decode cX4_remove 100 = .ok (.getfield 27, 3) := by decide +kernel
theorem dX4_remove_103 : decode cX4_remove 103 = .ok (.iconst 1, 1) := by decide +kernel
theorem dX4_remove_104 : decode cX4_remove 104 = .ok (.isub, 1) := by decide +kernel
theorem dX4_remove_105 : decode cX4_remove 105 = .ok (.putfield 27, 3) := by decide +kernel
theorem dX4_remove_108 : decode cX4_remove 108 = .ok (.return_, 1) := by decide +kernel
def mX4_remove : MM := (yX4_remove, cX4_remove, 4, none, { frames := 0, cells := 0, slots := 0, locals := 0 })
def X4_remove_L56 (u2_ : Int32) (k92 : SS → Option SS) : Nat → Int32 → SS → Option SS :=
  lp (fun _ _ => none) fun rec v3_ σ_ =>
    if (12 : Int32) ≤ v3_ then (
      k92 σ_
      ) else (
      grd (inb (((u2_ + (1 : Int32)) * (12 : Int32)) + v3_) 192) <|
      grd (inb ((u2_ * (12 : Int32)) + v3_) 192) <|
      vthen (sI σ_ 62 (Int32.toNatClampNeg ((u2_ * (12 : Int32)) + v3_)) (gI σ_ 62 (Int32.toNatClampNeg (((u2_ + (1 : Int32)) * (12 : Int32)) + v3_)))) fun σ9 =>
      rec (v3_ + (1 : Int32)) σ9
      )

def X4_remove_L2   : Nat → Int32 → SS → Option SS :=
  lp (fun _ _ => none) fun rec v2_ σ_ =>
    if (gI σ_ 58 0) ≤ (v2_ + (1 : Int32)) then (
      vthen (sI σ_ 58 0 ((gI σ_ 58 0) - (1 : Int32))) fun σ1 =>
      some σ1
      ) else (
      grd (inb (v2_ + (1 : Int32)) 16) <|
      grd (inb v2_ 16) <|
      vthen (sI σ_ 59 (Int32.toNatClampNeg v2_) (gI σ_ 59 (Int32.toNatClampNeg (v2_ + (1 : Int32))))) fun σ4 =>
      vthen (sI σ4 60 (Int32.toNatClampNeg v2_) (gI σ4 60 (Int32.toNatClampNeg (v2_ + (1 : Int32))))) fun σ5 =>
      vthen (sI σ5 61 (Int32.toNatClampNeg v2_) (gI σ5 61 (Int32.toNatClampNeg (v2_ + (1 : Int32))))) fun σ6 =>
      X4_remove_L56 v2_
      (fun σ10 =>
        rec (v2_ + (1 : Int32)) σ10
        )
      fuel (0 : Int32) σ6
      )

def fX4_remove (σ : SS) (a1 : Int32) : Option SS :=
  X4_remove_L2
  fuel a1 σ

set_option maxRecDepth 20000 in
theorem sX4_remove_L56 {g : GG} {r : SS} {u2_ : Int32} {k92 : SS → Option SS} 
    (hk92 : ∀ (σ_ : SS), k92 σ_ = some r → WT σ_ → RR g mX4_remove (FinR g mX4_remove none NF r) zF 92 [(0, .ref (ad g 58)), (2, .int u2_)] [] σ_)
    (n : Nat) : ∀ (v3_ : Int32) (σ_ : SS), X4_remove_L56 u2_ k92 n v3_ σ_ = some r → WT σ_ → RR g mX4_remove (FinR g mX4_remove none NF r) zF 56 [(0, .ref (ad g 58)), (2, .int u2_), (3, .int v3_)] [] σ_ := by
  unfold X4_remove_L56
  refine lp_ind (P := fun (rec : Int32 → SS → Option SS) => ∀ (v3_ : Int32) (σ_ : SS), rec v3_ σ_ = some r → WT σ_ → RR g mX4_remove (FinR g mX4_remove none NF r) zF 56 [(0, .ref (ad g 58)), (2, .int u2_), (3, .int v3_)] [] σ_) ?_ ?_ n
  · intro v3_ σ_ hr; cases hr
  intro rec ih v3_ σ_ hr hw_
  refine r_iload_n (pc := 56) (j := 2) dX4_remove_56 rfl rfl ?_
  refine r_bipush (pc := 57) (v := (12 : Int32)) dX4_remove_57 rfl ?_
  refine r_icmp_ge (pc := 59) (tgt := 92) dX4_remove_59 rfl (fun hc => ?_) (fun hc => ?_)
  · replace hr := ite_t hc hr
    exact r_pick (ls1 := [(0, .ref (ad g 58)), (2, .int u2_)]) [0, 1] rfl (hk92 σ_ hr hw_)
  replace hr := ite_f hc hr
  refine r_aload_n (pc := 62) (j := 0) dX4_remove_62 rfl rfl ?_
  refine gf4_4 (pc := 63) tw_2_86 hw_ dX4_remove_63 ?_
  refine r_iload_n (pc := 66) (j := 1) dX4_remove_66 rfl rfl ?_
  refine r_bipush (pc := 67) (v := (12 : Int32)) dX4_remove_67 rfl ?_
  refine r_imul (pc := 69) dX4_remove_69 ?_
  refine r_iload_n (pc := 70) (j := 2) dX4_remove_70 rfl rfl ?_
  refine r_iadd (pc := 71) dX4_remove_71 ?_
  refine r_aload_n (pc := 72) (j := 0) dX4_remove_72 rfl rfl ?_
  refine gf4_4 (pc := 73) tw_2_86 hw_ dX4_remove_73 ?_
  refine r_iload_n (pc := 76) (j := 1) dX4_remove_76 rfl rfl ?_
  refine r_iconst (pc := 77) (v := (1 : Int32)) dX4_remove_77 rfl ?_
  refine r_iadd (pc := 78) dX4_remove_78 ?_
  refine r_bipush (pc := 79) (v := (12 : Int32)) dX4_remove_79 rfl ?_
  refine r_imul (pc := 81) dX4_remove_81 ?_
  refine r_iload_n (pc := 82) (j := 2) dX4_remove_82 rfl rfl ?_
  refine r_iadd (pc := 83) dX4_remove_83 ?_
  obtain ⟨h7, hr⟩ := grd_inv hr
  refine x_iald (pc := 84) (k := (Int32.toNatClampNeg (((u2_ + (1 : Int32)) * (12 : Int32)) + v3_))) rfl h7 rfl dX4_remove_84 ?_
  obtain ⟨h8, hr⟩ := grd_inv hr
  refine x_iast (pc := 85) (j := (Int32.toNatClampNeg ((u2_ * (12 : Int32)) + v3_))) rfl h8 rfl dX4_remove_85 fun σ9 eσ9 => ?_
  replace hr := vthen_inv hr σ9 eσ9
  have hσ9 := wtI eσ9 hw_
  refine r_iinc (pc := 86) (j := 2) (v := (v3_ + (1 : Int32))) (ls1 := [(3, .int (v3_ + (1 : Int32))), (0, .ref (ad g 58)), (2, .int u2_)]) dX4_remove_86 rfl rfl (nle rfl) rfl ?_
  refine r_goto (pc := 89) (tgt := 56) dX4_remove_89 rfl ?_
  exact r_pick (ls1 := [(0, .ref (ad g 58)), (2, .int u2_), (3, .int (v3_ + (1 : Int32)))]) [1, 2, 0] rfl (ih (v3_ + (1 : Int32)) σ9 hr hσ9)

set_option maxRecDepth 20000 in
theorem sX4_remove_L2 {g : GG} {r : SS}   
    (n : Nat) : ∀ (v2_ : Int32) (σ_ : SS), X4_remove_L2 n v2_ σ_ = some r → WT σ_ → RR g mX4_remove (FinR g mX4_remove none NF r) zF 2 [(0, .ref (ad g 58)), (2, .int v2_)] [] σ_ := by
  unfold X4_remove_L2
  refine lp_ind (P := fun (rec : Int32 → SS → Option SS) => ∀ (v2_ : Int32) (σ_ : SS), rec v2_ σ_ = some r → WT σ_ → RR g mX4_remove (FinR g mX4_remove none NF r) zF 2 [(0, .ref (ad g 58)), (2, .int v2_)] [] σ_) ?_ ?_ n
  · intro v2_ σ_ hr; cases hr
  intro rec ih v2_ σ_ hr hw_
  refine r_iload_n (pc := 2) (j := 1) dX4_remove_2 rfl rfl ?_
  refine r_iconst (pc := 3) (v := (1 : Int32)) dX4_remove_3 rfl ?_
  refine r_iadd (pc := 4) dX4_remove_4 ?_
  refine r_aload_n (pc := 5) (j := 0) dX4_remove_5 rfl rfl ?_
  refine gf4_0 (pc := 6) tw_2_78 rfl dX4_remove_6 ?_
  refine r_icmp_ge (pc := 9) (tgt := 98) dX4_remove_9 rfl (fun hc => ?_) (fun hc => ?_)
  · replace hr := ite_t hc hr
    refine r_aload_n (pc := 98) (j := 0) dX4_remove_98 rfl rfl ?_
    refine r_dup (pc := 99) dX4_remove_99 rfl ?_
    refine gf4_0 (pc := 100) tw_2_78 rfl dX4_remove_100 ?_
    refine r_iconst (pc := 103) (v := (1 : Int32)) dX4_remove_103 rfl ?_
    refine r_isub (pc := 104) dX4_remove_104 ?_
    refine pf4_0 (pc := 105) tw_2_78 rfl dX4_remove_105 fun σ1 eσ1 => ?_
    replace hr := vthen_inv hr σ1 eσ1
    have hσ1 := wtI eσ1 hw_
    exact l_ov hr (r_vret (pc := 108) rfl rfl ⟨Nat.le_refl _, Nat.le_refl _⟩ dX4_remove_108)
  replace hr := ite_f hc hr
  refine r_aload_n (pc := 12) (j := 0) dX4_remove_12 rfl rfl ?_
  refine gf4_1 (pc := 13) tw_2_80 hw_ dX4_remove_13 ?_
  refine r_iload_n (pc := 16) (j := 1) dX4_remove_16 rfl rfl ?_
  refine r_aload_n (pc := 17) (j := 0) dX4_remove_17 rfl rfl ?_
  refine gf4_1 (pc := 18) tw_2_80 hw_ dX4_remove_18 ?_
  refine r_iload_n (pc := 21) (j := 1) dX4_remove_21 rfl rfl ?_
  refine r_iconst (pc := 22) (v := (1 : Int32)) dX4_remove_22 rfl ?_
  refine r_iadd (pc := 23) dX4_remove_23 ?_
  obtain ⟨h2, hr⟩ := grd_inv hr
  refine x_iald (pc := 24) (k := (Int32.toNatClampNeg (v2_ + (1 : Int32)))) rfl h2 rfl dX4_remove_24 ?_
  obtain ⟨h3, hr⟩ := grd_inv hr
  refine x_iast (pc := 25) (j := (Int32.toNatClampNeg v2_)) rfl h3 rfl dX4_remove_25 fun σ4 eσ4 => ?_
  replace hr := vthen_inv hr σ4 eσ4
  have hσ4 := wtI eσ4 hw_
  refine r_aload_n (pc := 26) (j := 0) dX4_remove_26 rfl rfl ?_
  refine gf4_2 (pc := 27) tw_2_82 hσ4 dX4_remove_27 ?_
  refine r_iload_n (pc := 30) (j := 1) dX4_remove_30 rfl rfl ?_
  refine r_aload_n (pc := 31) (j := 0) dX4_remove_31 rfl rfl ?_
  refine gf4_2 (pc := 32) tw_2_82 hσ4 dX4_remove_32 ?_
  refine r_iload_n (pc := 35) (j := 1) dX4_remove_35 rfl rfl ?_
  refine r_iconst (pc := 36) (v := (1 : Int32)) dX4_remove_36 rfl ?_
  refine r_iadd (pc := 37) dX4_remove_37 ?_
  refine x_iald (pc := 38) (k := (Int32.toNatClampNeg (v2_ + (1 : Int32)))) rfl h2 rfl dX4_remove_38 ?_
  refine x_iast (pc := 39) (j := (Int32.toNatClampNeg v2_)) rfl h3 rfl dX4_remove_39 fun σ5 eσ5 => ?_
  replace hr := vthen_inv hr σ5 eσ5
  have hσ5 := wtI eσ5 hσ4
  refine r_aload_n (pc := 40) (j := 0) dX4_remove_40 rfl rfl ?_
  refine gf4_3 (pc := 41) tw_2_84 hσ5 dX4_remove_41 ?_
  refine r_iload_n (pc := 44) (j := 1) dX4_remove_44 rfl rfl ?_
  refine r_aload_n (pc := 45) (j := 0) dX4_remove_45 rfl rfl ?_
  refine gf4_3 (pc := 46) tw_2_84 hσ5 dX4_remove_46 ?_
  refine r_iload_n (pc := 49) (j := 1) dX4_remove_49 rfl rfl ?_
  refine r_iconst (pc := 50) (v := (1 : Int32)) dX4_remove_50 rfl ?_
  refine r_iadd (pc := 51) dX4_remove_51 ?_
  refine x_iald (pc := 52) (k := (Int32.toNatClampNeg (v2_ + (1 : Int32)))) rfl h2 rfl dX4_remove_52 ?_
  refine x_iast (pc := 53) (j := (Int32.toNatClampNeg v2_)) rfl h3 rfl dX4_remove_53 fun σ6 eσ6 => ?_
  replace hr := vthen_inv hr σ6 eσ6
  have hσ6 := wtI eσ6 hσ5
  refine r_iconst (pc := 54) (v := (0 : Int32)) dX4_remove_54 rfl ?_
  refine r_istore_n (pc := 55) (ls1 := [(3, .int (0 : Int32)), (0, .ref (ad g 58)), (2, .int v2_)]) dX4_remove_55 rfl (nle rfl) rfl ?_
  refine r_pick (ls1 := [(0, .ref (ad g 58)), (2, .int v2_), (3, .int (0 : Int32))]) [1, 2, 0] rfl ?_
  refine sX4_remove_L56    (fun σ10 hr hσ10 => ?_) fuel (0 : Int32) σ6 hr hσ6
  refine r_iinc (pc := 92) (j := 1) (v := (v2_ + (1 : Int32))) (ls1 := [(2, .int (v2_ + (1 : Int32))), (0, .ref (ad g 58))]) dX4_remove_92 rfl rfl (nle rfl) rfl ?_
  refine r_goto (pc := 95) (tgt := 2) dX4_remove_95 rfl ?_
  exact r_pick (ls1 := [(0, .ref (ad g 58)), (2, .int (v2_ + (1 : Int32)))]) [1, 0] rfl (ih (v2_ + (1 : Int32)) σ10 hr hσ10)

set_option maxRecDepth 20000 in
theorem sX4_remove {g : GG} {σ : SS} {a1 : Int32} {r : SS} (hr : fX4_remove σ a1 = some r)  : Ct g mX4_remove [.ref (ad g 58), .int a1] NF σ none NF r := by
  refine Ct.of (by decide +kernel) (nle rfl) fun hw0 => ?_
  have hw := hw0 rfl
  unfold fX4_remove at hr
  change RR g mX4_remove (FinR g mX4_remove none NF r) zF 0 [(0, .ref (ad g 58)), (1, .int a1)] [] σ
  refine r_iload_n (pc := 0) (j := 1) dX4_remove_0 rfl rfl ?_
  refine r_istore_n (pc := 1) (ls1 := [(2, .int a1), (0, .ref (ad g 58)), (1, .int a1)]) dX4_remove_1 rfl (nle rfl) rfl ?_
  refine r_pick (ls1 := [(0, .ref (ad g 58)), (2, .int a1)]) [1, 0] rfl ?_
  refine sX4_remove_L2     fuel a1 σ hr hw

theorem kX4_remove {g : GG} {σ : SS} {a1 : Int32} {σ2 : SS} {M : MM} {F : State → Array Value → List Frame → State → Prop} {pc index : Nat} {ls : List (Nat × Value)} {rest : List Value} (hf : fX4_remove σ a1 = some σ2)  (hl : Cond.methodLink M.1.cls index yX4_remove ∈ lw_gt) (hR : mX4_remove.2.2.2.2.frames + 1 ≤ M.2.2.2.2.frames ∧ 8 + (mX4_remove.2.2.1 + 11) + mX4_remove.2.2.2.2.locals ≤ M.2.2.2.2.locals) (hrest : (rest.map fun v => v.category).sum ≤ 8) (hd : decode M.2.1 pc = .ok (.invokevirtual index, 3)) (k : WT σ2 → RR g M F zF (pc + 3) ls rest σ2) : RR g M F zF pc ls (.int a1 :: .ref (ad g 58) :: rest) σ :=
  r_callV (N := mX4_remove) (nn := 1) (o1 := none) (sX4_remove hf ) (rfl : shp 58 = (4, 0)) (by decide) (shp_le (rfl : shp 58 = (4, 0)) (nle rfl)) (ci := 4) rfl rfl tw_5_82 tw_1_8 hl tw_5_80 tw_5_81 ⟨by decide, by decide, rfl⟩ hR rfl hrest hd ⟨Nat.zero_le _, Nat.zero_le _⟩ rfl (fun h => k (h rfl))

theorem dX7_take_0 : decode cX7_take 0 = .ok (.aload_n 0, 1) := by decide +kernel
theorem dX7_take_1 : decode cX7_take 1 = .ok (.getfield 69, 3) := by decide +kernel
theorem dX7_take_4 : decode cX7_take 4 = .ok (.iload_n 1, 1) := by decide +kernel
theorem dX7_take_5 : decode cX7_take 5 = .ok (.invokevirtual 364, 3) := by decide +kernel
theorem dX7_take_8 : decode cX7_take 8 = .ok (.ifCond .ne 5, 3) := by decide +kernel
theorem dX7_take_11 : decode cX7_take 11 = .ok (.iconst (-1), 1) := by decide +kernel
theorem dX7_take_12 : decode cX7_take 12 = .ok (.ireturn, 1) := by decide +kernel
theorem dX7_take_13 : decode cX7_take 13 = .ok (.aload_n 0, 1) := by decide +kernel
theorem dX7_take_14 : decode cX7_take 14 = .ok (.getfield 69, 3) := by decide +kernel
theorem dX7_take_17 : decode cX7_take 17 = .ok (.iload_n 1, 1) := by decide +kernel
theorem dX7_take_18 : decode cX7_take 18 = .ok (.invokevirtual 400, 3) := by decide +kernel
theorem dX7_take_21 : decode cX7_take 21 = .ok (.aload_n 0, 1) := by decide +kernel
theorem dX7_take_22 : decode cX7_take 22 = .ok (.getfield 69, 3) := by decide +kernel
theorem dX7_take_25 : decode cX7_take 25 = .ok (.getfield 94, 3) := by decide +kernel
theorem dX7_take_28 : decode cX7_take 28 = .ok (.ireturn, 1) := by decide +kernel
def mX7_take : MM := (yX7_take, cX7_take, 2, Option.some Jvm.ClassFile.FieldType.int, { frames := 1, cells := 0, slots := 0, locals := 23 })
def fX7_take (σ : SS) (a1 : Int32) : Option (Int32 × SS) :=
  if (fX4_hasSheet σ a1) = true then (
    bnd1 (fX4_remove σ a1) fun σ1 =>
    some ((gI σ1 58 0), σ1)
    ) else (
    some ((-1 : Int32), σ)
    )

set_option maxRecDepth 20000 in
theorem sX7_take {g : GG} {σ : SS} {a1 : Int32} {r : Int32 × SS} (hr : fX7_take σ a1 = some r)  : Ct g mX7_take [.ref (ad g 1), .int a1] NF σ (some (.int r.1)) NF r.2 := by
  refine Ct.of (by decide +kernel) (nle rfl) fun hw0 => ?_
  have hw := hw0 rfl
  unfold fX7_take at hr
  change RR g mX7_take (FinR g mX7_take (some (.int r.1)) NF r.2) zF 0 [(0, .ref (ad g 1)), (1, .int a1)] [] σ
  refine r_aload_n (pc := 0) (j := 0) dX7_take_0 rfl rfl ?_
  refine gf7_13 (pc := 1) tw_2_122 hw dX7_take_1 ?_
  refine r_iload_n (pc := 4) (j := 1) dX7_take_4 rfl rfl ?_
  refine kX4_hasSheet (pc := 5) (hf := rfl) tw_5_17 ⟨nle rfl, nle rfl⟩ (nle rfl) dX7_take_5 ?_
  refine r_ifB_ne (pc := 8) (tgt := 13) dX7_take_8 rfl (fun hc => ?_) (fun hc => ?_)
  · replace hr := ite_t hc hr
    refine r_aload_n (pc := 13) (j := 0) dX7_take_13 rfl rfl ?_
    refine gf7_13 (pc := 14) tw_2_122 hw dX7_take_14 ?_
    refine r_iload_n (pc := 17) (j := 1) dX7_take_17 rfl rfl ?_
    obtain ⟨σ1, eσ1, hr⟩ := bnd1_inv hr
    refine kX4_remove (pc := 18) eσ1 tw_5_79 ⟨nle rfl, nle rfl⟩ (nle rfl) dX7_take_18 fun hσ1 => ?_
    refine r_aload_n (pc := 21) (j := 0) dX7_take_21 rfl rfl ?_
    refine gf7_13 (pc := 22) tw_2_122 hσ1 dX7_take_22 ?_
    refine gf4_0 (pc := 25) tw_2_79 rfl dX7_take_25 ?_
    exact l_osi hr (r_iret (pc := 28) (v := (gI σ1 58 0)) rfl rfl ⟨Nat.le_refl _, Nat.le_refl _⟩ dX7_take_28)
  replace hr := ite_f hc hr
  refine r_iconst (pc := 11) (v := (-1 : Int32)) dX7_take_11 rfl ?_
  exact l_osi hr (r_iret (pc := 12) (v := (-1 : Int32)) rfl rfl ⟨Nat.le_refl _, Nat.le_refl _⟩ dX7_take_12)

theorem kX7_take {g : GG} {σ : SS} {a1 : Int32} {v : Int32} {σ2 : SS} {M : MM} {F : State → Array Value → List Frame → State → Prop} {pc index : Nat} {ls : List (Nat × Value)} {rest : List Value} (hf : fX7_take σ a1 = some (v, σ2))  (hl : Cond.methodLink M.1.cls index yX7_take ∈ lw_gt) (hR : mX7_take.2.2.2.2.frames + 1 ≤ M.2.2.2.2.frames ∧ 8 + (mX7_take.2.2.1 + 11) + mX7_take.2.2.2.2.locals ≤ M.2.2.2.2.locals) (hrest : (rest.map fun v => v.category).sum ≤ 8) (hd : decode M.2.1 pc = .ok (.invokevirtual index, 3)) (k : WT σ2 → RR g M F zF (pc + 3) ls (.int v :: rest) σ2) : RR g M F zF pc ls (.int a1 :: .ref (ad g 1) :: rest) σ :=
  r_callV (N := mX7_take) (nn := 1) (o1 := some (.int v)) (sX7_take hf ) (rfl : shp 1 = (7, 0)) (by decide) (shp_le (rfl : shp 1 = (7, 0)) (nle rfl)) (ci := 7) rfl rfl tw_5_78 tw_1_1 hl tw_5_76 tw_5_77 ⟨by decide, by decide, rfl⟩ hR rfl hrest hd ⟨Nat.zero_le _, Nat.zero_le _⟩ rfl (fun h => k (h rfl))

theorem dX8_take_0 : decode cX8_take 0 = .ok (.iload_n 1, 1) := by decide +kernel
theorem dX8_take_1 : decode cX8_take 1 = .ok (.iconst 0, 1) := by decide +kernel
theorem dX8_take_2 : decode cX8_take 2 = .ok (.aload_n 0, 1) := by decide +kernel
theorem dX8_take_3 : decode cX8_take 3 = .ok (.getfield 259, 3) := by decide +kernel
theorem dX8_take_6 : decode cX8_take 6 = .ok (.iconst 1, 1) := by decide +kernel
theorem dX8_take_7 : decode cX8_take 7 = .ok (.isub, 1) := by decide +kernel
theorem dX8_take_8 : decode cX8_take 8 = .ok (.invokestatic 165, 3) := by decide +kernel
theorem dX8_take_11 : decode cX8_take 11 = .ok (.ifCond .ne 5, 3) := by decide +kernel
theorem dX8_take_14 : decode cX8_take 14 = .ok (.iconst (-1), 1) := by decide +kernel
theorem dX8_take_15 : decode cX8_take 15 = .ok (.ireturn, 1) := by decide +kernel
theorem dX8_take_16 : decode cX8_take 16 = .ok (.aload_n 0, 1) := by decide +kernel
theorem dX8_take_17 : decode cX8_take 17 = .ok (.aload_n 0, 1) := by decide +kernel
theorem dX8_take_18 : decode cX8_take 18 = .ok (.getfield 259, 3) := by decide +kernel
theorem dX8_take_21 : decode cX8_take 21 = .ok (.iconst 1, 1) := by decide +kernel
theorem dX8_take_22 : decode cX8_take 22 = .ok (.isub, 1) := by decide +kernel
theorem dX8_take_23 : decode cX8_take 23 = .ok (.putfield 259, 3) := by decide +kernel
theorem dX8_take_26 : decode cX8_take 26 = .ok (.iload_n 1, 1) := by decide +kernel
theorem dX8_take_27 : decode cX8_take 27 = .ok (.istore_n 2, 1) := by decide +kernel
theorem dX8_take_28 : decode cX8_take 28 = .ok (.iload_n 2, 1) := by decide +kernel
theorem dX8_take_29 : decode cX8_take 29 = .ok (.aload_n 0, 1) := by decide +kernel
theorem dX8_take_30 : decode cX8_take 30 = .ok (.getfield 259, 3) := by decide +kernel
theorem dX8_take_33 : decode cX8_take 33 = .ok (.if_icmp .ge 90, 3) := by decide +kernel
theorem dX8_take_36 : decode cX8_take 36 = .ok (.aload_n 0, 1) := by decide +kernel
theorem dX8_take_37 : decode cX8_take 37 = .ok (.getfield 117, 3) := by decide +kernel
theorem dX8_take_40 : decode cX8_take 40 = .ok (.iload_n 2, 1) := by decide +kernel
theorem dX8_take_41 : decode cX8_take 41 = .ok (.aload_n 0, 1) := by decide +kernel
theorem dX8_take_42 : decode cX8_take 42 = .ok (.getfield 117, 3) := by decide +kernel
theorem dX8_take_45 : decode cX8_take 45 = .ok (.iload_n 2, 1) := by decide +kernel
theorem dX8_take_46 : decode cX8_take 46 = .ok (.iconst 1, 1) := by decide +kernel
theorem dX8_take_47 : decode cX8_take 47 = .ok (.iadd, 1) := by decide +kernel
theorem dX8_take_48 : decode cX8_take 48 = .ok (.iaload, 1) := by decide +kernel
theorem dX8_take_49 : decode cX8_take 49 = .ok (.iastore, 1) := by decide +kernel
theorem dX8_take_50 : decode cX8_take 50 = .ok (.aload_n 0, 1) := by decide +kernel
theorem dX8_take_51 : decode cX8_take 51 = .ok (.getfield 120, 3) := by decide +kernel
theorem dX8_take_54 : decode cX8_take 54 = .ok (.iload_n 2, 1) := by decide +kernel
theorem dX8_take_55 : decode cX8_take 55 = .ok (.aload_n 0, 1) := by decide +kernel
theorem dX8_take_56 : decode cX8_take 56 = .ok (.getfield 120, 3) := by decide +kernel
theorem dX8_take_59 : decode cX8_take 59 = .ok (.iload_n 2, 1) := by decide +kernel
theorem dX8_take_60 : decode cX8_take 60 = .ok (.iconst 1, 1) := by decide +kernel
theorem dX8_take_61 : decode cX8_take 61 = .ok (.iadd, 1) := by decide +kernel
theorem dX8_take_62 : decode cX8_take 62 = .ok (.iaload, 1) := by decide +kernel
theorem dX8_take_63 : decode cX8_take 63 = .ok (.iastore, 1) := by decide +kernel
theorem dX8_take_64 : decode cX8_take 64 = .ok (.aload_n 0, 1) := by decide +kernel
theorem dX8_take_65 : decode cX8_take 65 = .ok (.getfield 123, 3) := by decide +kernel
theorem dX8_take_68 : decode cX8_take 68 = .ok (.iload_n 2, 1) := by decide +kernel
theorem dX8_take_69 : decode cX8_take 69 = .ok (.aload_n 0, 1) := by decide +kernel
theorem dX8_take_70 : decode cX8_take 70 = .ok (.getfield 123, 3) := by decide +kernel
theorem dX8_take_73 : decode cX8_take 73 = .ok (.iload_n 2, 1) := by decide +kernel
theorem dX8_take_74 : decode cX8_take 74 = .ok (.iconst 1, 1) := by decide +kernel
theorem dX8_take_75 : decode cX8_take 75 = .ok (.iadd, 1) := by decide +kernel
theorem dX8_take_76 : decode cX8_take 76 = .ok (.iaload, 1) := by decide +kernel
theorem dX8_take_77 : decode cX8_take 77 = .ok (.iastore, 1) := by decide +kernel
theorem dX8_take_78 : decode cX8_take 78 = .ok (.iconst 0, 1) := by decide +kernel
theorem dX8_take_79 : decode cX8_take 79 = .ok (.istore_n 3, 1) := by decide +kernel
theorem dX8_take_80 : decode cX8_take 80 = .ok (.iload_n 3, 1) := by decide +kernel
theorem dX8_take_81 : decode cX8_take 81 = .ok (.bipush 12, 2) := by decide +kernel
theorem dX8_take_83 : decode cX8_take 83 = .ok (.if_icmp .ge 34, 3) := by decide +kernel
theorem dX8_take_86 : decode cX8_take 86 = .ok (.aload_n 0, 1) := by decide +kernel
theorem dX8_take_87 : decode cX8_take 87 = .ok (.getfield 126, 3) := by decide +kernel
theorem dX8_take_90 : decode cX8_take 90 = .ok (.bipush 12, 2) := by decide +kernel
theorem dX8_take_92 : decode cX8_take 92 = .ok (.iload_n 2, 1) := by decide +kernel
theorem dX8_take_93 : decode cX8_take 93 = .ok (.imul, 1) := by decide +kernel
theorem dX8_take_94 : decode cX8_take 94 = .ok (.iload_n 3, 1) := by decide +kernel
theorem dX8_take_95 : decode cX8_take 95 = .ok (.iadd, 1) := by decide +kernel
theorem dX8_take_96 : decode cX8_take 96 = .ok (.aload_n 0, 1) := by decide +kernel
theorem dX8_take_97 : decode cX8_take 97 = .ok (.getfield 126, 3) := by decide +kernel
theorem dX8_take_100 : decode cX8_take 100 = .ok (.bipush 12, 2) := by decide +kernel
theorem dX8_take_102 : decode cX8_take 102 = .ok (.iload_n 2, 1) := by decide +kernel
theorem dX8_take_103 : decode cX8_take 103 = .ok (.imul, 1) := by decide +kernel
theorem dX8_take_104 : decode cX8_take 104 = .ok (.bipush 12, 2) := by decide +kernel
theorem dX8_take_106 : decode cX8_take 106 = .ok (.iadd, 1) := by decide +kernel
theorem dX8_take_107 : decode cX8_take 107 = .ok (.iload_n 3, 1) := by decide +kernel
theorem dX8_take_108 : decode cX8_take 108 = .ok (.iadd, 1) := by decide +kernel
theorem dX8_take_109 : decode cX8_take 109 = .ok (.iaload, 1) := by decide +kernel
theorem dX8_take_110 : decode cX8_take 110 = .ok (.iastore, 1) := by decide +kernel
theorem dX8_take_111 : decode cX8_take 111 = .ok (.iinc 3 1, 3) := by decide +kernel
theorem dX8_take_114 : decode cX8_take 114 = .ok (.goto (-34), 3) := by decide +kernel
theorem dX8_take_117 : decode cX8_take 117 = .ok (.iinc 2 1, 3) := by decide +kernel
theorem dX8_take_120 : decode cX8_take 120 = .ok (.goto (-92), 3) := by decide +kernel
theorem dX8_take_123 : decode cX8_take 123 = .ok (.aload_n 0, 1) := by decide +kernel
theorem dX8_take_124 : decode cX8_take 124 = .ok (.getfield 259, 3) := by decide +kernel
theorem dX8_take_127 : decode cX8_take 127 = .ok (.ireturn, 1) := by decide +kernel
def mX8_take : MM := (yX8_take, cX8_take, 4, Option.some Jvm.ClassFile.FieldType.int, { frames := 1, cells := 0, slots := 0, locals := 22 })
def X8_take_L80 (u2_ : Int32) (k117 : SS → Option (Int32 × SS)) : Nat → Int32 → SS → Option (Int32 × SS) :=
  lp (fun _ _ => none) fun rec v3_ σ_ =>
    if (12 : Int32) ≤ v3_ then (
      k117 σ_
      ) else (
      grd (inb ((((12 : Int32) * u2_) + (12 : Int32)) + v3_) 192) <|
      grd (inb (((12 : Int32) * u2_) + v3_) 192) <|
      vthen (sI σ_ 112 (Int32.toNatClampNeg (((12 : Int32) * u2_) + v3_)) (gI σ_ 112 (Int32.toNatClampNeg ((((12 : Int32) * u2_) + (12 : Int32)) + v3_)))) fun σ9 =>
      rec (v3_ + (1 : Int32)) σ9
      )

def X8_take_L28   : Nat → Int32 → SS → Option (Int32 × SS) :=
  lp (fun _ _ => none) fun rec v2_ σ_ =>
    if (gI σ_ 73 65) ≤ v2_ then (
      some ((gI σ_ 73 65), σ_)
      ) else (
      grd (inb (v2_ + (1 : Int32)) 16) <|
      grd (inb v2_ 16) <|
      vthen (sI σ_ 109 (Int32.toNatClampNeg v2_) (gI σ_ 109 (Int32.toNatClampNeg (v2_ + (1 : Int32))))) fun σ4 =>
      vthen (sI σ4 110 (Int32.toNatClampNeg v2_) (gI σ4 110 (Int32.toNatClampNeg (v2_ + (1 : Int32))))) fun σ5 =>
      vthen (sI σ5 111 (Int32.toNatClampNeg v2_) (gI σ5 111 (Int32.toNatClampNeg (v2_ + (1 : Int32))))) fun σ6 =>
      X8_take_L80 v2_
      (fun σ10 =>
        rec (v2_ + (1 : Int32)) σ10
        )
      fuel (0 : Int32) σ6
      )

def fX8_take (σ : SS) (a1 : Int32) : Option (Int32 × SS) :=
  if (fX8_in σ a1 (0 : Int32) ((gI σ 73 65) - (1 : Int32))) = true then (
    vthen (sI σ 73 65 ((gI σ 73 65) - (1 : Int32))) fun σ1 =>
    X8_take_L28
    fuel a1 σ1
    ) else (
    some ((-1 : Int32), σ)
    )

set_option maxRecDepth 20000 in
theorem sX8_take_L80 {g : GG} {r : Int32 × SS} {u2_ : Int32} {k117 : SS → Option (Int32 × SS)} 
    (hk117 : ∀ (σ_ : SS), k117 σ_ = some r → WT σ_ → RR g mX8_take (FinR g mX8_take (some (.int r.1)) NF r.2) zF 117 [(0, .ref (ad g 73)), (2, .int u2_)] [] σ_)
    (n : Nat) : ∀ (v3_ : Int32) (σ_ : SS), X8_take_L80 u2_ k117 n v3_ σ_ = some r → WT σ_ → RR g mX8_take (FinR g mX8_take (some (.int r.1)) NF r.2) zF 80 [(0, .ref (ad g 73)), (2, .int u2_), (3, .int v3_)] [] σ_ := by
  unfold X8_take_L80
  refine lp_ind (P := fun (rec : Int32 → SS → Option (Int32 × SS)) => ∀ (v3_ : Int32) (σ_ : SS), rec v3_ σ_ = some r → WT σ_ → RR g mX8_take (FinR g mX8_take (some (.int r.1)) NF r.2) zF 80 [(0, .ref (ad g 73)), (2, .int u2_), (3, .int v3_)] [] σ_) ?_ ?_ n
  · intro v3_ σ_ hr; cases hr
  intro rec ih v3_ σ_ hr hw_
  refine r_iload_n (pc := 80) (j := 2) dX8_take_80 rfl rfl ?_
  refine r_bipush (pc := 81) (v := (12 : Int32)) dX8_take_81 rfl ?_
  refine r_icmp_ge (pc := 83) (tgt := 117) dX8_take_83 rfl (fun hc => ?_) (fun hc => ?_)
  · replace hr := ite_t hc hr
    exact r_pick (ls1 := [(0, .ref (ad g 73)), (2, .int u2_)]) [0, 1] rfl (hk117 σ_ hr hw_)
  replace hr := ite_f hc hr
  refine r_aload_n (pc := 86) (j := 0) dX8_take_86 rfl rfl ?_
  refine gf8_63 (pc := 87) tw_5_157 hw_ dX8_take_87 ?_
  refine r_bipush (pc := 90) (v := (12 : Int32)) dX8_take_90 rfl ?_
  refine r_iload_n (pc := 92) (j := 1) dX8_take_92 rfl rfl ?_
  refine r_imul (pc := 93) dX8_take_93 ?_
  refine r_iload_n (pc := 94) (j := 2) dX8_take_94 rfl rfl ?_
  refine r_iadd (pc := 95) dX8_take_95 ?_
  refine r_aload_n (pc := 96) (j := 0) dX8_take_96 rfl rfl ?_
  refine gf8_63 (pc := 97) tw_5_157 hw_ dX8_take_97 ?_
  refine r_bipush (pc := 100) (v := (12 : Int32)) dX8_take_100 rfl ?_
  refine r_iload_n (pc := 102) (j := 1) dX8_take_102 rfl rfl ?_
  refine r_imul (pc := 103) dX8_take_103 ?_
  refine r_bipush (pc := 104) (v := (12 : Int32)) dX8_take_104 rfl ?_
  refine r_iadd (pc := 106) dX8_take_106 ?_
  refine r_iload_n (pc := 107) (j := 2) dX8_take_107 rfl rfl ?_
  refine r_iadd (pc := 108) dX8_take_108 ?_
  obtain ⟨h7, hr⟩ := grd_inv hr
  refine x_iald (pc := 109) (k := (Int32.toNatClampNeg ((((12 : Int32) * u2_) + (12 : Int32)) + v3_))) rfl h7 rfl dX8_take_109 ?_
  obtain ⟨h8, hr⟩ := grd_inv hr
  refine x_iast (pc := 110) (j := (Int32.toNatClampNeg (((12 : Int32) * u2_) + v3_))) rfl h8 rfl dX8_take_110 fun σ9 eσ9 => ?_
  replace hr := vthen_inv hr σ9 eσ9
  have hσ9 := wtI eσ9 hw_
  refine r_iinc (pc := 111) (j := 2) (v := (v3_ + (1 : Int32))) (ls1 := [(3, .int (v3_ + (1 : Int32))), (0, .ref (ad g 73)), (2, .int u2_)]) dX8_take_111 rfl rfl (nle rfl) rfl ?_
  refine r_goto (pc := 114) (tgt := 80) dX8_take_114 rfl ?_
  exact r_pick (ls1 := [(0, .ref (ad g 73)), (2, .int u2_), (3, .int (v3_ + (1 : Int32)))]) [1, 2, 0] rfl (ih (v3_ + (1 : Int32)) σ9 hr hσ9)

set_option maxRecDepth 20000 in
theorem sX8_take_L28 {g : GG} {r : Int32 × SS}   
    (n : Nat) : ∀ (v2_ : Int32) (σ_ : SS), X8_take_L28 n v2_ σ_ = some r → WT σ_ → RR g mX8_take (FinR g mX8_take (some (.int r.1)) NF r.2) zF 28 [(0, .ref (ad g 73)), (2, .int v2_)] [] σ_ := by
  unfold X8_take_L28
  refine lp_ind (P := fun (rec : Int32 → SS → Option (Int32 × SS)) => ∀ (v2_ : Int32) (σ_ : SS), rec v2_ σ_ = some r → WT σ_ → RR g mX8_take (FinR g mX8_take (some (.int r.1)) NF r.2) zF 28 [(0, .ref (ad g 73)), (2, .int v2_)] [] σ_) ?_ ?_ n
  · intro v2_ σ_ hr; cases hr
  intro rec ih v2_ σ_ hr hw_
  refine r_iload_n (pc := 28) (j := 1) dX8_take_28 rfl rfl ?_
  refine r_aload_n (pc := 29) (j := 0) dX8_take_29 rfl rfl ?_
  refine gf8_65 (pc := 30) tw_5_159 rfl dX8_take_30 ?_
  refine r_icmp_ge (pc := 33) (tgt := 123) dX8_take_33 rfl (fun hc => ?_) (fun hc => ?_)
  · replace hr := ite_t hc hr
    refine r_aload_n (pc := 123) (j := 0) dX8_take_123 rfl rfl ?_
    refine gf8_65 (pc := 124) tw_5_159 rfl dX8_take_124 ?_
    exact l_osi hr (r_iret (pc := 127) (v := (gI σ_ 73 65)) rfl rfl ⟨Nat.le_refl _, Nat.le_refl _⟩ dX8_take_127)
  replace hr := ite_f hc hr
  refine r_aload_n (pc := 36) (j := 0) dX8_take_36 rfl rfl ?_
  refine gf8_60 (pc := 37) tw_5_154 hw_ dX8_take_37 ?_
  refine r_iload_n (pc := 40) (j := 1) dX8_take_40 rfl rfl ?_
  refine r_aload_n (pc := 41) (j := 0) dX8_take_41 rfl rfl ?_
  refine gf8_60 (pc := 42) tw_5_154 hw_ dX8_take_42 ?_
  refine r_iload_n (pc := 45) (j := 1) dX8_take_45 rfl rfl ?_
  refine r_iconst (pc := 46) (v := (1 : Int32)) dX8_take_46 rfl ?_
  refine r_iadd (pc := 47) dX8_take_47 ?_
  obtain ⟨h2, hr⟩ := grd_inv hr
  refine x_iald (pc := 48) (k := (Int32.toNatClampNeg (v2_ + (1 : Int32)))) rfl h2 rfl dX8_take_48 ?_
  obtain ⟨h3, hr⟩ := grd_inv hr
  refine x_iast (pc := 49) (j := (Int32.toNatClampNeg v2_)) rfl h3 rfl dX8_take_49 fun σ4 eσ4 => ?_
  replace hr := vthen_inv hr σ4 eσ4
  have hσ4 := wtI eσ4 hw_
  refine r_aload_n (pc := 50) (j := 0) dX8_take_50 rfl rfl ?_
  refine gf8_61 (pc := 51) tw_5_155 hσ4 dX8_take_51 ?_
  refine r_iload_n (pc := 54) (j := 1) dX8_take_54 rfl rfl ?_
  refine r_aload_n (pc := 55) (j := 0) dX8_take_55 rfl rfl ?_
  refine gf8_61 (pc := 56) tw_5_155 hσ4 dX8_take_56 ?_
  refine r_iload_n (pc := 59) (j := 1) dX8_take_59 rfl rfl ?_
  refine r_iconst (pc := 60) (v := (1 : Int32)) dX8_take_60 rfl ?_
  refine r_iadd (pc := 61) dX8_take_61 ?_
  refine x_iald (pc := 62) (k := (Int32.toNatClampNeg (v2_ + (1 : Int32)))) rfl h2 rfl dX8_take_62 ?_
  refine x_iast (pc := 63) (j := (Int32.toNatClampNeg v2_)) rfl h3 rfl dX8_take_63 fun σ5 eσ5 => ?_
  replace hr := vthen_inv hr σ5 eσ5
  have hσ5 := wtI eσ5 hσ4
  refine r_aload_n (pc := 64) (j := 0) dX8_take_64 rfl rfl ?_
  refine gf8_62 (pc := 65) tw_5_156 hσ5 dX8_take_65 ?_
  refine r_iload_n (pc := 68) (j := 1) dX8_take_68 rfl rfl ?_
  refine r_aload_n (pc := 69) (j := 0) dX8_take_69 rfl rfl ?_
  refine gf8_62 (pc := 70) tw_5_156 hσ5 dX8_take_70 ?_
  refine r_iload_n (pc := 73) (j := 1) dX8_take_73 rfl rfl ?_
  refine r_iconst (pc := 74) (v := (1 : Int32)) dX8_take_74 rfl ?_
  refine r_iadd (pc := 75) dX8_take_75 ?_
  refine x_iald (pc := 76) (k := (Int32.toNatClampNeg (v2_ + (1 : Int32)))) rfl h2 rfl dX8_take_76 ?_
  refine x_iast (pc := 77) (j := (Int32.toNatClampNeg v2_)) rfl h3 rfl dX8_take_77 fun σ6 eσ6 => ?_
  replace hr := vthen_inv hr σ6 eσ6
  have hσ6 := wtI eσ6 hσ5
  refine r_iconst (pc := 78) (v := (0 : Int32)) dX8_take_78 rfl ?_
  refine r_istore_n (pc := 79) (ls1 := [(3, .int (0 : Int32)), (0, .ref (ad g 73)), (2, .int v2_)]) dX8_take_79 rfl (nle rfl) rfl ?_
  refine r_pick (ls1 := [(0, .ref (ad g 73)), (2, .int v2_), (3, .int (0 : Int32))]) [1, 2, 0] rfl ?_
  refine sX8_take_L80    (fun σ10 hr hσ10 => ?_) fuel (0 : Int32) σ6 hr hσ6
  refine r_iinc (pc := 117) (j := 1) (v := (v2_ + (1 : Int32))) (ls1 := [(2, .int (v2_ + (1 : Int32))), (0, .ref (ad g 73))]) dX8_take_117 rfl rfl (nle rfl) rfl ?_
  refine r_goto (pc := 120) (tgt := 28) dX8_take_120 rfl ?_
  exact r_pick (ls1 := [(0, .ref (ad g 73)), (2, .int (v2_ + (1 : Int32)))]) [1, 0] rfl (ih (v2_ + (1 : Int32)) σ10 hr hσ10)

set_option maxRecDepth 20000 in
theorem sX8_take {g : GG} {σ : SS} {a1 : Int32} {r : Int32 × SS} (hr : fX8_take σ a1 = some r)  : Ct g mX8_take [.ref (ad g 73), .int a1] NF σ (some (.int r.1)) NF r.2 := by
  refine Ct.of (by decide +kernel) (nle rfl) fun hw0 => ?_
  have hw := hw0 rfl
  unfold fX8_take at hr
  change RR g mX8_take (FinR g mX8_take (some (.int r.1)) NF r.2) zF 0 [(0, .ref (ad g 73)), (1, .int a1)] [] σ
  refine r_iload_n (pc := 0) (j := 1) dX8_take_0 rfl rfl ?_
  refine r_iconst (pc := 1) (v := (0 : Int32)) dX8_take_1 rfl ?_
  refine r_aload_n (pc := 2) (j := 0) dX8_take_2 rfl rfl ?_
  refine gf8_65 (pc := 3) tw_5_159 rfl dX8_take_3 ?_
  refine r_iconst (pc := 6) (v := (1 : Int32)) dX8_take_6 rfl ?_
  refine r_isub (pc := 7) dX8_take_7 ?_
  refine kX8_in (pc := 8) (hf := rfl) tw_6_65 ⟨nle rfl, nle rfl⟩ (nle rfl) dX8_take_8 ?_
  refine r_ifB_ne (pc := 11) (tgt := 16) dX8_take_11 rfl (fun hc => ?_) (fun hc => ?_)
  · replace hr := ite_t hc hr
    refine r_aload_n (pc := 16) (j := 0) dX8_take_16 rfl rfl ?_
    refine r_aload_n (pc := 17) (j := 0) dX8_take_17 rfl rfl ?_
    refine gf8_65 (pc := 18) tw_5_159 rfl dX8_take_18 ?_
    refine r_iconst (pc := 21) (v := (1 : Int32)) dX8_take_21 rfl ?_
    refine r_isub (pc := 22) dX8_take_22 ?_
    refine pf8_65 (pc := 23) tw_5_159 rfl dX8_take_23 fun σ1 eσ1 => ?_
    replace hr := vthen_inv hr σ1 eσ1
    have hσ1 := wtI eσ1 hw
    refine r_iload_n (pc := 26) (j := 1) dX8_take_26 rfl rfl ?_
    refine r_istore_n (pc := 27) (ls1 := [(2, .int a1), (0, .ref (ad g 73)), (1, .int a1)]) dX8_take_27 rfl (nle rfl) rfl ?_
    refine r_pick (ls1 := [(0, .ref (ad g 73)), (2, .int a1)]) [1, 0] rfl ?_
    refine sX8_take_L28     fuel a1 σ1 hr hσ1
  replace hr := ite_f hc hr
  refine r_iconst (pc := 14) (v := (-1 : Int32)) dX8_take_14 rfl ?_
  exact l_osi hr (r_iret (pc := 15) (v := (-1 : Int32)) rfl rfl ⟨Nat.le_refl _, Nat.le_refl _⟩ dX8_take_15)

theorem kX8_take {g : GG} {σ : SS} {a1 : Int32} {v : Int32} {σ2 : SS} {M : MM} {F : State → Array Value → List Frame → State → Prop} {pc index : Nat} {ls : List (Nat × Value)} {rest : List Value} (hf : fX8_take σ a1 = some (v, σ2))  (hl : Cond.methodLink M.1.cls index yX8_take ∈ lw_gt) (hR : mX8_take.2.2.2.2.frames + 1 ≤ M.2.2.2.2.frames ∧ 8 + (mX8_take.2.2.1 + 11) + mX8_take.2.2.2.2.locals ≤ M.2.2.2.2.locals) (hrest : (rest.map fun v => v.category).sum ≤ 8) (hd : decode M.2.1 pc = .ok (.invokevirtual index, 3)) (k : WT σ2 → RR g M F zF (pc + 3) ls (.int v :: rest) σ2) : RR g M F zF pc ls (.int a1 :: .ref (ad g 73) :: rest) σ :=
  r_callV (N := mX8_take) (nn := 1) (o1 := some (.int v)) (sX8_take hf ) (rfl : shp 73 = (8, 0)) (by decide) (shp_le (rfl : shp 73 = (8, 0)) (nle rfl)) (ci := 8) rfl rfl tw_7_218 tw_1_10 hl tw_7_216 tw_7_217 ⟨by decide, by decide, rfl⟩ hR rfl hrest hd ⟨Nat.zero_le _, Nat.zero_le _⟩ rfl (fun h => k (h rfl))

theorem dX7_level_0 : decode cX7_level 0 = .ok (.iconst 1, 1) := by decide +kernel
theorem dX7_level_1 : decode cX7_level 1 = .ok (.istore_n 1, 1) := by decide +kernel
theorem dX7_level_2 : decode cX7_level 2 = .ok (.lconst 0, 1) := by decide +kernel
theorem dX7_level_3 : decode cX7_level 3 = .ok (.lstore_n 2, 1) := by decide +kernel
theorem dX7_level_4 : decode cX7_level 4 = .ok (.lconst 0, 1) := by decide +kernel
theorem dX7_level_5 : decode cX7_level 5 = .ok (.lstore 4, 2) := by decide +kernel
theorem dX7_level_7 : decode cX7_level 7 = .ok (.lconst 1, 1) := by decide +kernel
theorem dX7_level_8 : decode cX7_level 8 = .ok (.lstore 6, 2) := by decide +kernel
theorem dX7_level_10 : decode cX7_level 10 = .ok (.iconst 1, 1) := by decide +kernel
theorem dX7_level_11 : decode cX7_level 11 = .ok (.istore 8, 2) := by decide +kernel
theorem dX7_level_13 : decode cX7_level 13 = .ok (.iload 8, 2) := by decide +kernel
theorem dX7_level_15 : decode cX7_level 15 = .ok (.bipush 9, 2) := by decide +kernel
theorem dX7_level_17 : decode cX7_level 17 = .ok (.if_icmp .gt 149, 3) := by decide +kernel
theorem dX7_level_20 : decode cX7_level 20 = .ok (.aload_n 0, 1) := by decide +kernel
theorem dX7_level_21 : decode cX7_level 21 = .ok (.getfield 18, 3) := by decide +kernel
theorem dX7_level_24 : decode cX7_level 24 = .ok (.iload 8, 2) := by decide +kernel
theorem dX7_level_26 : decode cX7_level 26 = .ok (.invokevirtual 114, 3) := by decide +kernel
theorem dX7_level_29 : decode cX7_level 29 = .ok (.i2l, 1) := by decide +kernel
theorem dX7_level_30 : decode cX7_level 30 = .ok (.lstore 9, 2) := by decide +kernel
theorem dX7_level_32 : decode cX7_level 32 = .ok (.aload_n 0, 1) := by decide +kernel
theorem dX7_level_33 : decode cX7_level 33 = .ok (.getfield 18, 3) := by decide +kernel
theorem dX7_level_36 : decode cX7_level 36 = .ok (.invokevirtual 403, 3) := by decide +kernel
theorem dX7_level_39 : decode cX7_level 39 = .ok (.i2l, 1) := by decide +kernel
theorem dX7_level_40 : decode cX7_level 40 = .ok (.lload 9, 2) := by decide +kernel
theorem dX7_level_42 : decode cX7_level 42 = .ok (.lsub, 1) := by decide +kernel
theorem dX7_level_43 : decode cX7_level 43 = .ok (.lstore 11, 2) := by decide +kernel
theorem dX7_level_45 : decode cX7_level 45 = .ok (.aload_n 0, 1) := by decide +kernel
theorem dX7_level_46 : decode cX7_level 46 = .ok (.getfield 18, 3) := by decide +kernel
theorem dX7_level_49 : decode cX7_level 49 = .ok (.iload 8, 2) := by decide +kernel
theorem dX7_level_51 : decode cX7_level 51 = .ok (.invokevirtual 118, 3) := by decide +kernel
theorem dX7_level_54 : decode cX7_level 54 = .ok (.i2l, 1) := by decide +kernel
theorem dX7_level_55 : decode cX7_level 55 = .ok (.lstore 13, 2) := by decide +kernel
theorem dX7_level_57 : decode cX7_level 57 = .ok (.aload_n 0, 1) := by decide +kernel
theorem dX7_level_58 : decode cX7_level 58 = .ok (.getfield 18, 3) := by decide +kernel
theorem dX7_level_61 : decode cX7_level 61 = .ok (.iconst 0, 1) := by decide +kernel
theorem dX7_level_62 : decode cX7_level 62 = .ok (.invokevirtual 118, 3) := by decide +kernel
theorem dX7_level_65 : decode cX7_level 65 = .ok (.i2l, 1) := by decide +kernel
theorem dX7_level_66 : decode cX7_level 66 = .ok (.lload 13, 2) := by decide +kernel
theorem dX7_level_68 : decode cX7_level 68 = .ok (.lsub, 1) := by decide +kernel
theorem dX7_level_69 : decode cX7_level 69 = .ok (.lstore 15, 2) := by decide +kernel
theorem dX7_level_71 : decode cX7_level 71 = .ok (.lload 11, 2) := by decide +kernel
theorem dX7_level_73 : decode cX7_level 73 = .ok (.lload 9, 2) := by decide +kernel
theorem dX7_level_75 : decode cX7_level 75 = .ok (.lmul, 1) := by decide +kernel
theorem dX7_level_76 : decode cX7_level 76 = .ok (.lstore 17, 2) := by decide +kernel
theorem dX7_level_78 : decode cX7_level 78 = .ok (.lload 17, 2) := by decide +kernel
theorem dX7_level_80 : decode cX7_level 80 = .ok (.lconst 0, 1) := by decide +kernel
theorem dX7_level_81 : decode cX7_level 81 = .ok (.lcmp, 1) := by decide +kernel
theorem dX7_level_82 : decode cX7_level 82 = .ok (.ifCond .le 78, 3) := by decide +kernel
theorem dX7_level_85 : decode cX7_level 85 = .ok (.lload 13, 2) := by decide +kernel
theorem dX7_level_87 : decode cX7_level 87 = .ok (.lload 11, 2) := by decide +kernel
theorem dX7_level_89 : decode cX7_level 89 = .ok (.lmul, 1) := by decide +kernel
theorem dX7_level_90 : decode cX7_level 90 = .ok (.lload 15, 2) := by decide +kernel
theorem dX7_level_92 : decode cX7_level 92 = .ok (.lload 9, 2) := by decide +kernel
theorem dX7_level_94 : decode cX7_level 94 = .ok (.lmul, 1) := by decide +kernel
theorem dX7_level_95 : decode cX7_level 95 = .ok (.lsub, 1) := by decide +kernel
theorem dX7_level_96 : decode cX7_level 96 = .ok (.lstore 19, 2) := by decide +kernel
theorem dX7_level_98 : decode cX7_level 98 = .ok (.lload 19, 2) := by decide +kernel
theorem dX7_level_100 : decode cX7_level 100 = .ok (.lload 19, 2) := by decide +kernel
theorem dX7_level_102 : decode cX7_level 102 = .ok (.lmul, 1) := by decide +kernel
theorem dX7_level_103 : decode cX7_level 103 = .ok (.lload 17, 2) := by decide +kernel
theorem dX7_level_105 : decode cX7_level 105 = .ok (.ldiv, 1) := by decide +kernel
theorem dX7_level_106 : decode cX7_level 106 = .ok (.lstore 21, 2) := by decide +kernel
theorem dX7_level_108 : decode cX7_level 108 = .ok (.lload 19, 2) := by decide +kernel
theorem dX7_level_110 : decode cX7_level 110 = .ok (.lload 19, 2) := by decide +kernel
theorem dX7_level_112 : decode cX7_level 112 = .ok (.lmul, 1) := by decide +kernel
theorem dX7_level_113 : decode cX7_level 113 = .ok (.lload 17, 2) := by decide +kernel
theorem dX7_level_115 : decode cX7_level 115 = .ok (.lrem, 1) := by decide +kernel
theorem dX7_level_116 : decode cX7_level 116 = .ok (.lstore 23, 2) := by decide +kernel
theorem dX7_level_118 : decode cX7_level 118 = .ok (.lload 21, 2) := by decide +kernel
theorem dX7_level_120 : decode cX7_level 120 = .ok (.lload_n 2, 1) := by decide +kernel
theorem dX7_level_121 : decode cX7_level 121 = .ok (.lcmp, 1) := by decide +kernel
theorem dX7_level_122 : decode cX7_level 122 = .ok (.ifCond .gt 24, 3) := by decide +kernel
theorem dX7_level_125 : decode cX7_level 125 = .ok (.lload 21, 2) := by decide +kernel
theorem dX7_level_127 : decode cX7_level 127 = .ok (.lload_n 2, 1) := by decide +kernel
theorem dX7_level_128 : decode cX7_level 128 = .ok (.lcmp, 1) := by decide +kernel
theorem dX7_level_129 : decode cX7_level 129 = .ok (.ifCond .ne 31, 3) := by decide +kernel
theorem dX7_level_132 : decode cX7_level 132 = .ok (.lload 23, 2) := by decide +kernel
theorem dX7_level_134 : decode cX7_level 134 = .ok (.lload 6, 2) := by decide +kernel
theorem dX7_level_136 : decode cX7_level 136 = .ok (.lmul, 1) := by decide +kernel
theorem dX7_level_137 : decode cX7_level 137 = .ok (.lload 4, 2) := by decide +kernel
theorem dX7_level_139 : decode cX7_level 139 = .ok (.lload 17, 2) := by decide +kernel
theorem dX7_level_141 : decode cX7_level 141 = .ok (.lmul, 1) := by decide +kernel
theorem dX7_level_142 : decode cX7_level 142 = .ok (.lcmp, 1) := by decide +kernel
theorem dX7_level_143 : decode cX7_level 143 = .ok (.ifCond .le 17, 3) := by decide +kernel
theorem dX7_level_146 : decode cX7_level 146 = .ok (.iload 8, 2) := by decide +kernel
theorem dX7_level_148 : decode cX7_level 148 = .ok (.istore_n 1, 1) := by decide +kernel
theorem dX7_level_149 : decode cX7_level 149 = .ok (.lload 21, 2) := by decide +kernel
theorem dX7_level_151 : decode cX7_level 151 = .ok (.lstore_n 2, 1) := by decide +kernel
theorem dX7_level_152 : decode cX7_level 152 = .ok (.lload 23, 2) := by decide +kernel
theorem dX7_level_154 : decode cX7_level 154 = .ok (.lstore 4, 2) := by decide +kernel
theorem dX7_level_156 : decode cX7_level 156 = .ok (.lload 17, 2) := by decide +kernel
theorem dX7_level_158 : decode cX7_level 158 = .ok (.lstore 6, 2) := by decide +kernel
theorem dX7_level_160 : decode cX7_level 160 = .ok (.iinc 8 1, 3) := by decide +kernel
theorem dX7_level_163 : decode cX7_level 163 = .ok (.goto (-150), 3) := by decide +kernel
theorem dX7_level_166 : decode cX7_level 166 = .ok (.iload_n 1, 1) := by decide +kernel
theorem dX7_level_167 : decode cX7_level 167 = .ok (.ireturn, 1) := by decide +kernel
def mX7_level : MM := (yX7_level, cX7_level, 25, Option.some Jvm.ClassFile.FieldType.int, { frames := 1, cells := 0, slots := 0, locals := 23 })
def X7_level_L13 (σ_ : SS)   : Nat → Int32 → Int64 → Int64 → Int64 → Int32 → Option Int32 :=
  lp (fun _ _ _ _ _ => none) fun rec v1_ w2_ w4_ w6_ v8_ =>
    if (9 : Int32) < v8_ then (
      some v1_
      ) else (
      bnd1 (fX6_notBelow σ_ (gR σ_ 1 2) v8_) fun v1 =>
      vthen (Int32.toInt64 v1) fun w4 =>
      vthen ((Int32.toInt64 (fX6_size σ_ (gR σ_ 1 2))) - w4) fun w5 =>
      bnd1 (fX6_sumNotBelow σ_ (gR σ_ 1 2) v8_) fun v6 =>
      vthen (Int32.toInt64 v6) fun w9 =>
      bnd1 (fX6_sumNotBelow σ_ (gR σ_ 1 2) (0 : Int32)) fun v10 =>
      vthen ((Int32.toInt64 v10) - w9) fun w13 =>
      vthen (w5 * w4) fun w14 =>
      if (lg_cmp w14 (0 : Int64)) ≤ 0 then (
        rec v1_ w2_ w4_ w6_ (v8_ + (1 : Int32))
        ) else (
        vthen ((w9 * w5) - (w13 * w4)) fun w15 =>
        grd (nzl w14) <|
        vthen ((w15 * w15) / w14) fun w17 =>
        vthen (lrm (w15 * w15) w14) fun w18 =>
        vthen (fun (_u : Unit) =>
          rec v8_ w17 w18 w14 (v8_ + (1 : Int32))
          ) fun j146 =>
        if 0 < (lg_cmp w17 w2_) then (
          j146 ()
          ) else (
          if (lg_cmp w17 w2_) = 0 then (
            if (lg_cmp (w18 * w6_) (w4_ * w14)) ≤ 0 then (
              rec v1_ w2_ w4_ w6_ (v8_ + (1 : Int32))
              ) else (
              j146 ()
              )
            ) else (
            rec v1_ w2_ w4_ w6_ (v8_ + (1 : Int32))
            )
          )
        )
      )

def fX7_level (σ0 : SS)  : Option Int32 :=
  X7_level_L13 σ0
  fuel (1 : Int32) (0 : Int64) (0 : Int64) (1 : Int64) (1 : Int32)

set_option maxRecDepth 20000 in
theorem sX7_level_L13 {g : GG} {r : Int32} {σ_ : SS} {σ0 : SS}   
    (hw_ : WT σ_)
    (h0_ : σ_ = σ0)
    (n : Nat) : ∀ (v1_ : Int32) (w2_ : Int64) (w4_ : Int64) (w6_ : Int64) (v8_ : Int32), X7_level_L13 σ_ n v1_ w2_ w4_ w6_ v8_ = some r → RR g mX7_level (FinR g mX7_level (some (.int r)) NF σ0) zF 13 [(0, .ref (ad g 1)), (1, .int v1_), (2, .long w2_), (4, .long w4_), (6, .long w6_), (8, .int v8_)] [] σ_ := by
  unfold X7_level_L13
  refine lp_ind (P := fun (rec : Int32 → Int64 → Int64 → Int64 → Int32 → Option Int32) => ∀ (v1_ : Int32) (w2_ : Int64) (w4_ : Int64) (w6_ : Int64) (v8_ : Int32), rec v1_ w2_ w4_ w6_ v8_ = some r → RR g mX7_level (FinR g mX7_level (some (.int r)) NF σ0) zF 13 [(0, .ref (ad g 1)), (1, .int v1_), (2, .long w2_), (4, .long w4_), (6, .long w6_), (8, .int v8_)] [] σ_) ?_ ?_ n
  · intro v1_ w2_ w4_ w6_ v8_ hr; cases hr
  intro rec ih v1_ w2_ w4_ w6_ v8_ hr
  subst h0_
  refine r_iload (pc := 13) (j := 5) dX7_level_13 rfl ?_
  refine r_bipush (pc := 15) (v := (9 : Int32)) dX7_level_15 rfl ?_
  refine r_icmp_gt (pc := 17) (tgt := 166) dX7_level_17 rfl (fun hc => ?_) (fun hc => ?_)
  · replace hr := ite_t hc hr
    refine r_iload_n (pc := 166) (j := 1) dX7_level_166 rfl rfl ?_
    exact l_opi hr (r_iret (pc := 167) (v := v1_) rfl rfl ⟨Nat.le_refl _, Nat.le_refl _⟩ dX7_level_167)
  replace hr := ite_f hc hr
  refine r_aload_n (pc := 20) (j := 0) dX7_level_20 rfl rfl ?_
  refine gf7_2 (pc := 21) tw_2_111 hw_ dX7_level_21 ?_
  refine r_iload (pc := 24) (j := 5) dX7_level_24 rfl ?_
  obtain ⟨v1, hv1, hr⟩ := bnd1_inv hr
  refine kX6_notBelow (pc := 26) hv1 (wt_sc hw_).1 tw_3_75 ⟨nle rfl, nle rfl⟩ (nle rfl) dX7_level_26 ?_
  refine r_i2l (pc := 29) dX7_level_29 ?_
  refine r_topl fun w4 ew4 => ?_
  replace hr := vthen_inv hr w4 ew4
  refine r_lstore (pc := 30) (ls1 := [(9, .long w4), (0, .ref (ad g 1)), (1, .int v1_), (2, .long w2_), (4, .long w4_), (6, .long w6_), (8, .int v8_)]) dX7_level_30 (nle rfl) rfl ?_
  refine r_aload_n (pc := 32) (j := 1) dX7_level_32 rfl rfl ?_
  refine gf7_2 (pc := 33) tw_2_111 hw_ dX7_level_33 ?_
  refine kX6_size (pc := 36) (hf := rfl) (wt_sc hw_).1 tw_5_87 ⟨nle rfl, nle rfl⟩ (nle rfl) dX7_level_36 ?_
  refine r_i2l (pc := 39) dX7_level_39 ?_
  refine r_lload (pc := 40) (j := 0) dX7_level_40 rfl ?_
  refine r_lsub (pc := 42) dX7_level_42 ?_
  refine r_topl fun w5 ew5 => ?_
  replace hr := vthen_inv hr w5 ew5
  refine r_lstore (pc := 43) (ls1 := [(11, .long w5), (9, .long w4), (0, .ref (ad g 1)), (1, .int v1_), (2, .long w2_), (4, .long w4_), (6, .long w6_), (8, .int v8_)]) dX7_level_43 (nle rfl) rfl ?_
  refine r_aload_n (pc := 45) (j := 2) dX7_level_45 rfl rfl ?_
  refine gf7_2 (pc := 46) tw_2_111 hw_ dX7_level_46 ?_
  refine r_iload (pc := 49) (j := 7) dX7_level_49 rfl ?_
  obtain ⟨v6, hv6, hr⟩ := bnd1_inv hr
  refine kX6_sumNotBelow (pc := 51) hv6 (wt_sc hw_).1 tw_3_79 ⟨nle rfl, nle rfl⟩ (nle rfl) dX7_level_51 ?_
  refine r_i2l (pc := 54) dX7_level_54 ?_
  refine r_topl fun w9 ew9 => ?_
  replace hr := vthen_inv hr w9 ew9
  refine r_lstore (pc := 55) (ls1 := [(13, .long w9), (11, .long w5), (9, .long w4), (0, .ref (ad g 1)), (1, .int v1_), (2, .long w2_), (4, .long w4_), (6, .long w6_), (8, .int v8_)]) dX7_level_55 (nle rfl) rfl ?_
  refine r_aload_n (pc := 57) (j := 3) dX7_level_57 rfl rfl ?_
  refine gf7_2 (pc := 58) tw_2_111 hw_ dX7_level_58 ?_
  refine r_iconst (pc := 61) (v := (0 : Int32)) dX7_level_61 rfl ?_
  obtain ⟨v10, hv10, hr⟩ := bnd1_inv hr
  refine kX6_sumNotBelow (pc := 62) hv10 (wt_sc hw_).1 tw_3_79 ⟨nle rfl, nle rfl⟩ (nle rfl) dX7_level_62 ?_
  refine r_i2l (pc := 65) dX7_level_65 ?_
  refine r_lload (pc := 66) (j := 0) dX7_level_66 rfl ?_
  refine r_lsub (pc := 68) dX7_level_68 ?_
  refine r_topl fun w13 ew13 => ?_
  replace hr := vthen_inv hr w13 ew13
  refine r_lstore (pc := 69) (ls1 := [(15, .long w13), (13, .long w9), (11, .long w5), (9, .long w4), (0, .ref (ad g 1)), (1, .int v1_), (2, .long w2_), (4, .long w4_), (6, .long w6_), (8, .int v8_)]) dX7_level_69 (nle rfl) rfl ?_
  refine r_lload (pc := 71) (j := 2) dX7_level_71 rfl ?_
  refine r_lload (pc := 73) (j := 3) dX7_level_73 rfl ?_
  refine r_lmul (pc := 75) dX7_level_75 ?_
  refine r_topl fun w14 ew14 => ?_
  replace hr := vthen_inv hr w14 ew14
  refine r_lstore (pc := 76) (ls1 := [(17, .long w14), (15, .long w13), (13, .long w9), (11, .long w5), (9, .long w4), (0, .ref (ad g 1)), (1, .int v1_), (2, .long w2_), (4, .long w4_), (6, .long w6_), (8, .int v8_)]) dX7_level_76 (nle rfl) rfl ?_
  refine r_lload (pc := 78) (j := 0) dX7_level_78 rfl ?_
  refine r_lconst (pc := 80) (v := (0 : Int64)) dX7_level_80 rfl ?_
  refine r_lcmp (pc := 81) dX7_level_81 ?_
  refine r_if_le (pc := 82) (tgt := 160) dX7_level_82 rfl (fun hc => ?_) (fun hc => ?_)
  · replace hr := ite_t hc hr
    refine r_iinc (pc := 160) (j := 10) (v := (v8_ + (1 : Int32))) (ls1 := [(8, .int (v8_ + (1 : Int32))), (17, .long w14), (15, .long w13), (13, .long w9), (11, .long w5), (9, .long w4), (0, .ref (ad g 1)), (1, .int v1_), (2, .long w2_), (4, .long w4_), (6, .long w6_)]) dX7_level_160 rfl rfl (nle rfl) rfl ?_
    refine r_goto (pc := 163) (tgt := 13) dX7_level_163 rfl ?_
    exact r_pick (ls1 := [(0, .ref (ad g 1)), (1, .int v1_), (2, .long w2_), (4, .long w4_), (6, .long w6_), (8, .int (v8_ + (1 : Int32)))]) [6, 7, 8, 9, 10, 0] rfl (ih v1_ w2_ w4_ w6_ (v8_ + (1 : Int32)) hr)
  replace hr := ite_f hc hr
  refine r_lload (pc := 85) (j := 2) dX7_level_85 rfl ?_
  refine r_lload (pc := 87) (j := 3) dX7_level_87 rfl ?_
  refine r_lmul (pc := 89) dX7_level_89 ?_
  refine r_lload (pc := 90) (j := 1) dX7_level_90 rfl ?_
  refine r_lload (pc := 92) (j := 4) dX7_level_92 rfl ?_
  refine r_lmul (pc := 94) dX7_level_94 ?_
  refine r_lsub (pc := 95) dX7_level_95 ?_
  refine r_topl fun w15 ew15 => ?_
  replace hr := vthen_inv hr w15 ew15
  refine r_lstore (pc := 96) (ls1 := [(19, .long w15), (17, .long w14), (15, .long w13), (13, .long w9), (11, .long w5), (9, .long w4), (0, .ref (ad g 1)), (1, .int v1_), (2, .long w2_), (4, .long w4_), (6, .long w6_), (8, .int v8_)]) dX7_level_96 (nle rfl) rfl ?_
  refine r_lload (pc := 98) (j := 0) dX7_level_98 rfl ?_
  refine r_lload (pc := 100) (j := 0) dX7_level_100 rfl ?_
  refine r_lmul (pc := 102) dX7_level_102 ?_
  refine r_lload (pc := 103) (j := 1) dX7_level_103 rfl ?_
  obtain ⟨h16, hr⟩ := grd_inv hr
  refine r_ldiv (pc := 105) dX7_level_105 (nzl_ne h16) ?_
  refine r_topl fun w17 ew17 => ?_
  replace hr := vthen_inv hr w17 ew17
  refine r_lstore (pc := 106) (ls1 := [(21, .long w17), (19, .long w15), (17, .long w14), (15, .long w13), (13, .long w9), (11, .long w5), (9, .long w4), (0, .ref (ad g 1)), (1, .int v1_), (2, .long w2_), (4, .long w4_), (6, .long w6_), (8, .int v8_)]) dX7_level_106 (nle rfl) rfl ?_
  refine r_lload (pc := 108) (j := 1) dX7_level_108 rfl ?_
  refine r_lload (pc := 110) (j := 1) dX7_level_110 rfl ?_
  refine r_lmul (pc := 112) dX7_level_112 ?_
  refine r_lload (pc := 113) (j := 2) dX7_level_113 rfl ?_
  refine r_lrem (pc := 115) dX7_level_115 (nzl_ne h16) ?_
  refine r_topl fun w18 ew18 => ?_
  replace hr := vthen_inv hr w18 ew18
  refine r_lstore (pc := 116) (ls1 := [(23, .long w18), (21, .long w17), (19, .long w15), (17, .long w14), (15, .long w13), (13, .long w9), (11, .long w5), (9, .long w4), (0, .ref (ad g 1)), (1, .int v1_), (2, .long w2_), (4, .long w4_), (6, .long w6_), (8, .int v8_)]) dX7_level_116 (nle rfl) rfl ?_
  refine r_lload (pc := 118) (j := 1) dX7_level_118 rfl ?_
  refine r_lload_n (pc := 120) (j := 10) dX7_level_120 rfl rfl ?_
  refine r_lcmp (pc := 121) dX7_level_121 ?_
  obtain ⟨j146, ej146, hr⟩ := vth_ex hr
  have hj146 : j146 () = some r → RR g mX7_level (FinR g mX7_level (some (.int r)) NF σ_) zF 146 [(0, .ref (ad g 1)), (8, .int v8_), (17, .long w14), (21, .long w17), (23, .long w18)] [] σ_ := by
    intro  hr
    replace hr := (congrFun ej146 ()).symm.trans hr
    refine r_iload (pc := 146) (j := 1) dX7_level_146 rfl ?_
    refine r_istore_n (pc := 148) (ls1 := [(1, .int v8_), (0, .ref (ad g 1)), (8, .int v8_), (17, .long w14), (21, .long w17), (23, .long w18)]) dX7_level_148 rfl (nle rfl) rfl ?_
    refine r_lload (pc := 149) (j := 4) dX7_level_149 rfl ?_
    refine r_lstore_n (pc := 151) (ls1 := [(2, .long w17), (1, .int v8_), (0, .ref (ad g 1)), (8, .int v8_), (17, .long w14), (21, .long w17), (23, .long w18)]) dX7_level_151 rfl (nle rfl) rfl ?_
    refine r_lload (pc := 152) (j := 6) dX7_level_152 rfl ?_
    refine r_lstore (pc := 154) (ls1 := [(4, .long w18), (2, .long w17), (1, .int v8_), (0, .ref (ad g 1)), (8, .int v8_), (17, .long w14), (21, .long w17), (23, .long w18)]) dX7_level_154 (nle rfl) rfl ?_
    refine r_lload (pc := 156) (j := 5) dX7_level_156 rfl ?_
    refine r_lstore (pc := 158) (ls1 := [(6, .long w14), (4, .long w18), (2, .long w17), (1, .int v8_), (0, .ref (ad g 1)), (8, .int v8_), (17, .long w14), (21, .long w17), (23, .long w18)]) dX7_level_158 (nle rfl) rfl ?_
    refine r_iinc (pc := 160) (j := 5) (v := (v8_ + (1 : Int32))) (ls1 := [(8, .int (v8_ + (1 : Int32))), (6, .long w14), (4, .long w18), (2, .long w17), (1, .int v8_), (0, .ref (ad g 1)), (17, .long w14), (21, .long w17), (23, .long w18)]) dX7_level_160 rfl rfl (nle rfl) rfl ?_
    refine r_goto (pc := 163) (tgt := 13) dX7_level_163 rfl ?_
    exact r_pick (ls1 := [(0, .ref (ad g 1)), (1, .int v8_), (2, .long w17), (4, .long w18), (6, .long w14), (8, .int (v8_ + (1 : Int32)))]) [5, 4, 3, 2, 1, 0] rfl (ih v8_ w17 w18 w14 (v8_ + (1 : Int32)) hr)
  refine r_if_gt (pc := 122) (tgt := 146) dX7_level_122 rfl (fun hc => ?_) (fun hc => ?_)
  · replace hr := ite_t hc hr
    exact r_pick (ls1 := [(0, .ref (ad g 1)), (8, .int v8_), (17, .long w14), (21, .long w17), (23, .long w18)]) [8, 13, 3, 1, 0] rfl (hj146  hr)
  replace hr := ite_f hc hr
  refine r_lload (pc := 125) (j := 1) dX7_level_125 rfl ?_
  refine r_lload_n (pc := 127) (j := 10) dX7_level_127 rfl rfl ?_
  refine r_lcmp (pc := 128) dX7_level_128 ?_
  refine r_if_ne (pc := 129) (tgt := 160) dX7_level_129 rfl (fun hc => ?_) (fun hc => ?_)
  · replace hr := ite_f hc hr
    refine r_iinc (pc := 160) (j := 13) (v := (v8_ + (1 : Int32))) (ls1 := [(8, .int (v8_ + (1 : Int32))), (23, .long w18), (21, .long w17), (19, .long w15), (17, .long w14), (15, .long w13), (13, .long w9), (11, .long w5), (9, .long w4), (0, .ref (ad g 1)), (1, .int v1_), (2, .long w2_), (4, .long w4_), (6, .long w6_)]) dX7_level_160 rfl rfl (nle rfl) rfl ?_
    refine r_goto (pc := 163) (tgt := 13) dX7_level_163 rfl ?_
    exact r_pick (ls1 := [(0, .ref (ad g 1)), (1, .int v1_), (2, .long w2_), (4, .long w4_), (6, .long w6_), (8, .int (v8_ + (1 : Int32)))]) [9, 10, 11, 12, 13, 0] rfl (ih v1_ w2_ w4_ w6_ (v8_ + (1 : Int32)) hr)
  replace hr := ite_t hc hr
  refine r_lload (pc := 132) (j := 0) dX7_level_132 rfl ?_
  refine r_lload (pc := 134) (j := 12) dX7_level_134 rfl ?_
  refine r_lmul (pc := 136) dX7_level_136 ?_
  refine r_lload (pc := 137) (j := 11) dX7_level_137 rfl ?_
  refine r_lload (pc := 139) (j := 3) dX7_level_139 rfl ?_
  refine r_lmul (pc := 141) dX7_level_141 ?_
  refine r_lcmp (pc := 142) dX7_level_142 ?_
  refine r_if_le (pc := 143) (tgt := 160) dX7_level_143 rfl (fun hc => ?_) (fun hc => ?_)
  · replace hr := ite_t hc hr
    refine r_iinc (pc := 160) (j := 13) (v := (v8_ + (1 : Int32))) (ls1 := [(8, .int (v8_ + (1 : Int32))), (23, .long w18), (21, .long w17), (19, .long w15), (17, .long w14), (15, .long w13), (13, .long w9), (11, .long w5), (9, .long w4), (0, .ref (ad g 1)), (1, .int v1_), (2, .long w2_), (4, .long w4_), (6, .long w6_)]) dX7_level_160 rfl rfl (nle rfl) rfl ?_
    refine r_goto (pc := 163) (tgt := 13) dX7_level_163 rfl ?_
    exact r_pick (ls1 := [(0, .ref (ad g 1)), (1, .int v1_), (2, .long w2_), (4, .long w4_), (6, .long w6_), (8, .int (v8_ + (1 : Int32)))]) [9, 10, 11, 12, 13, 0] rfl (ih v1_ w2_ w4_ w6_ (v8_ + (1 : Int32)) hr)
  replace hr := ite_f hc hr
  exact r_pick (ls1 := [(0, .ref (ad g 1)), (8, .int v8_), (17, .long w14), (21, .long w17), (23, .long w18)]) [8, 13, 3, 1, 0] rfl (hj146  hr)

set_option maxRecDepth 20000 in
theorem sX7_level {g : GG} {σ0 : SS}  {r : Int32} (hr : fX7_level σ0 = some r)  : Ct g mX7_level [.ref (ad g 1)] NF σ0 (some (.int r)) NF σ0 := by
  refine Ct.of (by decide +kernel) (nle rfl) fun hw0 => ?_
  have hw := hw0 rfl
  unfold fX7_level at hr
  change RR g mX7_level (FinR g mX7_level (some (.int r)) NF σ0) zF 0 [(0, .ref (ad g 1))] [] σ0
  refine r_iconst (pc := 0) (v := (1 : Int32)) dX7_level_0 rfl ?_
  refine r_istore_n (pc := 1) (ls1 := [(1, .int (1 : Int32)), (0, .ref (ad g 1))]) dX7_level_1 rfl (nle rfl) rfl ?_
  refine r_lconst (pc := 2) (v := (0 : Int64)) dX7_level_2 rfl ?_
  refine r_lstore_n (pc := 3) (ls1 := [(2, .long (0 : Int64)), (1, .int (1 : Int32)), (0, .ref (ad g 1))]) dX7_level_3 rfl (nle rfl) rfl ?_
  refine r_lconst (pc := 4) (v := (0 : Int64)) dX7_level_4 rfl ?_
  refine r_lstore (pc := 5) (ls1 := [(4, .long (0 : Int64)), (2, .long (0 : Int64)), (1, .int (1 : Int32)), (0, .ref (ad g 1))]) dX7_level_5 (nle rfl) rfl ?_
  refine r_lconst (pc := 7) (v := (1 : Int64)) dX7_level_7 rfl ?_
  refine r_lstore (pc := 8) (ls1 := [(6, .long (1 : Int64)), (4, .long (0 : Int64)), (2, .long (0 : Int64)), (1, .int (1 : Int32)), (0, .ref (ad g 1))]) dX7_level_8 (nle rfl) rfl ?_
  refine r_iconst (pc := 10) (v := (1 : Int32)) dX7_level_10 rfl ?_
  refine r_istore (pc := 11) (ls1 := [(8, .int (1 : Int32)), (6, .long (1 : Int64)), (4, .long (0 : Int64)), (2, .long (0 : Int64)), (1, .int (1 : Int32)), (0, .ref (ad g 1))]) dX7_level_11 (nle rfl) rfl ?_
  refine r_pick (ls1 := [(0, .ref (ad g 1)), (1, .int (1 : Int32)), (2, .long (0 : Int64)), (4, .long (0 : Int64)), (6, .long (1 : Int64)), (8, .int (1 : Int32))]) [5, 4, 3, 2, 1, 0] rfl ?_
  refine sX7_level_L13  hw rfl  fuel (1 : Int32) (0 : Int64) (0 : Int64) (1 : Int64) (1 : Int32) hr

theorem kX7_level {g : GG} {σ0 : SS}  {v : Int32} {M : MM} {F : State → Array Value → List Frame → State → Prop} {pc index : Nat} {ls : List (Nat × Value)} {rest : List Value} (hf : fX7_level σ0 = some v)  (hl : Cond.methodLink M.1.cls index yX7_level ∈ lw_gt) (hR : mX7_level.2.2.2.2.frames + 1 ≤ M.2.2.2.2.frames ∧ 8 + (mX7_level.2.2.1 + 11) + mX7_level.2.2.2.2.locals ≤ M.2.2.2.2.locals) (hrest : (rest.map fun v => v.category).sum ≤ 8) (hd : decode M.2.1 pc = .ok (.invokevirtual index, 3)) (k : RR g M F zF (pc + 3) ls (.int v :: rest) σ0) : RR g M F zF pc ls (.ref (ad g 1) :: rest) σ0 :=
  r_callV (N := mX7_level) (nn := 0) (o1 := some (.int v)) (sX7_level hf ) (rfl : shp 1 = (7, 0)) (by decide) (shp_le (rfl : shp 1 = (7, 0)) (nle rfl)) (ci := 7) rfl rfl tw_5_86 tw_1_1 hl tw_5_84 tw_5_85 ⟨by decide, by decide, rfl⟩ hR rfl hrest hd ⟨Nat.zero_le _, Nat.zero_le _⟩ rfl (fun h => k)

theorem dX8_level_0 : decode cX8_level 0 = .ok (.iconst 1, 1) := by decide +kernel
theorem dX8_level_1 : decode cX8_level 1 = .ok (.istore_n 1, 1) := by decide +kernel
theorem dX8_level_2 : decode cX8_level 2 = .ok (.lconst 0, 1) := by decide +kernel
theorem dX8_level_3 : decode cX8_level 3 = .ok (.lstore_n 2, 1) := by decide +kernel
theorem dX8_level_4 : decode cX8_level 4 = .ok (.lconst 0, 1) := by decide +kernel
theorem dX8_level_5 : decode cX8_level 5 = .ok (.lstore 4, 2) := by decide +kernel
theorem dX8_level_7 : decode cX8_level 7 = .ok (.lconst 1, 1) := by decide +kernel
theorem dX8_level_8 : decode cX8_level 8 = .ok (.lstore 6, 2) := by decide +kernel
theorem dX8_level_10 : decode cX8_level 10 = .ok (.iconst 1, 1) := by decide +kernel
theorem dX8_level_11 : decode cX8_level 11 = .ok (.istore 8, 2) := by decide +kernel
theorem dX8_level_13 : decode cX8_level 13 = .ok (.iload 8, 2) := by decide +kernel
theorem dX8_level_15 : decode cX8_level 15 = .ok (.bipush 10, 2) := by decide +kernel
theorem dX8_level_17 : decode cX8_level 17 = .ok (.if_icmp .ge 198, 3) := by decide +kernel
theorem dX8_level_20 : decode cX8_level 20 = .ok (.lconst 0, 1) := by decide +kernel
theorem dX8_level_21 : decode cX8_level 21 = .ok (.lstore 9, 2) := by decide +kernel
theorem dX8_level_23 : decode cX8_level 23 = .ok (.lconst 0, 1) := by decide +kernel
theorem dX8_level_24 : decode cX8_level 24 = .ok (.lstore 11, 2) := by decide +kernel
theorem dX8_level_26 : decode cX8_level 26 = .ok (.lconst 0, 1) := by decide +kernel
theorem dX8_level_27 : decode cX8_level 27 = .ok (.lstore 13, 2) := by decide +kernel
theorem dX8_level_29 : decode cX8_level 29 = .ok (.iconst 0, 1) := by decide +kernel
theorem dX8_level_30 : decode cX8_level 30 = .ok (.istore 15, 2) := by decide +kernel
theorem dX8_level_32 : decode cX8_level 32 = .ok (.iload 15, 2) := by decide +kernel
theorem dX8_level_34 : decode cX8_level 34 = .ok (.aload_n 0, 1) := by decide +kernel
theorem dX8_level_35 : decode cX8_level 35 = .ok (.invokevirtual 275, 3) := by decide +kernel
theorem dX8_level_38 : decode cX8_level 38 = .ok (.if_icmp .ge 56, 3) := by decide +kernel
theorem dX8_level_41 : decode cX8_level 41 = .ok (.lload 13, 2) := by decide +kernel
theorem dX8_level_43 : decode cX8_level 43 = .ok (.aload_n 0, 1) := by decide +kernel
theorem dX8_level_44 : decode cX8_level 44 = .ok (.getfield 38, 3) := by decide +kernel
theorem dX8_level_47 : decode cX8_level 47 = .ok (.iload 15, 2) := by decide +kernel
theorem dX8_level_49 : decode cX8_level 49 = .ok (.iaload, 1) := by decide +kernel
theorem dX8_level_50 : decode cX8_level 50 = .ok (.i2l, 1) := by decide +kernel
theorem dX8_level_51 : decode cX8_level 51 = .ok (.ladd, 1) := by decide +kernel
theorem dX8_level_52 : decode cX8_level 52 = .ok (.lstore 13, 2) := by decide +kernel
theorem dX8_level_54 : decode cX8_level 54 = .ok (.aload_n 0, 1) := by decide +kernel
theorem dX8_level_55 : decode cX8_level 55 = .ok (.getfield 38, 3) := by decide +kernel
theorem dX8_level_58 : decode cX8_level 58 = .ok (.iload 15, 2) := by decide +kernel
theorem dX8_level_60 : decode cX8_level 60 = .ok (.iaload, 1) := by decide +kernel
theorem dX8_level_61 : decode cX8_level 61 = .ok (.iload 8, 2) := by decide +kernel
theorem dX8_level_63 : decode cX8_level 63 = .ok (.if_icmp .lt 6, 3) := by decide +kernel
theorem dX8_level_66 : decode cX8_level 66 = .ok (.goto 22, 3) := by decide +kernel
theorem dX8_level_69 : decode cX8_level 69 = .ok (.lload 9, 2) := by decide +kernel
theorem dX8_level_71 : decode cX8_level 71 = .ok (.lconst 1, 1) := by decide +kernel
theorem dX8_level_72 : decode cX8_level 72 = .ok (.ladd, 1) := by decide +kernel
theorem dX8_level_73 : decode cX8_level 73 = .ok (.lstore 9, 2) := by decide +kernel
theorem dX8_level_75 : decode cX8_level 75 = .ok (.lload 11, 2) := by decide +kernel
theorem dX8_level_77 : decode cX8_level 77 = .ok (.aload_n 0, 1) := by decide +kernel
theorem dX8_level_78 : decode cX8_level 78 = .ok (.getfield 38, 3) := by decide +kernel
theorem dX8_level_81 : decode cX8_level 81 = .ok (.iload 15, 2) := by decide +kernel
theorem dX8_level_83 : decode cX8_level 83 = .ok (.iaload, 1) := by decide +kernel
theorem dX8_level_84 : decode cX8_level 84 = .ok (.i2l, 1) := by decide +kernel
theorem dX8_level_85 : decode cX8_level 85 = .ok (.ladd, 1) := by decide +kernel
theorem dX8_level_86 : decode cX8_level 86 = .ok (.lstore 11, 2) := by decide +kernel
theorem dX8_level_88 : decode cX8_level 88 = .ok (.iinc 15 1, 3) := by decide +kernel
theorem dX8_level_91 : decode cX8_level 91 = .ok (.goto (-59), 3) := by decide +kernel
theorem dX8_level_94 : decode cX8_level 94 = .ok (.aload_n 0, 1) := by decide +kernel
theorem dX8_level_95 : decode cX8_level 95 = .ok (.invokevirtual 275, 3) := by decide +kernel
theorem dX8_level_98 : decode cX8_level 98 = .ok (.i2l, 1) := by decide +kernel
theorem dX8_level_99 : decode cX8_level 99 = .ok (.lload 9, 2) := by decide +kernel
theorem dX8_level_101 : decode cX8_level 101 = .ok (.lsub, 1) := by decide +kernel
theorem dX8_level_102 : decode cX8_level 102 = .ok (.lstore 15, 2) := by decide +kernel
theorem dX8_level_104 : decode cX8_level 104 = .ok (.lload 9, 2) := by decide +kernel
theorem dX8_level_106 : decode cX8_level 106 = .ok (.lconst 0, 1) := by decide +kernel
theorem dX8_level_107 : decode cX8_level 107 = .ok (.lcmp, 1) := by decide +kernel
theorem dX8_level_108 : decode cX8_level 108 = .ok (.ifCond .eq 101, 3) := by decide +kernel
theorem dX8_level_111 : decode cX8_level 111 = .ok (.lload 15, 2) := by decide +kernel
theorem dX8_level_113 : decode cX8_level 113 = .ok (.lconst 0, 1) := by decide +kernel
theorem dX8_level_114 : decode cX8_level 114 = .ok (.lcmp, 1) := by decide +kernel
theorem dX8_level_115 : decode cX8_level 115 = .ok (.ifCond .ne 6, 3) := by decide +kernel
theorem dX8_level_118 : decode cX8_level 118 = .ok (.goto 91, 3) := by decide +kernel
theorem dX8_level_121 : decode cX8_level 121 = .ok (.lload 13, 2) := by decide +kernel
theorem dX8_level_123 : decode cX8_level 123 = .ok (.lload 11, 2) := by decide +kernel
theorem dX8_level_125 : decode cX8_level 125 = .ok (.lsub, 1) := by decide +kernel
theorem dX8_level_126 : decode cX8_level 126 = .ok (.lload 9, 2) := by decide +kernel
theorem dX8_level_128 : decode cX8_level 128 = .ok (.lmul, 1) := by decide +kernel
theorem dX8_level_129 : decode cX8_level 129 = .ok (.lload 11, 2) := by decide +kernel
theorem dX8_level_131 : decode cX8_level 131 = .ok (.lload 15, 2) := by decide +kernel
theorem dX8_level_133 : decode cX8_level 133 = .ok (.lmul, 1) := by decide +kernel
theorem dX8_level_134 : decode cX8_level 134 = .ok (.lsub, 1) := by decide +kernel
theorem dX8_level_135 : decode cX8_level 135 = .ok (.lstore 17, 2) := by decide +kernel
theorem dX8_level_137 : decode cX8_level 137 = .ok (.lload 9, 2) := by decide +kernel
theorem dX8_level_139 : decode cX8_level 139 = .ok (.lload 15, 2) := by decide +kernel
theorem dX8_level_141 : decode cX8_level 141 = .ok (.lmul, 1) := by decide +kernel
theorem dX8_level_142 : decode cX8_level 142 = .ok (.lstore 19, 2) := by decide +kernel
theorem dX8_level_144 : decode cX8_level 144 = .ok (.lload 17, 2) := by decide +kernel
theorem dX8_level_146 : decode cX8_level 146 = .ok (.lload 17, 2) := by decide +kernel
theorem dX8_level_148 : decode cX8_level 148 = .ok (.lmul, 1) := by decide +kernel
theorem dX8_level_149 : decode cX8_level 149 = .ok (.lload 19, 2) := by decide +kernel
theorem dX8_level_151 : decode cX8_level 151 = .ok (.ldiv, 1) := by decide +kernel
theorem dX8_level_152 : decode cX8_level 152 = .ok (.lstore 21, 2) := by decide +kernel
theorem dX8_level_154 : decode cX8_level 154 = .ok (.lload 17, 2) := by decide +kernel
theorem dX8_level_156 : decode cX8_level 156 = .ok (.lload 17, 2) := by decide +kernel
theorem dX8_level_158 : decode cX8_level 158 = .ok (.lmul, 1) := by decide +kernel
theorem dX8_level_159 : decode cX8_level 159 = .ok (.lload 19, 2) := by decide +kernel
theorem dX8_level_161 : decode cX8_level 161 = .ok (.lrem, 1) := by decide +kernel
theorem dX8_level_162 : decode cX8_level 162 = .ok (.lstore 23, 2) := by decide +kernel
theorem dX8_level_164 : decode cX8_level 164 = .ok (.lload 21, 2) := by decide +kernel
theorem dX8_level_166 : decode cX8_level 166 = .ok (.lload_n 2, 1) := by decide +kernel
theorem dX8_level_167 : decode cX8_level 167 = .ok (.lcmp, 1) := by decide +kernel
theorem dX8_level_168 : decode cX8_level 168 = .ok (.ifCond .lt 41, 3) := by decide +kernel
theorem dX8_level_171 : decode cX8_level 171 = .ok (.lload 21, 2) := by decide +kernel
theorem dX8_level_173 : decode cX8_level 173 = .ok (.lload_n 2, 1) := by decide +kernel
theorem dX8_level_174 : decode cX8_level 174 = .ok (.lcmp, 1) := by decide +kernel
theorem dX8_level_175 : decode cX8_level 175 = .ok (.ifCond .ne 20, 3) := by decide +kernel
theorem dX8_level_178 : decode cX8_level 178 = .ok (.lload 23, 2) := by decide +kernel
theorem dX8_level_180 : decode cX8_level 180 = .ok (.lload 6, 2) := by decide +kernel
theorem dX8_level_182 : decode cX8_level 182 = .ok (.lmul, 1) := by decide +kernel
theorem dX8_level_183 : decode cX8_level 183 = .ok (.lload 4, 2) := by decide +kernel
theorem dX8_level_185 : decode cX8_level 185 = .ok (.lload 19, 2) := by decide +kernel
theorem dX8_level_187 : decode cX8_level 187 = .ok (.lmul, 1) := by decide +kernel
theorem dX8_level_188 : decode cX8_level 188 = .ok (.lcmp, 1) := by decide +kernel
theorem dX8_level_189 : decode cX8_level 189 = .ok (.ifCond .gt 6, 3) := by decide +kernel
theorem dX8_level_192 : decode cX8_level 192 = .ok (.goto 17, 3) := by decide +kernel
theorem dX8_level_195 : decode cX8_level 195 = .ok (.iload 8, 2) := by decide +kernel
theorem dX8_level_197 : decode cX8_level 197 = .ok (.istore_n 1, 1) := by decide +kernel
theorem dX8_level_198 : decode cX8_level 198 = .ok (.lload 21, 2) := by decide +kernel
theorem dX8_level_200 : decode cX8_level 200 = .ok (.lstore_n 2, 1) := by decide +kernel
theorem dX8_level_201 : decode cX8_level 201 = .ok (.lload 23, 2) := by decide +kernel
theorem dX8_level_203 : decode cX8_level 203 = .ok (.lstore 4, 2) := by decide +kernel
theorem dX8_level_205 : decode cX8_level 205 = .ok (.lload 19, 2) := by decide +kernel
theorem dX8_level_207 : decode cX8_level 207 = .ok (.lstore 6, 2) := by decide +kernel
theorem dX8_level_209 : decode cX8_level 209 = .ok (.iinc 8 1, 3) := by decide +kernel
theorem dX8_level_212 : decode cX8_level 212 = .ok (.goto (-199), 3) := by decide +kernel
theorem dX8_level_215 : decode cX8_level 215 = .ok (.iload_n 1, 1) := by decide +kernel
theorem dX8_level_216 : decode cX8_level 216 = .ok (.ireturn, 1) := by decide +kernel
def mX8_level : MM := (yX8_level, cX8_level, 25, Option.some Jvm.ClassFile.FieldType.int, { frames := 1, cells := 0, slots := 0, locals := 20 })
def X8_level_L32 (σ_ : SS) (u8_ : Int32) (k94 : Int64 → Int64 → Int64 → Option Int32) : Nat → Int64 → Int64 → Int64 → Int32 → Option Int32 :=
  lp (fun _ _ _ _ => none) fun rec w9_ w11_ w13_ v15_ =>
    if (fX8_all σ_) ≤ v15_ then (
      k94 w9_ w11_ w13_
      ) else (
      grd (inb v15_ 1600) <|
      vthen (w13_ + (Int32.toInt64 (gI σ_ 83 (Int32.toNatClampNeg v15_)))) fun w2 =>
      if (gI σ_ 83 (Int32.toNatClampNeg v15_)) < u8_ then (
        vthen (w9_ + (1 : Int64)) fun w3 =>
        vthen (w11_ + (Int32.toInt64 (gI σ_ 83 (Int32.toNatClampNeg v15_)))) fun w4 =>
        rec w3 w4 w2 (v15_ + (1 : Int32))
        ) else (
        rec w9_ w11_ w2 (v15_ + (1 : Int32))
        )
      )

def X8_level_L13 (σ_ : SS)   : Nat → Int32 → Int64 → Int64 → Int64 → Int32 → Option Int32 :=
  lp (fun _ _ _ _ _ => none) fun rec v1_ w2_ w4_ w6_ v8_ =>
    if (10 : Int32) ≤ v8_ then (
      some v1_
      ) else (
      X8_level_L32 σ_ v8_
      (fun w5 w6 w7 =>
        vthen ((Int32.toInt64 (fX8_all σ_)) - w5) fun w8 =>
        if (lg_cmp w5 (0 : Int64)) = 0 then (
          rec v1_ w2_ w4_ w6_ (v8_ + (1 : Int32))
          ) else (
          if (lg_cmp w8 (0 : Int64)) = 0 then (
            rec v1_ w2_ w4_ w6_ (v8_ + (1 : Int32))
            ) else (
            vthen (((w7 - w6) * w5) - (w6 * w8)) fun w9 =>
            vthen (w5 * w8) fun w10 =>
            grd (nzl w10) <|
            vthen ((w9 * w9) / w10) fun w12 =>
            vthen (lrm (w9 * w9) w10) fun w13 =>
            if (lg_cmp w12 w2_) < 0 then (
              rec v1_ w2_ w4_ w6_ (v8_ + (1 : Int32))
              ) else (
              vthen (fun (_u : Unit) =>
                rec v8_ w12 w13 w10 (v8_ + (1 : Int32))
                ) fun j195 =>
              if (lg_cmp w12 w2_) = 0 then (
                if 0 < (lg_cmp (w13 * w6_) (w4_ * w10)) then (
                  j195 ()
                  ) else (
                  rec v1_ w2_ w4_ w6_ (v8_ + (1 : Int32))
                  )
                ) else (
                j195 ()
                )
              )
            )
          )
        )
      fuel (0 : Int64) (0 : Int64) (0 : Int64) (0 : Int32)
      )

def fX8_level (σ0 : SS)  : Option Int32 :=
  X8_level_L13 σ0
  fuel (1 : Int32) (0 : Int64) (0 : Int64) (1 : Int64) (1 : Int32)

set_option maxRecDepth 20000 in
theorem sX8_level_L32 {g : GG} {r : Int32} {σ_ : SS} {σ0 : SS} {x1_ : Int32} {x2_ : Int64} {x4_ : Int64} {x6_ : Int64} {u8_ : Int32} {k94 : Int64 → Int64 → Int64 → Option Int32} 
    (hw_ : WT σ_)
    (h0_ : σ_ = σ0)
    (hk94 : ∀ (y9 : Int64) (y11 : Int64) (y13 : Int64), k94 y9 y11 y13 = some r → RR g mX8_level (FinR g mX8_level (some (.int r)) NF σ0) zF 94 [(0, .ref (ad g 73)), (1, .int x1_), (2, .long x2_), (4, .long x4_), (6, .long x6_), (8, .int u8_), (9, .long y9), (11, .long y11), (13, .long y13)] [] σ_)
    (n : Nat) : ∀ (w9_ : Int64) (w11_ : Int64) (w13_ : Int64) (v15_ : Int32), X8_level_L32 σ_ u8_ k94 n w9_ w11_ w13_ v15_ = some r → RR g mX8_level (FinR g mX8_level (some (.int r)) NF σ0) zF 32 [(0, .ref (ad g 73)), (1, .int x1_), (2, .long x2_), (4, .long x4_), (6, .long x6_), (8, .int u8_), (9, .long w9_), (11, .long w11_), (13, .long w13_), (15, .int v15_)] [] σ_ := by
  unfold X8_level_L32
  refine lp_ind (P := fun (rec : Int64 → Int64 → Int64 → Int32 → Option Int32) => ∀ (w9_ : Int64) (w11_ : Int64) (w13_ : Int64) (v15_ : Int32), rec w9_ w11_ w13_ v15_ = some r → RR g mX8_level (FinR g mX8_level (some (.int r)) NF σ0) zF 32 [(0, .ref (ad g 73)), (1, .int x1_), (2, .long x2_), (4, .long x4_), (6, .long x6_), (8, .int u8_), (9, .long w9_), (11, .long w11_), (13, .long w13_), (15, .int v15_)] [] σ_) ?_ ?_ n
  · intro w9_ w11_ w13_ v15_ hr; cases hr
  intro rec ih w9_ w11_ w13_ v15_ hr
  subst h0_
  refine r_iload (pc := 32) (j := 9) dX8_level_32 rfl ?_
  refine r_aload_n (pc := 34) (j := 0) dX8_level_34 rfl rfl ?_
  refine kX8_all (pc := 35) (hf := rfl) tw_6_215 ⟨nle rfl, nle rfl⟩ (nle rfl) dX8_level_35 ?_
  refine r_icmp_ge (pc := 38) (tgt := 94) dX8_level_38 rfl (fun hc => ?_) (fun hc => ?_)
  · replace hr := ite_t hc hr
    exact r_pick (ls1 := [(0, .ref (ad g 73)), (1, .int x1_), (2, .long x2_), (4, .long x4_), (6, .long x6_), (8, .int u8_), (9, .long w9_), (11, .long w11_), (13, .long w13_)]) [0, 1, 2, 3, 4, 5, 6, 7, 8] rfl (hk94 w9_ w11_ w13_ hr)
  replace hr := ite_f hc hr
  refine r_lload (pc := 41) (j := 8) dX8_level_41 rfl ?_
  refine r_aload_n (pc := 43) (j := 0) dX8_level_43 rfl rfl ?_
  refine gf8_21 (pc := 44) tw_5_115 hw_ dX8_level_44 ?_
  refine r_iload (pc := 47) (j := 9) dX8_level_47 rfl ?_
  obtain ⟨h1, hr⟩ := grd_inv hr
  refine x_iald (pc := 49) (k := (Int32.toNatClampNeg v15_)) rfl h1 rfl dX8_level_49 ?_
  refine r_i2l (pc := 50) dX8_level_50 ?_
  refine r_ladd (pc := 51) dX8_level_51 ?_
  refine r_topl fun w2 ew2 => ?_
  replace hr := vthen_inv hr w2 ew2
  refine r_lstore (pc := 52) (ls1 := [(13, .long w2), (0, .ref (ad g 73)), (1, .int x1_), (2, .long x2_), (4, .long x4_), (6, .long x6_), (8, .int u8_), (9, .long w9_), (11, .long w11_), (15, .int v15_)]) dX8_level_52 (nle rfl) rfl ?_
  refine r_aload_n (pc := 54) (j := 1) dX8_level_54 rfl rfl ?_
  refine gf8_21 (pc := 55) tw_5_115 hw_ dX8_level_55 ?_
  refine r_iload (pc := 58) (j := 9) dX8_level_58 rfl ?_
  refine x_iald (pc := 60) (k := (Int32.toNatClampNeg v15_)) rfl h1 rfl dX8_level_60 ?_
  refine r_iload (pc := 61) (j := 6) dX8_level_61 rfl ?_
  refine r_icmp_lt (pc := 63) (tgt := 69) dX8_level_63 rfl (fun hc => ?_) (fun hc => ?_)
  · replace hr := ite_t hc hr
    refine r_lload (pc := 69) (j := 7) dX8_level_69 rfl ?_
    refine r_lconst (pc := 71) (v := (1 : Int64)) dX8_level_71 rfl ?_
    refine r_ladd (pc := 72) dX8_level_72 ?_
    refine r_topl fun w3 ew3 => ?_
    replace hr := vthen_inv hr w3 ew3
    refine r_lstore (pc := 73) (ls1 := [(9, .long w3), (13, .long w2), (0, .ref (ad g 73)), (1, .int x1_), (2, .long x2_), (4, .long x4_), (6, .long x6_), (8, .int u8_), (11, .long w11_), (15, .int v15_)]) dX8_level_73 (nle rfl) rfl ?_
    refine r_lload (pc := 75) (j := 8) dX8_level_75 rfl ?_
    refine r_aload_n (pc := 77) (j := 2) dX8_level_77 rfl rfl ?_
    refine gf8_21 (pc := 78) tw_5_115 hw_ dX8_level_78 ?_
    refine r_iload (pc := 81) (j := 9) dX8_level_81 rfl ?_
    refine x_iald (pc := 83) (k := (Int32.toNatClampNeg v15_)) rfl h1 rfl dX8_level_83 ?_
    refine r_i2l (pc := 84) dX8_level_84 ?_
    refine r_ladd (pc := 85) dX8_level_85 ?_
    refine r_topl fun w4 ew4 => ?_
    replace hr := vthen_inv hr w4 ew4
    refine r_lstore (pc := 86) (ls1 := [(11, .long w4), (9, .long w3), (13, .long w2), (0, .ref (ad g 73)), (1, .int x1_), (2, .long x2_), (4, .long x4_), (6, .long x6_), (8, .int u8_), (15, .int v15_)]) dX8_level_86 (nle rfl) rfl ?_
    refine r_iinc (pc := 88) (j := 9) (v := (v15_ + (1 : Int32))) (ls1 := [(15, .int (v15_ + (1 : Int32))), (11, .long w4), (9, .long w3), (13, .long w2), (0, .ref (ad g 73)), (1, .int x1_), (2, .long x2_), (4, .long x4_), (6, .long x6_), (8, .int u8_)]) dX8_level_88 rfl rfl (nle rfl) rfl ?_
    refine r_goto (pc := 91) (tgt := 32) dX8_level_91 rfl ?_
    exact r_pick (ls1 := [(0, .ref (ad g 73)), (1, .int x1_), (2, .long x2_), (4, .long x4_), (6, .long x6_), (8, .int u8_), (9, .long w3), (11, .long w4), (13, .long w2), (15, .int (v15_ + (1 : Int32)))]) [4, 5, 6, 7, 8, 9, 2, 1, 3, 0] rfl (ih w3 w4 w2 (v15_ + (1 : Int32)) hr)
  replace hr := ite_f hc hr
  refine r_goto (pc := 66) (tgt := 88) dX8_level_66 rfl ?_
  refine r_iinc (pc := 88) (j := 9) (v := (v15_ + (1 : Int32))) (ls1 := [(15, .int (v15_ + (1 : Int32))), (13, .long w2), (0, .ref (ad g 73)), (1, .int x1_), (2, .long x2_), (4, .long x4_), (6, .long x6_), (8, .int u8_), (9, .long w9_), (11, .long w11_)]) dX8_level_88 rfl rfl (nle rfl) rfl ?_
  refine r_goto (pc := 91) (tgt := 32) dX8_level_91 rfl ?_
  exact r_pick (ls1 := [(0, .ref (ad g 73)), (1, .int x1_), (2, .long x2_), (4, .long x4_), (6, .long x6_), (8, .int u8_), (9, .long w9_), (11, .long w11_), (13, .long w2), (15, .int (v15_ + (1 : Int32)))]) [2, 3, 4, 5, 6, 7, 8, 9, 1, 0] rfl (ih w9_ w11_ w2 (v15_ + (1 : Int32)) hr)

set_option maxRecDepth 20000 in
theorem sX8_level_L13 {g : GG} {r : Int32} {σ_ : SS} {σ0 : SS}   
    (hw_ : WT σ_)
    (h0_ : σ_ = σ0)
    (n : Nat) : ∀ (v1_ : Int32) (w2_ : Int64) (w4_ : Int64) (w6_ : Int64) (v8_ : Int32), X8_level_L13 σ_ n v1_ w2_ w4_ w6_ v8_ = some r → RR g mX8_level (FinR g mX8_level (some (.int r)) NF σ0) zF 13 [(0, .ref (ad g 73)), (1, .int v1_), (2, .long w2_), (4, .long w4_), (6, .long w6_), (8, .int v8_)] [] σ_ := by
  unfold X8_level_L13
  refine lp_ind (P := fun (rec : Int32 → Int64 → Int64 → Int64 → Int32 → Option Int32) => ∀ (v1_ : Int32) (w2_ : Int64) (w4_ : Int64) (w6_ : Int64) (v8_ : Int32), rec v1_ w2_ w4_ w6_ v8_ = some r → RR g mX8_level (FinR g mX8_level (some (.int r)) NF σ0) zF 13 [(0, .ref (ad g 73)), (1, .int v1_), (2, .long w2_), (4, .long w4_), (6, .long w6_), (8, .int v8_)] [] σ_) ?_ ?_ n
  · intro v1_ w2_ w4_ w6_ v8_ hr; cases hr
  intro rec ih v1_ w2_ w4_ w6_ v8_ hr
  subst h0_
  refine r_iload (pc := 13) (j := 5) dX8_level_13 rfl ?_
  refine r_bipush (pc := 15) (v := (10 : Int32)) dX8_level_15 rfl ?_
  refine r_icmp_ge (pc := 17) (tgt := 215) dX8_level_17 rfl (fun hc => ?_) (fun hc => ?_)
  · replace hr := ite_t hc hr
    refine r_iload_n (pc := 215) (j := 1) dX8_level_215 rfl rfl ?_
    exact l_opi hr (r_iret (pc := 216) (v := v1_) rfl rfl ⟨Nat.le_refl _, Nat.le_refl _⟩ dX8_level_216)
  replace hr := ite_f hc hr
  refine r_lconst (pc := 20) (v := (0 : Int64)) dX8_level_20 rfl ?_
  refine r_lstore (pc := 21) (ls1 := [(9, .long (0 : Int64)), (0, .ref (ad g 73)), (1, .int v1_), (2, .long w2_), (4, .long w4_), (6, .long w6_), (8, .int v8_)]) dX8_level_21 (nle rfl) rfl ?_
  refine r_lconst (pc := 23) (v := (0 : Int64)) dX8_level_23 rfl ?_
  refine r_lstore (pc := 24) (ls1 := [(11, .long (0 : Int64)), (9, .long (0 : Int64)), (0, .ref (ad g 73)), (1, .int v1_), (2, .long w2_), (4, .long w4_), (6, .long w6_), (8, .int v8_)]) dX8_level_24 (nle rfl) rfl ?_
  refine r_lconst (pc := 26) (v := (0 : Int64)) dX8_level_26 rfl ?_
  refine r_lstore (pc := 27) (ls1 := [(13, .long (0 : Int64)), (11, .long (0 : Int64)), (9, .long (0 : Int64)), (0, .ref (ad g 73)), (1, .int v1_), (2, .long w2_), (4, .long w4_), (6, .long w6_), (8, .int v8_)]) dX8_level_27 (nle rfl) rfl ?_
  refine r_iconst (pc := 29) (v := (0 : Int32)) dX8_level_29 rfl ?_
  refine r_istore (pc := 30) (ls1 := [(15, .int (0 : Int32)), (13, .long (0 : Int64)), (11, .long (0 : Int64)), (9, .long (0 : Int64)), (0, .ref (ad g 73)), (1, .int v1_), (2, .long w2_), (4, .long w4_), (6, .long w6_), (8, .int v8_)]) dX8_level_30 (nle rfl) rfl ?_
  refine r_pick (ls1 := [(0, .ref (ad g 73)), (1, .int v1_), (2, .long w2_), (4, .long w4_), (6, .long w6_), (8, .int v8_), (9, .long (0 : Int64)), (11, .long (0 : Int64)), (13, .long (0 : Int64)), (15, .int (0 : Int32))]) [4, 5, 6, 7, 8, 9, 3, 2, 1, 0] rfl ?_
  refine sX8_level_L32  hw_ rfl (fun w5 w6 w7 hr => ?_) fuel (0 : Int64) (0 : Int64) (0 : Int64) (0 : Int32) hr
  refine r_aload_n (pc := 94) (j := 0) dX8_level_94 rfl rfl ?_
  refine kX8_all (pc := 95) (hf := rfl) tw_6_215 ⟨nle rfl, nle rfl⟩ (nle rfl) dX8_level_95 ?_
  refine r_i2l (pc := 98) dX8_level_98 ?_
  refine r_lload (pc := 99) (j := 6) dX8_level_99 rfl ?_
  refine r_lsub (pc := 101) dX8_level_101 ?_
  refine r_topl fun w8 ew8 => ?_
  replace hr := vthen_inv hr w8 ew8
  refine r_lstore (pc := 102) (ls1 := [(15, .long w8), (0, .ref (ad g 73)), (1, .int v1_), (2, .long w2_), (4, .long w4_), (6, .long w6_), (8, .int v8_), (9, .long w5), (11, .long w6), (13, .long w7)]) dX8_level_102 (nle rfl) rfl ?_
  refine r_lload (pc := 104) (j := 7) dX8_level_104 rfl ?_
  refine r_lconst (pc := 106) (v := (0 : Int64)) dX8_level_106 rfl ?_
  refine r_lcmp (pc := 107) dX8_level_107 ?_
  refine r_if_eq (pc := 108) (tgt := 209) dX8_level_108 rfl (fun hc => ?_) (fun hc => ?_)
  · replace hr := ite_t hc hr
    refine r_iinc (pc := 209) (j := 6) (v := (v8_ + (1 : Int32))) (ls1 := [(8, .int (v8_ + (1 : Int32))), (15, .long w8), (0, .ref (ad g 73)), (1, .int v1_), (2, .long w2_), (4, .long w4_), (6, .long w6_), (9, .long w5), (11, .long w6), (13, .long w7)]) dX8_level_209 rfl rfl (nle rfl) rfl ?_
    refine r_goto (pc := 212) (tgt := 13) dX8_level_212 rfl ?_
    exact r_pick (ls1 := [(0, .ref (ad g 73)), (1, .int v1_), (2, .long w2_), (4, .long w4_), (6, .long w6_), (8, .int (v8_ + (1 : Int32)))]) [2, 3, 4, 5, 6, 0] rfl (ih v1_ w2_ w4_ w6_ (v8_ + (1 : Int32)) hr)
  replace hr := ite_f hc hr
  refine r_lload (pc := 111) (j := 0) dX8_level_111 rfl ?_
  refine r_lconst (pc := 113) (v := (0 : Int64)) dX8_level_113 rfl ?_
  refine r_lcmp (pc := 114) dX8_level_114 ?_
  refine r_if_ne (pc := 115) (tgt := 121) dX8_level_115 rfl (fun hc => ?_) (fun hc => ?_)
  · replace hr := ite_f hc hr
    refine r_lload (pc := 121) (j := 9) dX8_level_121 rfl ?_
    refine r_lload (pc := 123) (j := 8) dX8_level_123 rfl ?_
    refine r_lsub (pc := 125) dX8_level_125 ?_
    refine r_lload (pc := 126) (j := 7) dX8_level_126 rfl ?_
    refine r_lmul (pc := 128) dX8_level_128 ?_
    refine r_lload (pc := 129) (j := 8) dX8_level_129 rfl ?_
    refine r_lload (pc := 131) (j := 0) dX8_level_131 rfl ?_
    refine r_lmul (pc := 133) dX8_level_133 ?_
    refine r_lsub (pc := 134) dX8_level_134 ?_
    refine r_topl fun w9 ew9 => ?_
    replace hr := vthen_inv hr w9 ew9
    refine r_lstore (pc := 135) (ls1 := [(17, .long w9), (15, .long w8), (0, .ref (ad g 73)), (1, .int v1_), (2, .long w2_), (4, .long w4_), (6, .long w6_), (8, .int v8_), (9, .long w5), (11, .long w6), (13, .long w7)]) dX8_level_135 (nle rfl) rfl ?_
    refine r_lload (pc := 137) (j := 8) dX8_level_137 rfl ?_
    refine r_lload (pc := 139) (j := 1) dX8_level_139 rfl ?_
    refine r_lmul (pc := 141) dX8_level_141 ?_
    refine r_topl fun w10 ew10 => ?_
    replace hr := vthen_inv hr w10 ew10
    refine r_lstore (pc := 142) (ls1 := [(19, .long w10), (17, .long w9), (15, .long w8), (0, .ref (ad g 73)), (1, .int v1_), (2, .long w2_), (4, .long w4_), (6, .long w6_), (8, .int v8_), (9, .long w5), (11, .long w6), (13, .long w7)]) dX8_level_142 (nle rfl) rfl ?_
    refine r_lload (pc := 144) (j := 1) dX8_level_144 rfl ?_
    refine r_lload (pc := 146) (j := 1) dX8_level_146 rfl ?_
    refine r_lmul (pc := 148) dX8_level_148 ?_
    refine r_lload (pc := 149) (j := 0) dX8_level_149 rfl ?_
    obtain ⟨h11, hr⟩ := grd_inv hr
    refine r_ldiv (pc := 151) dX8_level_151 (nzl_ne h11) ?_
    refine r_topl fun w12 ew12 => ?_
    replace hr := vthen_inv hr w12 ew12
    refine r_lstore (pc := 152) (ls1 := [(21, .long w12), (19, .long w10), (17, .long w9), (15, .long w8), (0, .ref (ad g 73)), (1, .int v1_), (2, .long w2_), (4, .long w4_), (6, .long w6_), (8, .int v8_), (9, .long w5), (11, .long w6), (13, .long w7)]) dX8_level_152 (nle rfl) rfl ?_
    refine r_lload (pc := 154) (j := 2) dX8_level_154 rfl ?_
    refine r_lload (pc := 156) (j := 2) dX8_level_156 rfl ?_
    refine r_lmul (pc := 158) dX8_level_158 ?_
    refine r_lload (pc := 159) (j := 1) dX8_level_159 rfl ?_
    refine r_lrem (pc := 161) dX8_level_161 (nzl_ne h11) ?_
    refine r_topl fun w13 ew13 => ?_
    replace hr := vthen_inv hr w13 ew13
    refine r_lstore (pc := 162) (ls1 := [(23, .long w13), (21, .long w12), (19, .long w10), (17, .long w9), (15, .long w8), (0, .ref (ad g 73)), (1, .int v1_), (2, .long w2_), (4, .long w4_), (6, .long w6_), (8, .int v8_), (9, .long w5), (11, .long w6), (13, .long w7)]) dX8_level_162 (nle rfl) rfl ?_
    refine r_lload (pc := 164) (j := 1) dX8_level_164 rfl ?_
    refine r_lload_n (pc := 166) (j := 7) dX8_level_166 rfl rfl ?_
    refine r_lcmp (pc := 167) dX8_level_167 ?_
    refine r_if_lt (pc := 168) (tgt := 209) dX8_level_168 rfl (fun hc => ?_) (fun hc => ?_)
    · replace hr := ite_t hc hr
      refine r_iinc (pc := 209) (j := 10) (v := (v8_ + (1 : Int32))) (ls1 := [(8, .int (v8_ + (1 : Int32))), (23, .long w13), (21, .long w12), (19, .long w10), (17, .long w9), (15, .long w8), (0, .ref (ad g 73)), (1, .int v1_), (2, .long w2_), (4, .long w4_), (6, .long w6_), (9, .long w5), (11, .long w6), (13, .long w7)]) dX8_level_209 rfl rfl (nle rfl) rfl ?_
      refine r_goto (pc := 212) (tgt := 13) dX8_level_212 rfl ?_
      exact r_pick (ls1 := [(0, .ref (ad g 73)), (1, .int v1_), (2, .long w2_), (4, .long w4_), (6, .long w6_), (8, .int (v8_ + (1 : Int32)))]) [6, 7, 8, 9, 10, 0] rfl (ih v1_ w2_ w4_ w6_ (v8_ + (1 : Int32)) hr)
    replace hr := ite_f hc hr
    refine r_lload (pc := 171) (j := 1) dX8_level_171 rfl ?_
    refine r_lload_n (pc := 173) (j := 7) dX8_level_173 rfl rfl ?_
    refine r_lcmp (pc := 174) dX8_level_174 ?_
    obtain ⟨j195, ej195, hr⟩ := vth_ex hr
    have hj195 : j195 () = some r → RR g mX8_level (FinR g mX8_level (some (.int r)) NF σ_) zF 195 [(0, .ref (ad g 73)), (8, .int v8_), (19, .long w10), (21, .long w12), (23, .long w13)] [] σ_ := by
      intro  hr
      replace hr := (congrFun ej195 ()).symm.trans hr
      refine r_iload (pc := 195) (j := 1) dX8_level_195 rfl ?_
      refine r_istore_n (pc := 197) (ls1 := [(1, .int v8_), (0, .ref (ad g 73)), (8, .int v8_), (19, .long w10), (21, .long w12), (23, .long w13)]) dX8_level_197 rfl (nle rfl) rfl ?_
      refine r_lload (pc := 198) (j := 4) dX8_level_198 rfl ?_
      refine r_lstore_n (pc := 200) (ls1 := [(2, .long w12), (1, .int v8_), (0, .ref (ad g 73)), (8, .int v8_), (19, .long w10), (21, .long w12), (23, .long w13)]) dX8_level_200 rfl (nle rfl) rfl ?_
      refine r_lload (pc := 201) (j := 6) dX8_level_201 rfl ?_
      refine r_lstore (pc := 203) (ls1 := [(4, .long w13), (2, .long w12), (1, .int v8_), (0, .ref (ad g 73)), (8, .int v8_), (19, .long w10), (21, .long w12), (23, .long w13)]) dX8_level_203 (nle rfl) rfl ?_
      refine r_lload (pc := 205) (j := 5) dX8_level_205 rfl ?_
      refine r_lstore (pc := 207) (ls1 := [(6, .long w10), (4, .long w13), (2, .long w12), (1, .int v8_), (0, .ref (ad g 73)), (8, .int v8_), (19, .long w10), (21, .long w12), (23, .long w13)]) dX8_level_207 (nle rfl) rfl ?_
      refine r_iinc (pc := 209) (j := 5) (v := (v8_ + (1 : Int32))) (ls1 := [(8, .int (v8_ + (1 : Int32))), (6, .long w10), (4, .long w13), (2, .long w12), (1, .int v8_), (0, .ref (ad g 73)), (19, .long w10), (21, .long w12), (23, .long w13)]) dX8_level_209 rfl rfl (nle rfl) rfl ?_
      refine r_goto (pc := 212) (tgt := 13) dX8_level_212 rfl ?_
      exact r_pick (ls1 := [(0, .ref (ad g 73)), (1, .int v8_), (2, .long w12), (4, .long w13), (6, .long w10), (8, .int (v8_ + (1 : Int32)))]) [5, 4, 3, 2, 1, 0] rfl (ih v8_ w12 w13 w10 (v8_ + (1 : Int32)) hr)
    refine r_if_ne (pc := 175) (tgt := 195) dX8_level_175 rfl (fun hc => ?_) (fun hc => ?_)
    · replace hr := ite_f hc hr
      exact r_pick (ls1 := [(0, .ref (ad g 73)), (8, .int v8_), (19, .long w10), (21, .long w12), (23, .long w13)]) [5, 10, 2, 1, 0] rfl (hj195  hr)
    replace hr := ite_t hc hr
    refine r_lload (pc := 178) (j := 0) dX8_level_178 rfl ?_
    refine r_lload (pc := 180) (j := 9) dX8_level_180 rfl ?_
    refine r_lmul (pc := 182) dX8_level_182 ?_
    refine r_lload (pc := 183) (j := 8) dX8_level_183 rfl ?_
    refine r_lload (pc := 185) (j := 2) dX8_level_185 rfl ?_
    refine r_lmul (pc := 187) dX8_level_187 ?_
    refine r_lcmp (pc := 188) dX8_level_188 ?_
    refine r_if_gt (pc := 189) (tgt := 195) dX8_level_189 rfl (fun hc => ?_) (fun hc => ?_)
    · replace hr := ite_t hc hr
      exact r_pick (ls1 := [(0, .ref (ad g 73)), (8, .int v8_), (19, .long w10), (21, .long w12), (23, .long w13)]) [5, 10, 2, 1, 0] rfl (hj195  hr)
    replace hr := ite_f hc hr
    refine r_goto (pc := 192) (tgt := 209) dX8_level_192 rfl ?_
    refine r_iinc (pc := 209) (j := 10) (v := (v8_ + (1 : Int32))) (ls1 := [(8, .int (v8_ + (1 : Int32))), (23, .long w13), (21, .long w12), (19, .long w10), (17, .long w9), (15, .long w8), (0, .ref (ad g 73)), (1, .int v1_), (2, .long w2_), (4, .long w4_), (6, .long w6_), (9, .long w5), (11, .long w6), (13, .long w7)]) dX8_level_209 rfl rfl (nle rfl) rfl ?_
    refine r_goto (pc := 212) (tgt := 13) dX8_level_212 rfl ?_
    exact r_pick (ls1 := [(0, .ref (ad g 73)), (1, .int v1_), (2, .long w2_), (4, .long w4_), (6, .long w6_), (8, .int (v8_ + (1 : Int32)))]) [6, 7, 8, 9, 10, 0] rfl (ih v1_ w2_ w4_ w6_ (v8_ + (1 : Int32)) hr)
  replace hr := ite_t hc hr
  refine r_goto (pc := 118) (tgt := 209) dX8_level_118 rfl ?_
  refine r_iinc (pc := 209) (j := 6) (v := (v8_ + (1 : Int32))) (ls1 := [(8, .int (v8_ + (1 : Int32))), (15, .long w8), (0, .ref (ad g 73)), (1, .int v1_), (2, .long w2_), (4, .long w4_), (6, .long w6_), (9, .long w5), (11, .long w6), (13, .long w7)]) dX8_level_209 rfl rfl (nle rfl) rfl ?_
  refine r_goto (pc := 212) (tgt := 13) dX8_level_212 rfl ?_
  exact r_pick (ls1 := [(0, .ref (ad g 73)), (1, .int v1_), (2, .long w2_), (4, .long w4_), (6, .long w6_), (8, .int (v8_ + (1 : Int32)))]) [2, 3, 4, 5, 6, 0] rfl (ih v1_ w2_ w4_ w6_ (v8_ + (1 : Int32)) hr)

set_option maxRecDepth 20000 in
theorem sX8_level {g : GG} {σ0 : SS}  {r : Int32} (hr : fX8_level σ0 = some r)  : Ct g mX8_level [.ref (ad g 73)] NF σ0 (some (.int r)) NF σ0 := by
  refine Ct.of (by decide +kernel) (nle rfl) fun hw0 => ?_
  have hw := hw0 rfl
  unfold fX8_level at hr
  change RR g mX8_level (FinR g mX8_level (some (.int r)) NF σ0) zF 0 [(0, .ref (ad g 73))] [] σ0
  refine r_iconst (pc := 0) (v := (1 : Int32)) dX8_level_0 rfl ?_
  refine r_istore_n (pc := 1) (ls1 := [(1, .int (1 : Int32)), (0, .ref (ad g 73))]) dX8_level_1 rfl (nle rfl) rfl ?_
  refine r_lconst (pc := 2) (v := (0 : Int64)) dX8_level_2 rfl ?_
  refine r_lstore_n (pc := 3) (ls1 := [(2, .long (0 : Int64)), (1, .int (1 : Int32)), (0, .ref (ad g 73))]) dX8_level_3 rfl (nle rfl) rfl ?_
  refine r_lconst (pc := 4) (v := (0 : Int64)) dX8_level_4 rfl ?_
  refine r_lstore (pc := 5) (ls1 := [(4, .long (0 : Int64)), (2, .long (0 : Int64)), (1, .int (1 : Int32)), (0, .ref (ad g 73))]) dX8_level_5 (nle rfl) rfl ?_
  refine r_lconst (pc := 7) (v := (1 : Int64)) dX8_level_7 rfl ?_
  refine r_lstore (pc := 8) (ls1 := [(6, .long (1 : Int64)), (4, .long (0 : Int64)), (2, .long (0 : Int64)), (1, .int (1 : Int32)), (0, .ref (ad g 73))]) dX8_level_8 (nle rfl) rfl ?_
  refine r_iconst (pc := 10) (v := (1 : Int32)) dX8_level_10 rfl ?_
  refine r_istore (pc := 11) (ls1 := [(8, .int (1 : Int32)), (6, .long (1 : Int64)), (4, .long (0 : Int64)), (2, .long (0 : Int64)), (1, .int (1 : Int32)), (0, .ref (ad g 73))]) dX8_level_11 (nle rfl) rfl ?_
  refine r_pick (ls1 := [(0, .ref (ad g 73)), (1, .int (1 : Int32)), (2, .long (0 : Int64)), (4, .long (0 : Int64)), (6, .long (1 : Int64)), (8, .int (1 : Int32))]) [5, 4, 3, 2, 1, 0] rfl ?_
  refine sX8_level_L13  hw rfl  fuel (1 : Int32) (0 : Int64) (0 : Int64) (1 : Int64) (1 : Int32) hr

theorem kX8_level {g : GG} {σ0 : SS}  {v : Int32} {M : MM} {F : State → Array Value → List Frame → State → Prop} {pc index : Nat} {ls : List (Nat × Value)} {rest : List Value} (hf : fX8_level σ0 = some v)  (hl : Cond.methodLink M.1.cls index yX8_level ∈ lw_gt) (hR : mX8_level.2.2.2.2.frames + 1 ≤ M.2.2.2.2.frames ∧ 8 + (mX8_level.2.2.1 + 11) + mX8_level.2.2.2.2.locals ≤ M.2.2.2.2.locals) (hrest : (rest.map fun v => v.category).sum ≤ 8) (hd : decode M.2.1 pc = .ok (.invokevirtual index, 3)) (k : RR g M F zF (pc + 3) ls (.int v :: rest) σ0) : RR g M F zF pc ls (.ref (ad g 73) :: rest) σ0 :=
  r_callV (N := mX8_level) (nn := 0) (o1 := some (.int v)) (sX8_level hf ) (rfl : shp 73 = (8, 0)) (by decide) (shp_le (rfl : shp 73 = (8, 0)) (nle rfl)) (ci := 8) rfl rfl tw_7_222 tw_1_10 hl tw_7_220 tw_7_221 ⟨by decide, by decide, rfl⟩ hR rfl hrest hd ⟨Nat.zero_le _, Nat.zero_le _⟩ rfl (fun h => k)

