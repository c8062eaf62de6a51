/-! Walks written by a program out of the bytecode: each method as a function over the store, and its contract. -/
theorem dX7_fill_0 : decode cX7_fill 0 = .ok (.iload_n 3, 1) := by decide +kernel
theorem dX7_fill_1 : decode cX7_fill 1 = .ok (.iload 4, 2) := by decide +kernel
theorem dX7_fill_3 : decode cX7_fill 3 = .ok (.invokestatic 161, 3) := by decide +kernel
theorem dX7_fill_6 : decode cX7_fill 6 = .ok (.ifCond .eq 27, 3) := by decide +kernel
theorem dX7_fill_9 : decode cX7_fill 9 = .ok (.iload 5, 2) := by decide +kernel
theorem dX7_fill_11 : decode cX7_fill 11 = .ok (.ifCond .lt 22, 3) := by decide +kernel
theorem dX7_fill_14 : decode cX7_fill 14 = .ok (.iload 5, 2) := by decide +kernel
theorem dX7_fill_16 : decode cX7_fill 16 = .ok (.bipush 9, 2) := by decide +kernel
theorem dX7_fill_18 : decode cX7_fill 18 = .ok (.if_icmp .gt 15, 3) := by decide +kernel
theorem dX7_fill_21 : decode cX7_fill 21 = .ok (.aload_n 0, 1) := by decide +kernel
theorem dX7_fill_22 : decode cX7_fill 22 = .ok (.getfield 18, 3) := by decide +kernel
theorem dX7_fill_25 : decode cX7_fill 25 = .ok (.iload_n 1, 1) := by decide +kernel
theorem dX7_fill_26 : decode cX7_fill 26 = .ok (.iload_n 2, 1) := by decide +kernel
theorem dX7_fill_27 : decode cX7_fill 27 = .ok (.invokevirtual 164, 3) := by decide +kernel
theorem dX7_fill_30 : decode cX7_fill 30 = .ok (.ifCond .ne 5, 3) := by decide +kernel
theorem dX7_fill_33 : decode cX7_fill 33 = .ok (.iconst (-1), 1) := by decide +kernel
theorem dX7_fill_34 : decode cX7_fill 34 = .ok (.ireturn, 1) := by decide +kernel
theorem dX7_fill_35 : decode cX7_fill 35 = .ok (.iload_n 1, 1) := by decide +kernel
theorem dX7_fill_36 : decode cX7_fill 36 = .ok (.iload_n 3, 1) := by decide +kernel
theorem dX7_fill_37 : decode cX7_fill 37 = .ok (.iadd, 1) := by decide +kernel
theorem dX7_fill_38 : decode cX7_fill 38 = .ok (.aload_n 0, 1) := by decide +kernel
theorem dX7_fill_39 : decode cX7_fill 39 = .ok (.getfield 18, 3) := by decide +kernel
theorem dX7_fill_42 : decode cX7_fill 42 = .ok (.getfield 100, 3) := by decide +kernel
theorem dX7_fill_45 : decode cX7_fill 45 = .ok (.invokestatic 167, 3) := by decide +kernel
theorem dX7_fill_48 : decode cX7_fill 48 = .ok (.istore 6, 2) := by decide +kernel
theorem dX7_fill_50 : decode cX7_fill 50 = .ok (.iload_n 2, 1) := by decide +kernel
theorem dX7_fill_51 : decode cX7_fill 51 = .ok (.iload 4, 2) := by decide +kernel
theorem dX7_fill_53 : decode cX7_fill 53 = .ok (.iadd, 1) := by decide +kernel
theorem dX7_fill_54 : decode cX7_fill 54 = .ok (.aload_n 0, 1) := by decide +kernel
theorem dX7_fill_55 : decode cX7_fill 55 = .ok (.getfield 18, 3) := by decide +kernel
theorem dX7_fill_58 : decode cX7_fill 58 = .ok (.getfield 103, 3) := by decide +kernel
theorem dX7_fill_61 : decode cX7_fill 61 = .ok (.invokestatic 167, 3) := by decide +kernel
theorem dX7_fill_64 : decode cX7_fill 64 = .ok (.istore 7, 2) := by decide +kernel
theorem dX7_fill_66 : decode cX7_fill 66 = .ok (.iload_n 2, 1) := by decide +kernel
theorem dX7_fill_67 : decode cX7_fill 67 = .ok (.istore 8, 2) := by decide +kernel
theorem dX7_fill_69 : decode cX7_fill 69 = .ok (.iload 8, 2) := by decide +kernel
theorem dX7_fill_71 : decode cX7_fill 71 = .ok (.iload 7, 2) := by decide +kernel
theorem dX7_fill_73 : decode cX7_fill 73 = .ok (.if_icmp .ge 39, 3) := by decide +kernel
theorem dX7_fill_76 : decode cX7_fill 76 = .ok (.iload_n 1, 1) := by decide +kernel
theorem dX7_fill_77 : decode cX7_fill 77 = .ok (.istore 9, 2) := by decide +kernel
theorem dX7_fill_79 : decode cX7_fill 79 = .ok (.iload 9, 2) := by decide +kernel
theorem dX7_fill_81 : decode cX7_fill 81 = .ok (.iload 6, 2) := by decide +kernel
theorem dX7_fill_83 : decode cX7_fill 83 = .ok (.if_icmp .ge 23, 3) := by decide +kernel
theorem dX7_fill_86 : decode cX7_fill 86 = .ok (.aload_n 0, 1) := by decide +kernel
theorem dX7_fill_87 : decode cX7_fill 87 = .ok (.getfield 18, 3) := by decide +kernel
theorem dX7_fill_90 : decode cX7_fill 90 = .ok (.iload 9, 2) := by decide +kernel
theorem dX7_fill_92 : decode cX7_fill 92 = .ok (.iload 8, 2) := by decide +kernel
theorem dX7_fill_94 : decode cX7_fill 94 = .ok (.iload 5, 2) := by decide +kernel
theorem dX7_fill_96 : decode cX7_fill 96 = .ok (.invokevirtual 157, 3) := by decide +kernel
theorem dX7_fill_99 : decode cX7_fill 99 = .ok (.pop, 1) := by decide +kernel
theorem dX7_fill_100 : decode cX7_fill 100 = .ok (.iinc 9 1, 3) := by decide +kernel
theorem dX7_fill_103 : decode cX7_fill 103 = .ok (.goto (-24), 3) := by decide +kernel
theorem dX7_fill_106 : decode cX7_fill 106 = .ok (.iinc 8 1, 3) := by decide +kernel
theorem dX7_fill_109 : decode cX7_fill 109 = .ok (.goto (-40), 3) := by decide +kernel
theorem dX7_fill_112 : decode cX7_fill 112 = .ok (.iload 6, 2) := by decide +kernel
theorem dX7_fill_114 : decode cX7_fill 114 = .ok (.iload_n 1, 1) := by decide +kernel
theorem dX7_fill_115 : decode cX7_fill 115 = .ok (.isub, 1) := by decide +kernel
theorem dX7_fill_116 : decode cX7_fill 116 = .ok (.iload 7, 2) := by decide +kernel
theorem dX7_fill_118 : decode cX7_fill 118 = .ok (.iload_n 2, 1) := by decide +kernel
theorem dX7_fill_119 : decode cX7_fill 119 = .ok (.isub, 1) := by decide +kernel
theorem dX7_fill_120 : decode cX7_fill 120 = .ok (.imul, 1) := by decide +kernel
theorem dX7_fill_121 : decode cX7_fill 121 = .ok (.ireturn, 1) := by decide +kernel
def mX7_fill : MM := (yX7_fill, cX7_fill, 10, Option.some Jvm.ClassFile.FieldType.int, { frames := 2, cells := 0, slots := 0, locals := 47 })
def X7_fill_L79 (u5_ : Int32) (u6_ : Int32) (u8_ : Int32) (k106 : SS → Option (Int32 × SS)) : Nat → Int32 → SS → Option (Int32 × SS) :=
  lp (fun _ _ => none) fun rec v9_ σ_ =>
    if u6_ ≤ v9_ then (
      k106 σ_
      ) else (
      bnd (fX6_put σ_ (gR σ_ 1 2) v9_ u8_ u5_) fun b4 σ6 =>
      rec (v9_ + (1 : Int32)) σ6
      )

def X7_fill_L69 (u1_ : Int32) (u2_ : Int32) (u5_ : Int32) (u6_ : Int32) (u7_ : Int32)  : Nat → Int32 → SS → Option (Int32 × SS) :=
  lp (fun _ _ => none) fun rec v8_ σ_ =>
    if u7_ ≤ v8_ then (
      some (((u6_ - u1_) * (u7_ - u2_)), σ_)
      ) else (
      X7_fill_L79 u5_ u6_ v8_
      (fun σ7 =>
        rec (v8_ + (1 : Int32)) σ7
        )
      fuel u1_ σ_
      )

def fX7_fill (σ : SS) (a1 : Int32) (a2 : Int32) (a3 : Int32) (a4 : Int32) (a5 : Int32) : Option (Int32 × SS) :=
  if (fX7_isPiece σ a3 a4) = true then (
    if a5 < 0 then (
      some ((-1 : Int32), σ)
      ) else (
      if (9 : Int32) < a5 then (
        some ((-1 : Int32), σ)
        ) else (
        if (fX6_has σ (gR σ 1 2) a1 a2) = true then (
          vthen (fJ9_min_7cf53 σ (a1 + a3) (gI σ (gR σ 1 2) 0)) fun v1 =>
          vthen (fJ9_min_7cf53 σ (a2 + a4) (gI σ (gR σ 1 2) 1)) fun v2 =>
          X7_fill_L69 a1 a2 a5 v1 v2
          fuel a2 σ
          ) else (
          some ((-1 : Int32), σ)
          )
        )
      )
    ) else (
    some ((-1 : Int32), σ)
    )

set_option maxRecDepth 20000 in
theorem sX7_fill_L79 {g : GG} {r : Int32 × SS} {x1_ : Int32} {x2_ : Int32} {u5_ : Int32} {u6_ : Int32} {x7_ : Int32} {u8_ : Int32} {k106 : SS → Option (Int32 × SS)} 
    (hk106 : ∀ (σ_ : SS), k106 σ_ = some r → WT σ_ → RR g mX7_fill (FinR g mX7_fill (some (.int r.1)) NF r.2) zF 106 [(0, .ref (ad g 1)), (1, .int x1_), (2, .int x2_), (5, .int u5_), (6, .int u6_), (7, .int x7_), (8, .int u8_)] [] σ_)
    (n : Nat) : ∀ (v9_ : Int32) (σ_ : SS), X7_fill_L79 u5_ u6_ u8_ k106 n v9_ σ_ = some r → WT σ_ → RR g mX7_fill (FinR g mX7_fill (some (.int r.1)) NF r.2) zF 79 [(0, .ref (ad g 1)), (1, .int x1_), (2, .int x2_), (5, .int u5_), (6, .int u6_), (7, .int x7_), (8, .int u8_), (9, .int v9_)] [] σ_ := by
  unfold X7_fill_L79
  refine lp_ind (P := fun (rec : Int32 → SS → Option (Int32 × SS)) => ∀ (v9_ : Int32) (σ_ : SS), rec v9_ σ_ = some r → WT σ_ → RR g mX7_fill (FinR g mX7_fill (some (.int r.1)) NF r.2) zF 79 [(0, .ref (ad g 1)), (1, .int x1_), (2, .int x2_), (5, .int u5_), (6, .int u6_), (7, .int x7_), (8, .int u8_), (9, .int v9_)] [] σ_) ?_ ?_ n
  · intro v9_ σ_ hr; cases hr
  intro rec ih v9_ σ_ hr hw_
  refine r_iload (pc := 79) (j := 7) dX7_fill_79 rfl ?_
  refine r_iload (pc := 81) (j := 4) dX7_fill_81 rfl ?_
  refine r_icmp_ge (pc := 83) (tgt := 106) dX7_fill_83 rfl (fun hc => ?_) (fun hc => ?_)
  · replace hr := ite_t hc hr
    exact r_pick (ls1 := [(0, .ref (ad g 1)), (1, .int x1_), (2, .int x2_), (5, .int u5_), (6, .int u6_), (7, .int x7_), (8, .int u8_)]) [0, 1, 2, 3, 4, 5, 6] rfl (hk106 σ_ hr hw_)
  replace hr := ite_f hc hr
  refine r_aload_n (pc := 86) (j := 0) dX7_fill_86 rfl rfl ?_
  refine gf7_2 (pc := 87) tw_2_111 hw_ dX7_fill_87 ?_
  refine r_iload (pc := 90) (j := 7) dX7_fill_90 rfl ?_
  refine r_iload (pc := 92) (j := 6) dX7_fill_92 rfl ?_
  refine r_iload (pc := 94) (j := 3) dX7_fill_94 rfl ?_
  obtain ⟨b4, σ6, eσ6, hr⟩ := bnd_inv hr
  refine kX6_put (pc := 96) eσ6 (wt_sc hw_).1 tw_3_112 ⟨nle rfl, nle rfl⟩ (nle rfl) dX7_fill_96 fun hσ6 => ?_
  refine r_pop (pc := 99) dX7_fill_99 rfl ?_
  refine r_iinc (pc := 100) (j := 7) (v := (v9_ + (1 : Int32))) (ls1 := [(9, .int (v9_ + (1 : Int32))), (0, .ref (ad g 1)), (1, .int x1_), (2, .int x2_), (5, .int u5_), (6, .int u6_), (7, .int x7_), (8, .int u8_)]) dX7_fill_100 rfl rfl (nle rfl) rfl ?_
  refine r_goto (pc := 103) (tgt := 79) dX7_fill_103 rfl ?_
  exact r_pick (ls1 := [(0, .ref (ad g 1)), (1, .int x1_), (2, .int x2_), (5, .int u5_), (6, .int u6_), (7, .int x7_), (8, .int u8_), (9, .int (v9_ + (1 : Int32)))]) [1, 2, 3, 4, 5, 6, 7, 0] rfl (ih (v9_ + (1 : Int32)) σ6 hr hσ6)

set_option maxRecDepth 20000 in
theorem sX7_fill_L69 {g : GG} {r : Int32 × SS} {u1_ : Int32} {u2_ : Int32} {u5_ : Int32} {u6_ : Int32} {u7_ : Int32}  
    (n : Nat) : ∀ (v8_ : Int32) (σ_ : SS), X7_fill_L69 u1_ u2_ u5_ u6_ u7_ n v8_ σ_ = some r → WT σ_ → RR g mX7_fill (FinR g mX7_fill (some (.int r.1)) NF r.2) zF 69 [(0, .ref (ad g 1)), (1, .int u1_), (2, .int u2_), (5, .int u5_), (6, .int u6_), (7, .int u7_), (8, .int v8_)] [] σ_ := by
  unfold X7_fill_L69
  refine lp_ind (P := fun (rec : Int32 → SS → Option (Int32 × SS)) => ∀ (v8_ : Int32) (σ_ : SS), rec v8_ σ_ = some r → WT σ_ → RR g mX7_fill (FinR g mX7_fill (some (.int r.1)) NF r.2) zF 69 [(0, .ref (ad g 1)), (1, .int u1_), (2, .int u2_), (5, .int u5_), (6, .int u6_), (7, .int u7_), (8, .int v8_)] [] σ_) ?_ ?_ n
  · intro v8_ σ_ hr; cases hr
  intro rec ih v8_ σ_ hr hw_
  refine r_iload (pc := 69) (j := 6) dX7_fill_69 rfl ?_
  refine r_iload (pc := 71) (j := 5) dX7_fill_71 rfl ?_
  refine r_icmp_ge (pc := 73) (tgt := 112) dX7_fill_73 rfl (fun hc => ?_) (fun hc => ?_)
  · replace hr := ite_t hc hr
    refine r_iload (pc := 112) (j := 4) dX7_fill_112 rfl ?_
    refine r_iload_n (pc := 114) (j := 1) dX7_fill_114 rfl rfl ?_
    refine r_isub (pc := 115) dX7_fill_115 ?_
    refine r_iload (pc := 116) (j := 5) dX7_fill_116 rfl ?_
    refine r_iload_n (pc := 118) (j := 2) dX7_fill_118 rfl rfl ?_
    refine r_isub (pc := 119) dX7_fill_119 ?_
    refine r_imul (pc := 120) dX7_fill_120 ?_
    exact l_osi hr (r_iret (pc := 121) (v := ((u6_ - u1_) * (u7_ - u2_))) rfl rfl ⟨Nat.le_refl _, Nat.le_refl _⟩ dX7_fill_121)
  replace hr := ite_f hc hr
  refine r_iload_n (pc := 76) (j := 1) dX7_fill_76 rfl rfl ?_
  refine r_istore (pc := 77) (ls1 := [(9, .int u1_), (0, .ref (ad g 1)), (1, .int u1_), (2, .int u2_), (5, .int u5_), (6, .int u6_), (7, .int u7_), (8, .int v8_)]) dX7_fill_77 (nle rfl) rfl ?_
  refine r_pick (ls1 := [(0, .ref (ad g 1)), (1, .int u1_), (2, .int u2_), (5, .int u5_), (6, .int u6_), (7, .int u7_), (8, .int v8_), (9, .int u1_)]) [1, 2, 3, 4, 5, 6, 7, 0] rfl ?_
  refine sX7_fill_L79    (fun σ7 hr hσ7 => ?_) fuel u1_ σ_ hr hw_
  refine r_iinc (pc := 106) (j := 6) (v := (v8_ + (1 : Int32))) (ls1 := [(8, .int (v8_ + (1 : Int32))), (0, .ref (ad g 1)), (1, .int u1_), (2, .int u2_), (5, .int u5_), (6, .int u6_), (7, .int u7_)]) dX7_fill_106 rfl rfl (nle rfl) rfl ?_
  refine r_goto (pc := 109) (tgt := 69) dX7_fill_109 rfl ?_
  exact r_pick (ls1 := [(0, .ref (ad g 1)), (1, .int u1_), (2, .int u2_), (5, .int u5_), (6, .int u6_), (7, .int u7_), (8, .int (v8_ + (1 : Int32)))]) [1, 2, 3, 4, 5, 6, 0] rfl (ih (v8_ + (1 : Int32)) σ7 hr hσ7)

set_option maxRecDepth 20000 in
theorem sX7_fill {g : GG} {σ : SS} {a1 : Int32} {a2 : Int32} {a3 : Int32} {a4 : Int32} {a5 : Int32} {r : Int32 × SS} (hr : fX7_fill σ a1 a2 a3 a4 a5 = some r)  : Ct g mX7_fill [.ref (ad g 1), .int a1, .int a2, .int a3, .int a4, .int a5] NF σ (some (.int r.1)) NF r.2 := by
  refine Ct.of (by decide +kernel) (nle rfl) fun hw0 => ?_
  have hw := hw0 rfl
  unfold fX7_fill at hr
  change RR g mX7_fill (FinR g mX7_fill (some (.int r.1)) NF r.2) zF 0 [(0, .ref (ad g 1)), (1, .int a1), (2, .int a2), (3, .int a3), (4, .int a4), (5, .int a5)] [] σ
  refine r_iload_n (pc := 0) (j := 3) dX7_fill_0 rfl rfl ?_
  refine r_iload (pc := 1) (j := 4) dX7_fill_1 rfl ?_
  refine kX7_isPiece (pc := 3) (hf := rfl) tw_3_124 ⟨nle rfl, nle rfl⟩ (nle rfl) dX7_fill_3 ?_
  refine r_ifB_eq (pc := 6) (tgt := 33) dX7_fill_6 rfl (fun hc => ?_) (fun hc => ?_)
  · replace hr := ite_f hc hr
    refine r_iconst (pc := 33) (v := (-1 : Int32)) dX7_fill_33 rfl ?_
    exact l_osi hr (r_iret (pc := 34) (v := (-1 : Int32)) rfl rfl ⟨Nat.le_refl _, Nat.le_refl _⟩ dX7_fill_34)
  replace hr := ite_t hc hr
  refine r_iload (pc := 9) (j := 5) dX7_fill_9 rfl ?_
  refine r_if_lt (pc := 11) (tgt := 33) dX7_fill_11 rfl (fun hc => ?_) (fun hc => ?_)
  · replace hr := ite_t hc hr
    refine r_iconst (pc := 33) (v := (-1 : Int32)) dX7_fill_33 rfl ?_
    exact l_osi hr (r_iret (pc := 34) (v := (-1 : Int32)) rfl rfl ⟨Nat.le_refl _, Nat.le_refl _⟩ dX7_fill_34)
  replace hr := ite_f hc hr
  refine r_iload (pc := 14) (j := 5) dX7_fill_14 rfl ?_
  refine r_bipush (pc := 16) (v := (9 : Int32)) dX7_fill_16 rfl ?_
  refine r_icmp_gt (pc := 18) (tgt := 33) dX7_fill_18 rfl (fun hc => ?_) (fun hc => ?_)
  · replace hr := ite_t hc hr
    refine r_iconst (pc := 33) (v := (-1 : Int32)) dX7_fill_33 rfl ?_
    exact l_osi hr (r_iret (pc := 34) (v := (-1 : Int32)) rfl rfl ⟨Nat.le_refl _, Nat.le_refl _⟩ dX7_fill_34)
  replace hr := ite_f hc hr
  refine r_aload_n (pc := 21) (j := 0) dX7_fill_21 rfl rfl ?_
  refine gf7_2 (pc := 22) tw_2_111 hw dX7_fill_22 ?_
  refine r_iload_n (pc := 25) (j := 1) dX7_fill_25 rfl rfl ?_
  refine r_iload_n (pc := 26) (j := 2) dX7_fill_26 rfl rfl ?_
  refine kX6_has (pc := 27) (hf := rfl) (wt_sc hw).1 tw_3_127 ⟨nle rfl, nle rfl⟩ (nle rfl) dX7_fill_27 ?_
  refine r_ifB_ne (pc := 30) (tgt := 35) dX7_fill_30 rfl (fun hc => ?_) (fun hc => ?_)
  · replace hr := ite_t hc hr
    refine r_iload_n (pc := 35) (j := 1) dX7_fill_35 rfl rfl ?_
    refine r_iload_n (pc := 36) (j := 3) dX7_fill_36 rfl rfl ?_
    refine r_iadd (pc := 37) dX7_fill_37 ?_
    refine r_aload_n (pc := 38) (j := 0) dX7_fill_38 rfl rfl ?_
    refine gf7_2 (pc := 39) tw_2_111 hw dX7_fill_39 ?_
    refine gf6_0 (pc := 42) tw_1_35 (wt_sc hw).1 dX7_fill_42 ?_
    refine kJ9_min_7cf53 (pc := 45) (hf := rfl) tw_3_128 ⟨nle rfl, nle rfl⟩ (nle rfl) dX7_fill_45 ?_
    refine r_topi fun v1 ev1 => ?_
    replace hr := vthen_inv hr v1 ev1
    refine r_istore (pc := 48) (ls1 := [(6, .int v1), (0, .ref (ad g 1)), (1, .int a1), (2, .int a2), (3, .int a3), (4, .int a4), (5, .int a5)]) dX7_fill_48 (nle rfl) rfl ?_
    refine r_iload_n (pc := 50) (j := 3) dX7_fill_50 rfl rfl ?_
    refine r_iload (pc := 51) (j := 5) dX7_fill_51 rfl ?_
    refine r_iadd (pc := 53) dX7_fill_53 ?_
    refine r_aload_n (pc := 54) (j := 1) dX7_fill_54 rfl rfl ?_
    refine gf7_2 (pc := 55) tw_2_111 hw dX7_fill_55 ?_
    refine gf6_1 (pc := 58) tw_1_38 (wt_sc hw).1 dX7_fill_58 ?_
    refine kJ9_min_7cf53 (pc := 61) (hf := rfl) tw_3_128 ⟨nle rfl, nle rfl⟩ (nle rfl) dX7_fill_61 ?_
    refine r_topi fun v2 ev2 => ?_
    replace hr := vthen_inv hr v2 ev2
    refine r_istore (pc := 64) (ls1 := [(7, .int v2), (6, .int v1), (0, .ref (ad g 1)), (1, .int a1), (2, .int a2), (3, .int a3), (4, .int a4), (5, .int a5)]) dX7_fill_64 (nle rfl) rfl ?_
    refine r_iload_n (pc := 66) (j := 4) dX7_fill_66 rfl rfl ?_
    refine r_istore (pc := 67) (ls1 := [(8, .int a2), (7, .int v2), (6, .int v1), (0, .ref (ad g 1)), (1, .int a1), (2, .int a2), (3, .int a3), (4, .int a4), (5, .int a5)]) dX7_fill_67 (nle rfl) rfl ?_
    refine r_pick (ls1 := [(0, .ref (ad g 1)), (1, .int a1), (2, .int a2), (5, .int a5), (6, .int v1), (7, .int v2), (8, .int a2)]) [3, 4, 5, 8, 2, 1, 0] rfl ?_
    refine sX7_fill_L69     fuel a2 σ hr hw
  replace hr := ite_f hc hr
  refine r_iconst (pc := 33) (v := (-1 : Int32)) dX7_fill_33 rfl ?_
  exact l_osi hr (r_iret (pc := 34) (v := (-1 : Int32)) rfl rfl ⟨Nat.le_refl _, Nat.le_refl _⟩ dX7_fill_34)

theorem kX7_fill {g : GG} {σ : SS} {a1 : Int32} {a2 : Int32} {a3 : Int32} {a4 : Int32} {a5 : Int32} {v : Int32} {σ2 : SS} {M : MM} {F : State → Array Value → List Frame → State → Prop} {pc index : Nat} {ls : List (Nat × Value)} {rest : List Value} (hf : fX7_fill σ a1 a2 a3 a4 a5 = some (v, σ2))  (hl : Cond.methodLink M.1.cls index yX7_fill ∈ lw_gt) (hR : mX7_fill.2.2.2.2.frames + 1 ≤ M.2.2.2.2.frames ∧ 8 + (mX7_fill.2.2.1 + 11) + mX7_fill.2.2.2.2.locals ≤ M.2.2.2.2.locals) (hrest : (rest.map fun v => v.category).sum ≤ 8) (hd : decode M.2.1 pc = .ok (.invokevirtual index, 3)) (k : WT σ2 → RR g M F zF (pc + 3) ls (.int v :: rest) σ2) : RR g M F zF pc ls (.int a5 :: .int a4 :: .int a3 :: .int a2 :: .int a1 :: .ref (ad g 1) :: rest) σ :=
  r_callV (z := zF) (N := mX7_fill) (nn := 5) (o1 := some (.int v)) (sX7_fill hf ) (rfl : shp 1 = (7, 0)) (by decide) (shp_le (rfl : shp 1 = (7, 0)) (nle rfl)) (ci := 7) rfl rfl tw_3_123 tw_1_1 hl tw_3_121 tw_3_122 ⟨by decide, by decide, rfl⟩ hR rfl hrest hd ⟨Nat.zero_le _, Nat.zero_le _⟩ rfl (fun h => k (h rfl))

theorem dX8_isDot_0 : decode cX8_isDot 0 = .ok (.iload_n 1, 1) := by decide +kernel
theorem dX8_isDot_1 : decode cX8_isDot 1 = .ok (.iconst 0, 1) := by decide +kernel
theorem dX8_isDot_2 : decode cX8_isDot 2 = .ok (.aload_n 0, 1) := by decide +kernel
theorem dX8_isDot_3 : decode cX8_isDot 3 = .ok (.getfield 132, 3) := by decide +kernel
theorem dX8_isDot_6 : decode cX8_isDot 6 = .ok (.iconst 1, 1) := by decide +kernel
theorem dX8_isDot_7 : decode cX8_isDot 7 = .ok (.isub, 1) := by decide +kernel
theorem dX8_isDot_8 : decode cX8_isDot 8 = .ok (.invokestatic 165, 3) := by decide +kernel
theorem dX8_isDot_11 : decode cX8_isDot 11 = .ok (.ifCond .eq 21, 3) := by decide +kernel
theorem dX8_isDot_14 : decode cX8_isDot 14 = .ok (.iload_n 2, 1) := by decide +kernel
theorem dX8_isDot_15 : decode cX8_isDot 15 = .ok (.iconst 0, 1) := by decide +kernel
theorem dX8_isDot_16 : decode cX8_isDot 16 = .ok (.aload_n 0, 1) := by decide +kernel
theorem dX8_isDot_17 : decode cX8_isDot 17 = .ok (.getfield 136, 3) := by decide +kernel
theorem dX8_isDot_20 : decode cX8_isDot 20 = .ok (.iconst 1, 1) := by decide +kernel
theorem dX8_isDot_21 : decode cX8_isDot 21 = .ok (.isub, 1) := by decide +kernel
theorem dX8_isDot_22 : decode cX8_isDot 22 = .ok (.invokestatic 165, 3) := by decide +kernel
theorem dX8_isDot_25 : decode cX8_isDot 25 = .ok (.ifCond .eq 7, 3) := by decide +kernel
theorem dX8_isDot_28 : decode cX8_isDot 28 = .ok (.iconst 1, 1) := by decide +kernel
theorem dX8_isDot_29 : decode cX8_isDot 29 = .ok (.goto 4, 3) := by decide +kernel
theorem dX8_isDot_32 : decode cX8_isDot 32 = .ok (.iconst 0, 1) := by decide +kernel
theorem dX8_isDot_33 : decode cX8_isDot 33 = .ok (.ireturn, 1) := by decide +kernel
def mX8_isDot : MM := (yX8_isDot, cX8_isDot, 3, Option.some Jvm.ClassFile.FieldType.boolean, { frames := 1, cells := 0, slots := 0, locals := 22 })
def fX8_isDot (σ0 : SS) (a1 : Int32) (a2 : Int32) : Bool :=
  vthen (fun (_u : Unit) =>
    false
    ) fun j32 =>
  if (fX8_in σ0 a1 (0 : Int32) ((gI σ0 73 29) - (1 : Int32))) = true then (
    if (fX8_in σ0 a2 (0 : Int32) ((gI σ0 73 30) - (1 : Int32))) = true then (
      true
      ) else (
      j32 ()
      )
    ) else (
    j32 ()
    )

set_option maxRecDepth 20000 in
theorem sX8_isDot {g : GG} {σ0 : SS} {a1 : Int32} {a2 : Int32} {r : Bool} (hr : fX8_isDot σ0 a1 a2 = r)  : Ct g mX8_isDot [.ref (ad g 73), .int a1, .int a2] NF σ0 (some (.int (b2i r))) NF σ0 := by
  refine Ct.of (by decide +kernel) (nle rfl) fun hw0 => ?_
  have hw := hw0 rfl
  unfold fX8_isDot at hr
  change RR g mX8_isDot (FinR g mX8_isDot (some (.int (b2i r))) NF σ0) zF 0 [(0, .ref (ad g 73)), (1, .int a1), (2, .int a2)] [] σ0
  refine r_iload_n (pc := 0) (j := 1) dX8_isDot_0 rfl rfl ?_
  refine r_iconst (pc := 1) (v := (0 : Int32)) dX8_isDot_1 rfl ?_
  refine r_aload_n (pc := 2) (j := 0) dX8_isDot_2 rfl rfl ?_
  refine gf8_29 (pc := 3) tw_5_123 rfl dX8_isDot_3 ?_
  refine r_iconst (pc := 6) (v := (1 : Int32)) dX8_isDot_6 rfl ?_
  refine r_isub (pc := 7) dX8_isDot_7 ?_
  refine kX8_in (pc := 8) (hf := rfl) tw_6_65 ⟨nle rfl, nle rfl⟩ (nle rfl) dX8_isDot_8 ?_
  obtain ⟨j32, ej32, hr⟩ := vth_ex hr
  have hj32 : j32 () = r → RR g mX8_isDot (FinR g mX8_isDot (some (.int (b2i r))) NF σ0) zF 32 [] [] σ0 := by
    intro  hr
    replace hr := (congrFun ej32 ()).symm.trans hr
    refine r_iconst (pc := 32) (v := (0 : Int32)) dX8_isDot_32 rfl ?_
    exact l_pz hr (r_zret (pc := 33) (v := b2i false) (ty := .boolean) rfl (b2i_nar _) rfl ⟨Nat.le_refl _, Nat.le_refl _⟩ dX8_isDot_33)
  refine r_ifB_eq (pc := 11) (tgt := 32) dX8_isDot_11 rfl (fun hc => ?_) (fun hc => ?_)
  · replace hr := ite_f hc hr
    exact r_pick (ls1 := []) [] rfl (hj32  hr)
  replace hr := ite_t hc hr
  refine r_iload_n (pc := 14) (j := 2) dX8_isDot_14 rfl rfl ?_
  refine r_iconst (pc := 15) (v := (0 : Int32)) dX8_isDot_15 rfl ?_
  refine r_aload_n (pc := 16) (j := 0) dX8_isDot_16 rfl rfl ?_
  refine gf8_30 (pc := 17) tw_5_124 rfl dX8_isDot_17 ?_
  refine r_iconst (pc := 20) (v := (1 : Int32)) dX8_isDot_20 rfl ?_
  refine r_isub (pc := 21) dX8_isDot_21 ?_
  refine kX8_in (pc := 22) (hf := rfl) tw_6_65 ⟨nle rfl, nle rfl⟩ (nle rfl) dX8_isDot_22 ?_
  refine r_ifB_eq (pc := 25) (tgt := 32) dX8_isDot_25 rfl (fun hc => ?_) (fun hc => ?_)
  · replace hr := ite_f hc hr
    exact r_pick (ls1 := []) [] rfl (hj32  hr)
  replace hr := ite_t hc hr
  refine r_iconst (pc := 28) (v := (1 : Int32)) dX8_isDot_28 rfl ?_
  refine r_goto (pc := 29) (tgt := 33) dX8_isDot_29 rfl ?_
  exact l_pz hr (r_zret (pc := 33) (v := b2i true) (ty := .boolean) rfl (b2i_nar _) rfl ⟨Nat.le_refl _, Nat.le_refl _⟩ dX8_isDot_33)

theorem kX8_isDot {g : GG} {σ0 : SS} {a1 : Int32} {a2 : Int32} {v : Bool} {M : MM} {F : State → Array Value → List Frame → State → Prop} {pc index : Nat} {ls : List (Nat × Value)} {rest : List Value} (hf : fX8_isDot σ0 a1 a2 = v)  (hl : Cond.methodLink M.1.cls index yX8_isDot ∈ lw_gt) (hR : mX8_isDot.2.2.2.2.frames + 1 ≤ M.2.2.2.2.frames ∧ 8 + (mX8_isDot.2.2.1 + 11) + mX8_isDot.2.2.2.2.locals ≤ M.2.2.2.2.locals) (hrest : (rest.map fun v => v.category).sum ≤ 8) (hd : decode M.2.1 pc = .ok (.invokevirtual index, 3)) (k : RR g M F zF (pc + 3) ls (.int (b2i v) :: rest) σ0) : RR g M F zF pc ls (.int a2 :: .int a1 :: .ref (ad g 73) :: rest) σ0 :=
  r_callV (z := zF) (N := mX8_isDot) (nn := 2) (o1 := some (.int (b2i v))) (sX8_isDot hf ) (rfl : shp 73 = (8, 0)) (by decide) (shp_le (rfl : shp 73 = (8, 0)) (nle rfl)) (ci := 8) rfl rfl tw_6_176 tw_1_10 hl tw_6_175 tp_52 ⟨by decide, by decide, rfl⟩ hR rfl hrest hd ⟨Nat.zero_le _, Nat.zero_le _⟩ rfl (fun h => k)

theorem dX8_fill_0 : decode cX8_fill 0 = .ok (.iload_n 3, 1) := by decide +kernel
theorem dX8_fill_1 : decode cX8_fill 1 = .ok (.iconst 1, 1) := by decide +kernel
theorem dX8_fill_2 : decode cX8_fill 2 = .ok (.bipush 40, 2) := by decide +kernel
theorem dX8_fill_4 : decode cX8_fill 4 = .ok (.invokestatic 165, 3) := by decide +kernel
theorem dX8_fill_7 : decode cX8_fill 7 = .ok (.ifCond .eq 34, 3) := by decide +kernel
theorem dX8_fill_10 : decode cX8_fill 10 = .ok (.iload 4, 2) := by decide +kernel
theorem dX8_fill_12 : decode cX8_fill 12 = .ok (.iconst 1, 1) := by decide +kernel
theorem dX8_fill_13 : decode cX8_fill 13 = .ok (.bipush 40, 2) := by decide +kernel
theorem dX8_fill_15 : decode cX8_fill 15 = .ok (.invokestatic 165, 3) := by decide +kernel
theorem dX8_fill_18 : decode cX8_fill 18 = .ok (.ifCond .eq 23, 3) := by decide +kernel
theorem dX8_fill_21 : decode cX8_fill 21 = .ok (.iload 5, 2) := by decide +kernel
theorem dX8_fill_23 : decode cX8_fill 23 = .ok (.iconst 0, 1) := by decide +kernel
theorem dX8_fill_24 : decode cX8_fill 24 = .ok (.bipush 9, 2) := by decide +kernel
theorem dX8_fill_26 : decode cX8_fill 26 = .ok (.invokestatic 165, 3) := by decide +kernel
theorem dX8_fill_29 : decode cX8_fill 29 = .ok (.ifCond .eq 12, 3) := by decide +kernel
theorem dX8_fill_32 : decode cX8_fill 32 = .ok (.aload_n 0, 1) := by decide +kernel
theorem dX8_fill_33 : decode cX8_fill 33 = .ok (.iload_n 1, 1) := by decide +kernel
theorem dX8_fill_34 : decode cX8_fill 34 = .ok (.iload_n 2, 1) := by decide +kernel
theorem dX8_fill_35 : decode cX8_fill 35 = .ok (.invokevirtual 281, 3) := by decide +kernel
theorem dX8_fill_38 : decode cX8_fill 38 = .ok (.ifCond .ne 5, 3) := by decide +kernel
theorem dX8_fill_41 : decode cX8_fill 41 = .ok (.iconst (-1), 1) := by decide +kernel
theorem dX8_fill_42 : decode cX8_fill 42 = .ok (.ireturn, 1) := by decide +kernel
theorem dX8_fill_43 : decode cX8_fill 43 = .ok (.iconst 0, 1) := by decide +kernel
theorem dX8_fill_44 : decode cX8_fill 44 = .ok (.istore 6, 2) := by decide +kernel
theorem dX8_fill_46 : decode cX8_fill 46 = .ok (.iload_n 2, 1) := by decide +kernel
theorem dX8_fill_47 : decode cX8_fill 47 = .ok (.istore 7, 2) := by decide +kernel
theorem dX8_fill_49 : decode cX8_fill 49 = .ok (.iload 7, 2) := by decide +kernel
theorem dX8_fill_51 : decode cX8_fill 51 = .ok (.iload_n 2, 1) := by decide +kernel
theorem dX8_fill_52 : decode cX8_fill 52 = .ok (.iload 4, 2) := by decide +kernel
theorem dX8_fill_54 : decode cX8_fill 54 = .ok (.iadd, 1) := by decide +kernel
theorem dX8_fill_55 : decode cX8_fill 55 = .ok (.if_icmp .ge 63, 3) := by decide +kernel
theorem dX8_fill_58 : decode cX8_fill 58 = .ok (.iload_n 1, 1) := by decide +kernel
theorem dX8_fill_59 : decode cX8_fill 59 = .ok (.istore 8, 2) := by decide +kernel
theorem dX8_fill_61 : decode cX8_fill 61 = .ok (.iload 8, 2) := by decide +kernel
theorem dX8_fill_63 : decode cX8_fill 63 = .ok (.iload_n 1, 1) := by decide +kernel
theorem dX8_fill_64 : decode cX8_fill 64 = .ok (.iload_n 3, 1) := by decide +kernel
theorem dX8_fill_65 : decode cX8_fill 65 = .ok (.iadd, 1) := by decide +kernel
theorem dX8_fill_66 : decode cX8_fill 66 = .ok (.if_icmp .ge 46, 3) := by decide +kernel
theorem dX8_fill_69 : decode cX8_fill 69 = .ok (.aload_n 0, 1) := by decide +kernel
theorem dX8_fill_70 : decode cX8_fill 70 = .ok (.iload 8, 2) := by decide +kernel
theorem dX8_fill_72 : decode cX8_fill 72 = .ok (.iload 7, 2) := by decide +kernel
theorem dX8_fill_74 : decode cX8_fill 74 = .ok (.invokevirtual 281, 3) := by decide +kernel
theorem dX8_fill_77 : decode cX8_fill 77 = .ok (.ifCond .ne 6, 3) := by decide +kernel
theorem dX8_fill_80 : decode cX8_fill 80 = .ok (.goto 26, 3) := by decide +kernel
theorem dX8_fill_83 : decode cX8_fill 83 = .ok (.aload_n 0, 1) := by decide +kernel
theorem dX8_fill_84 : decode cX8_fill 84 = .ok (.getfield 38, 3) := by decide +kernel
theorem dX8_fill_87 : decode cX8_fill 87 = .ok (.aload_n 0, 1) := by decide +kernel
theorem dX8_fill_88 : decode cX8_fill 88 = .ok (.getfield 132, 3) := by decide +kernel
theorem dX8_fill_91 : decode cX8_fill 91 = .ok (.iload 7, 2) := by decide +kernel
theorem dX8_fill_93 : decode cX8_fill 93 = .ok (.imul, 1) := by decide +kernel
theorem dX8_fill_94 : decode cX8_fill 94 = .ok (.iload 8, 2) := by decide +kernel
theorem dX8_fill_96 : decode cX8_fill 96 = .ok (.iadd, 1) := by decide +kernel
theorem dX8_fill_97 : decode cX8_fill 97 = .ok (.iload 5, 2) := by decide +kernel
theorem dX8_fill_99 : decode cX8_fill 99 = .ok (.iastore, 1) := by decide +kernel
theorem dX8_fill_100 : decode cX8_fill 100 = .ok (.iload 6, 2) := by decide +kernel
theorem dX8_fill_102 : decode cX8_fill 102 = .ok (.iconst 1, 1) := by decide +kernel
theorem dX8_fill_103 : decode cX8_fill 103 = .ok (.iadd, 1) := by decide +kernel
theorem dX8_fill_104 : decode cX8_fill 104 = .ok (.istore 6, 2) := by decide +kernel
theorem dX8_fill_106 : decode cX8_fill 106 = .ok (.iinc 8 1, 3) := by decide +kernel
theorem dX8_fill_109 : decode cX8_fill 109 = .ok (.goto (-48), 3) := by decide +kernel
theorem dX8_fill_112 : decode cX8_fill 112 = .ok (.iinc 7 1, 3) := by decide +kernel
theorem dX8_fill_115 : decode cX8_fill 115 = .ok (.goto (-66), 3) := by decide +kernel
theorem dX8_fill_118 : decode cX8_fill 118 = .ok (.iload 6, 2) := by decide +kernel
theorem dX8_fill_120 : decode cX8_fill 120 = .ok (.ireturn, 1) := by decide +kernel
def mX8_fill : MM := (yX8_fill, cX8_fill, 9, Option.some Jvm.ClassFile.FieldType.int, { frames := 2, cells := 0, slots := 0, locals := 44 })
def X8_fill_L61 (u1_ : Int32) (u3_ : Int32) (u5_ : Int32) (u7_ : Int32) (k112 : Int32 → SS → Option (Int32 × SS)) : Nat → Int32 → Int32 → SS → Option (Int32 × SS) :=
  lp (fun _ _ _ => none) fun rec v6_ v8_ σ_ =>
    if (u1_ + u3_) ≤ v8_ then (
      k112 v6_ σ_
      ) else (
      if (fX8_isDot σ_ v8_ u7_) = true then (
        grd (inb (((gI σ_ 73 29) * u7_) + v8_) 1600) <|
        vthen (sI σ_ 83 (Int32.toNatClampNeg (((gI σ_ 73 29) * u7_) + v8_)) u5_) fun σ2 =>
        vthen (v6_ + (1 : Int32)) fun v3 =>
        rec v3 (v8_ + (1 : Int32)) σ2
        ) else (
        rec v6_ (v8_ + (1 : Int32)) σ_
        )
      )

def X8_fill_L49 (u1_ : Int32) (u2_ : Int32) (u3_ : Int32) (u4_ : Int32) (u5_ : Int32)  : Nat → Int32 → Int32 → SS → Option (Int32 × SS) :=
  lp (fun _ _ _ => none) fun rec v6_ v7_ σ_ =>
    if (u2_ + u4_) ≤ v7_ then (
      some (v6_, σ_)
      ) else (
      X8_fill_L61 u1_ u3_ u5_ v7_
      (fun v4 σ5 =>
        rec v4 (v7_ + (1 : Int32)) σ5
        )
      fuel v6_ u1_ σ_
      )

def fX8_fill (σ : SS) (a1 : Int32) (a2 : Int32) (a3 : Int32) (a4 : Int32) (a5 : Int32) : Option (Int32 × SS) :=
  if (fX8_in σ a3 (1 : Int32) (40 : Int32)) = true then (
    if (fX8_in σ a4 (1 : Int32) (40 : Int32)) = true then (
      if (fX8_in σ a5 (0 : Int32) (9 : Int32)) = true then (
        if (fX8_isDot σ a1 a2) = true then (
          X8_fill_L49 a1 a2 a3 a4 a5
          fuel (0 : Int32) a2 σ
          ) else (
          some ((-1 : Int32), σ)
          )
        ) else (
        some ((-1 : Int32), σ)
        )
      ) else (
      some ((-1 : Int32), σ)
      )
    ) else (
    some ((-1 : Int32), σ)
    )

set_option maxRecDepth 20000 in
theorem sX8_fill_L61 {g : GG} {r : Int32 × SS} {u1_ : Int32} {x2_ : Int32} {u3_ : Int32} {x4_ : Int32} {u5_ : Int32} {u7_ : Int32} {k112 : Int32 → SS → Option (Int32 × SS)} 
    (hk112 : ∀ (y6 : Int32) (σ_ : SS), k112 y6 σ_ = some r → WT σ_ → RR g mX8_fill (FinR g mX8_fill (some (.int r.1)) NF r.2) zF 112 [(0, .ref (ad g 73)), (1, .int u1_), (2, .int x2_), (3, .int u3_), (4, .int x4_), (5, .int u5_), (6, .int y6), (7, .int u7_)] [] σ_)
    (n : Nat) : ∀ (v6_ : Int32) (v8_ : Int32) (σ_ : SS), X8_fill_L61 u1_ u3_ u5_ u7_ k112 n v6_ v8_ σ_ = some r → WT σ_ → RR g mX8_fill (FinR g mX8_fill (some (.int r.1)) NF r.2) zF 61 [(0, .ref (ad g 73)), (1, .int u1_), (2, .int x2_), (3, .int u3_), (4, .int x4_), (5, .int u5_), (6, .int v6_), (7, .int u7_), (8, .int v8_)] [] σ_ := by
  unfold X8_fill_L61
  refine lp_ind (P := fun (rec : Int32 → Int32 → SS → Option (Int32 × SS)) => ∀ (v6_ : Int32) (v8_ : Int32) (σ_ : SS), rec v6_ v8_ σ_ = some r → WT σ_ → RR g mX8_fill (FinR g mX8_fill (some (.int r.1)) NF r.2) zF 61 [(0, .ref (ad g 73)), (1, .int u1_), (2, .int x2_), (3, .int u3_), (4, .int x4_), (5, .int u5_), (6, .int v6_), (7, .int u7_), (8, .int v8_)] [] σ_) ?_ ?_ n
  · intro v6_ v8_ σ_ hr; cases hr
  intro rec ih v6_ v8_ σ_ hr hw_
  refine r_iload (pc := 61) (j := 8) dX8_fill_61 rfl ?_
  refine r_iload_n (pc := 63) (j := 1) dX8_fill_63 rfl rfl ?_
  refine r_iload_n (pc := 64) (j := 3) dX8_fill_64 rfl rfl ?_
  refine r_iadd (pc := 65) dX8_fill_65 ?_
  refine r_icmp_ge (pc := 66) (tgt := 112) dX8_fill_66 rfl (fun hc => ?_) (fun hc => ?_)
  · replace hr := ite_t hc hr
    exact r_pick (ls1 := [(0, .ref (ad g 73)), (1, .int u1_), (2, .int x2_), (3, .int u3_), (4, .int x4_), (5, .int u5_), (6, .int v6_), (7, .int u7_)]) [0, 1, 2, 3, 4, 5, 6, 7] rfl (hk112 v6_ σ_ hr hw_)
  replace hr := ite_f hc hr
  refine r_aload_n (pc := 69) (j := 0) dX8_fill_69 rfl rfl ?_
  refine r_iload (pc := 70) (j := 8) dX8_fill_70 rfl ?_
  refine r_iload (pc := 72) (j := 7) dX8_fill_72 rfl ?_
  refine kX8_isDot (pc := 74) (hf := rfl) tw_6_173 ⟨nle rfl, nle rfl⟩ (nle rfl) dX8_fill_74 ?_
  refine r_ifB_ne (pc := 77) (tgt := 83) dX8_fill_77 rfl (fun hc => ?_) (fun hc => ?_)
  · replace hr := ite_t hc hr
    refine r_aload_n (pc := 83) (j := 0) dX8_fill_83 rfl rfl ?_
    refine gf8_21 (pc := 84) tw_5_115 hw_ dX8_fill_84 ?_
    refine r_aload_n (pc := 87) (j := 0) dX8_fill_87 rfl rfl ?_
    refine gf8_29 (pc := 88) tw_5_123 rfl dX8_fill_88 ?_
    refine r_iload (pc := 91) (j := 7) dX8_fill_91 rfl ?_
    refine r_imul (pc := 93) dX8_fill_93 ?_
    refine r_iload (pc := 94) (j := 8) dX8_fill_94 rfl ?_
    refine r_iadd (pc := 96) dX8_fill_96 ?_
    refine r_iload (pc := 97) (j := 5) dX8_fill_97 rfl ?_
    obtain ⟨h1, hr⟩ := grd_inv hr
    refine x_iast (pc := 99) (j := (Int32.toNatClampNeg (((gI σ_ 73 29) * u7_) + v8_))) rfl h1 rfl dX8_fill_99 fun σ2 eσ2 => ?_
    replace hr := vthen_inv hr σ2 eσ2
    have hσ2 := wtI eσ2 hw_
    refine r_iload (pc := 100) (j := 6) dX8_fill_100 rfl ?_
    refine r_iconst (pc := 102) (v := (1 : Int32)) dX8_fill_102 rfl ?_
    refine r_iadd (pc := 103) dX8_fill_103 ?_
    refine r_topi fun v3 ev3 => ?_
    replace hr := vthen_inv hr v3 ev3
    refine r_istore (pc := 104) (ls1 := [(6, .int v3), (0, .ref (ad g 73)), (1, .int u1_), (2, .int x2_), (3, .int u3_), (4, .int x4_), (5, .int u5_), (7, .int u7_), (8, .int v8_)]) dX8_fill_104 (nle rfl) rfl ?_
    refine r_iinc (pc := 106) (j := 8) (v := (v8_ + (1 : Int32))) (ls1 := [(8, .int (v8_ + (1 : Int32))), (6, .int v3), (0, .ref (ad g 73)), (1, .int u1_), (2, .int x2_), (3, .int u3_), (4, .int x4_), (5, .int u5_), (7, .int u7_)]) dX8_fill_106 rfl rfl (nle rfl) rfl ?_
    refine r_goto (pc := 109) (tgt := 61) dX8_fill_109 rfl ?_
    exact r_pick (ls1 := [(0, .ref (ad g 73)), (1, .int u1_), (2, .int x2_), (3, .int u3_), (4, .int x4_), (5, .int u5_), (6, .int v3), (7, .int u7_), (8, .int (v8_ + (1 : Int32)))]) [2, 3, 4, 5, 6, 7, 1, 8, 0] rfl (ih v3 (v8_ + (1 : Int32)) σ2 hr hσ2)
  replace hr := ite_f hc hr
  refine r_goto (pc := 80) (tgt := 106) dX8_fill_80 rfl ?_
  refine r_iinc (pc := 106) (j := 8) (v := (v8_ + (1 : Int32))) (ls1 := [(8, .int (v8_ + (1 : Int32))), (0, .ref (ad g 73)), (1, .int u1_), (2, .int x2_), (3, .int u3_), (4, .int x4_), (5, .int u5_), (6, .int v6_), (7, .int u7_)]) dX8_fill_106 rfl rfl (nle rfl) rfl ?_
  refine r_goto (pc := 109) (tgt := 61) dX8_fill_109 rfl ?_
  exact r_pick (ls1 := [(0, .ref (ad g 73)), (1, .int u1_), (2, .int x2_), (3, .int u3_), (4, .int x4_), (5, .int u5_), (6, .int v6_), (7, .int u7_), (8, .int (v8_ + (1 : Int32)))]) [1, 2, 3, 4, 5, 6, 7, 8, 0] rfl (ih v6_ (v8_ + (1 : Int32)) σ_ hr hw_)

set_option maxRecDepth 20000 in
theorem sX8_fill_L49 {g : GG} {r : Int32 × SS} {u1_ : Int32} {u2_ : Int32} {u3_ : Int32} {u4_ : Int32} {u5_ : Int32}  
    (n : Nat) : ∀ (v6_ : Int32) (v7_ : Int32) (σ_ : SS), X8_fill_L49 u1_ u2_ u3_ u4_ u5_ n v6_ v7_ σ_ = some r → WT σ_ → RR g mX8_fill (FinR g mX8_fill (some (.int r.1)) NF r.2) zF 49 [(0, .ref (ad g 73)), (1, .int u1_), (2, .int u2_), (3, .int u3_), (4, .int u4_), (5, .int u5_), (6, .int v6_), (7, .int v7_)] [] σ_ := by
  unfold X8_fill_L49
  refine lp_ind (P := fun (rec : Int32 → Int32 → SS → Option (Int32 × SS)) => ∀ (v6_ : Int32) (v7_ : Int32) (σ_ : SS), rec v6_ v7_ σ_ = some r → WT σ_ → RR g mX8_fill (FinR g mX8_fill (some (.int r.1)) NF r.2) zF 49 [(0, .ref (ad g 73)), (1, .int u1_), (2, .int u2_), (3, .int u3_), (4, .int u4_), (5, .int u5_), (6, .int v6_), (7, .int v7_)] [] σ_) ?_ ?_ n
  · intro v6_ v7_ σ_ hr; cases hr
  intro rec ih v6_ v7_ σ_ hr hw_
  refine r_iload (pc := 49) (j := 7) dX8_fill_49 rfl ?_
  refine r_iload_n (pc := 51) (j := 2) dX8_fill_51 rfl rfl ?_
  refine r_iload (pc := 52) (j := 4) dX8_fill_52 rfl ?_
  refine r_iadd (pc := 54) dX8_fill_54 ?_
  refine r_icmp_ge (pc := 55) (tgt := 118) dX8_fill_55 rfl (fun hc => ?_) (fun hc => ?_)
  · replace hr := ite_t hc hr
    refine r_iload (pc := 118) (j := 6) dX8_fill_118 rfl ?_
    exact l_osi hr (r_iret (pc := 120) (v := v6_) rfl rfl ⟨Nat.le_refl _, Nat.le_refl _⟩ dX8_fill_120)
  replace hr := ite_f hc hr
  refine r_iload_n (pc := 58) (j := 1) dX8_fill_58 rfl rfl ?_
  refine r_istore (pc := 59) (ls1 := [(8, .int u1_), (0, .ref (ad g 73)), (1, .int u1_), (2, .int u2_), (3, .int u3_), (4, .int u4_), (5, .int u5_), (6, .int v6_), (7, .int v7_)]) dX8_fill_59 (nle rfl) rfl ?_
  refine r_pick (ls1 := [(0, .ref (ad g 73)), (1, .int u1_), (2, .int u2_), (3, .int u3_), (4, .int u4_), (5, .int u5_), (6, .int v6_), (7, .int v7_), (8, .int u1_)]) [1, 2, 3, 4, 5, 6, 7, 8, 0] rfl ?_
  refine sX8_fill_L61    (fun v4 σ5 hr hσ5 => ?_) fuel v6_ u1_ σ_ hr hw_
  refine r_iinc (pc := 112) (j := 7) (v := (v7_ + (1 : Int32))) (ls1 := [(7, .int (v7_ + (1 : Int32))), (0, .ref (ad g 73)), (1, .int u1_), (2, .int u2_), (3, .int u3_), (4, .int u4_), (5, .int u5_), (6, .int v4)]) dX8_fill_112 rfl rfl (nle rfl) rfl ?_
  refine r_goto (pc := 115) (tgt := 49) dX8_fill_115 rfl ?_
  exact r_pick (ls1 := [(0, .ref (ad g 73)), (1, .int u1_), (2, .int u2_), (3, .int u3_), (4, .int u4_), (5, .int u5_), (6, .int v4), (7, .int (v7_ + (1 : Int32)))]) [1, 2, 3, 4, 5, 6, 7, 0] rfl (ih v4 (v7_ + (1 : Int32)) σ5 hr hσ5)

set_option maxRecDepth 20000 in
theorem sX8_fill {g : GG} {σ : SS} {a1 : Int32} {a2 : Int32} {a3 : Int32} {a4 : Int32} {a5 : Int32} {r : Int32 × SS} (hr : fX8_fill σ a1 a2 a3 a4 a5 = some r)  : Ct g mX8_fill [.ref (ad g 73), .int a1, .int a2, .int a3, .int a4, .int a5] NF σ (some (.int r.1)) NF r.2 := by
  refine Ct.of (by decide +kernel) (nle rfl) fun hw0 => ?_
  have hw := hw0 rfl
  unfold fX8_fill at hr
  change RR g mX8_fill (FinR g mX8_fill (some (.int r.1)) NF r.2) zF 0 [(0, .ref (ad g 73)), (1, .int a1), (2, .int a2), (3, .int a3), (4, .int a4), (5, .int a5)] [] σ
  refine r_iload_n (pc := 0) (j := 3) dX8_fill_0 rfl rfl ?_
  refine r_iconst (pc := 1) (v := (1 : Int32)) dX8_fill_1 rfl ?_
  refine r_bipush (pc := 2) (v := (40 : Int32)) dX8_fill_2 rfl ?_
  refine kX8_in (pc := 4) (hf := rfl) tw_6_65 ⟨nle rfl, nle rfl⟩ (nle rfl) dX8_fill_4 ?_
  refine r_ifB_eq (pc := 7) (tgt := 41) dX8_fill_7 rfl (fun hc => ?_) (fun hc => ?_)
  · replace hr := ite_f hc hr
    refine r_iconst (pc := 41) (v := (-1 : Int32)) dX8_fill_41 rfl ?_
    exact l_osi hr (r_iret (pc := 42) (v := (-1 : Int32)) rfl rfl ⟨Nat.le_refl _, Nat.le_refl _⟩ dX8_fill_42)
  replace hr := ite_t hc hr
  refine r_iload (pc := 10) (j := 4) dX8_fill_10 rfl ?_
  refine r_iconst (pc := 12) (v := (1 : Int32)) dX8_fill_12 rfl ?_
  refine r_bipush (pc := 13) (v := (40 : Int32)) dX8_fill_13 rfl ?_
  refine kX8_in (pc := 15) (hf := rfl) tw_6_65 ⟨nle rfl, nle rfl⟩ (nle rfl) dX8_fill_15 ?_
  refine r_ifB_eq (pc := 18) (tgt := 41) dX8_fill_18 rfl (fun hc => ?_) (fun hc => ?_)
  · replace hr := ite_f hc hr
    refine r_iconst (pc := 41) (v := (-1 : Int32)) dX8_fill_41 rfl ?_
    exact l_osi hr (r_iret (pc := 42) (v := (-1 : Int32)) rfl rfl ⟨Nat.le_refl _, Nat.le_refl _⟩ dX8_fill_42)
  replace hr := ite_t hc hr
  refine r_iload (pc := 21) (j := 5) dX8_fill_21 rfl ?_
  refine r_iconst (pc := 23) (v := (0 : Int32)) dX8_fill_23 rfl ?_
  refine r_bipush (pc := 24) (v := (9 : Int32)) dX8_fill_24 rfl ?_
  refine kX8_in (pc := 26) (hf := rfl) tw_6_65 ⟨nle rfl, nle rfl⟩ (nle rfl) dX8_fill_26 ?_
  refine r_ifB_eq (pc := 29) (tgt := 41) dX8_fill_29 rfl (fun hc => ?_) (fun hc => ?_)
  · replace hr := ite_f hc hr
    refine r_iconst (pc := 41) (v := (-1 : Int32)) dX8_fill_41 rfl ?_
    exact l_osi hr (r_iret (pc := 42) (v := (-1 : Int32)) rfl rfl ⟨Nat.le_refl _, Nat.le_refl _⟩ dX8_fill_42)
  replace hr := ite_t hc hr
  refine r_aload_n (pc := 32) (j := 0) dX8_fill_32 rfl rfl ?_
  refine r_iload_n (pc := 33) (j := 1) dX8_fill_33 rfl rfl ?_
  refine r_iload_n (pc := 34) (j := 2) dX8_fill_34 rfl rfl ?_
  refine kX8_isDot (pc := 35) (hf := rfl) tw_6_173 ⟨nle rfl, nle rfl⟩ (nle rfl) dX8_fill_35 ?_
  refine r_ifB_ne (pc := 38) (tgt := 43) dX8_fill_38 rfl (fun hc => ?_) (fun hc => ?_)
  · replace hr := ite_t hc hr
    refine r_iconst (pc := 43) (v := (0 : Int32)) dX8_fill_43 rfl ?_
    refine r_istore (pc := 44) (ls1 := [(6, .int (0 : Int32)), (0, .ref (ad g 73)), (1, .int a1), (2, .int a2), (3, .int a3), (4, .int a4), (5, .int a5)]) dX8_fill_44 (nle rfl) rfl ?_
    refine r_iload_n (pc := 46) (j := 3) dX8_fill_46 rfl rfl ?_
    refine r_istore (pc := 47) (ls1 := [(7, .int a2), (6, .int (0 : Int32)), (0, .ref (ad g 73)), (1, .int a1), (2, .int a2), (3, .int a3), (4, .int a4), (5, .int a5)]) dX8_fill_47 (nle rfl) rfl ?_
    refine r_pick (ls1 := [(0, .ref (ad g 73)), (1, .int a1), (2, .int a2), (3, .int a3), (4, .int a4), (5, .int a5), (6, .int (0 : Int32)), (7, .int a2)]) [2, 3, 4, 5, 6, 7, 1, 0] rfl ?_
    refine sX8_fill_L49     fuel (0 : Int32) a2 σ hr hw
  replace hr := ite_f hc hr
  refine r_iconst (pc := 41) (v := (-1 : Int32)) dX8_fill_41 rfl ?_
  exact l_osi hr (r_iret (pc := 42) (v := (-1 : Int32)) rfl rfl ⟨Nat.le_refl _, Nat.le_refl _⟩ dX8_fill_42)

theorem kX8_fill {g : GG} {σ : SS} {a1 : Int32} {a2 : Int32} {a3 : Int32} {a4 : Int32} {a5 : Int32} {v : Int32} {σ2 : SS} {M : MM} {F : State → Array Value → List Frame → State → Prop} {pc index : Nat} {ls : List (Nat × Value)} {rest : List Value} (hf : fX8_fill σ a1 a2 a3 a4 a5 = some (v, σ2))  (hl : Cond.methodLink M.1.cls index yX8_fill ∈ lw_gt) (hR : mX8_fill.2.2.2.2.frames + 1 ≤ M.2.2.2.2.frames ∧ 8 + (mX8_fill.2.2.1 + 11) + mX8_fill.2.2.2.2.locals ≤ M.2.2.2.2.locals) (hrest : (rest.map fun v => v.category).sum ≤ 8) (hd : decode M.2.1 pc = .ok (.invokevirtual index, 3)) (k : WT σ2 → RR g M F zF (pc + 3) ls (.int v :: rest) σ2) : RR g M F zF pc ls (.int a5 :: .int a4 :: .int a3 :: .int a2 :: .int a1 :: .ref (ad g 73) :: rest) σ :=
  r_callV (z := zF) (N := mX8_fill) (nn := 5) (o1 := some (.int v)) (sX8_fill hf ) (rfl : shp 73 = (8, 0)) (by decide) (shp_le (rfl : shp 73 = (8, 0)) (nle rfl)) (ci := 8) rfl rfl tw_6_172 tw_1_10 hl tw_6_170 tw_6_171 ⟨by decide, by decide, rfl⟩ hR rfl hrest hd ⟨Nat.zero_le _, Nat.zero_le _⟩ rfl (fun h => k (h rfl))

theorem dX6_at_0 : decode cX6_at 0 = .ok (.aload_n 0, 1) := by decide +kernel
theorem dX6_at_1 : decode cX6_at 1 = .ok (.iload_n 1, 1) := by decide +kernel
theorem dX6_at_2 : decode cX6_at 2 = .ok (.iload_n 2, 1) := by decide +kernel
theorem dX6_at_3 : decode cX6_at 3 = .ok (.invokevirtual 31, 3) := by decide +kernel
theorem dX6_at_6 : decode cX6_at 6 = .ok (.ifCond .eq 19, 3) := by decide +kernel
theorem dX6_at_9 : decode cX6_at 9 = .ok (.aload_n 0, 1) := by decide +kernel
theorem dX6_at_10 : decode cX6_at 10 = .ok (.getfield 9, 3) := by decide +kernel
theorem dX6_at_13 : decode cX6_at 13 = .ok (.iload_n 2, 1) := by decide +kernel
theorem dX6_at_14 : decode cX6_at 14 = .ok (.aload_n 0, 1) := by decide +kernel
theorem dX6_at_15 : decode cX6_at 15 = .ok (.getfield 18, 3) := by decide +kernel
theorem dX6_at_18 : decode cX6_at 18 = .ok (.imul, 1) := by decide +kernel
theorem dX6_at_19 : decode cX6_at 19 = .ok (.iload_n 1, 1) := by decide +kernel
theorem dX6_at_20 : decode cX6_at 20 = .ok (.iadd, 1) := by decide +kernel
theorem dX6_at_21 : decode cX6_at 21 = .ok (.iaload, 1) := by decide +kernel
theorem dX6_at_22 : decode cX6_at 22 = .ok (.goto 4, 3) := by decide +kernel
theorem dX6_at_25 : decode cX6_at 25 = .ok (.iconst 0, 1) := by decide +kernel
theorem dX6_at_26 : decode cX6_at 26 = .ok (.ireturn, 1) := by decide +kernel
def mX6_at : MM := (yX6_at, cX6_at, 3, Option.some Jvm.ClassFile.FieldType.int, { frames := 1, cells := 0, slots := 0, locals := 22 })
def fX6_at (σ0 : SS) (a0 : Nat) (a1 : Int32) (a2 : Int32) : Option Int32 :=
  if (fX6_has σ0 a0 a1 a2) = true then (
    grd (inb ((a2 * (gI σ0 a0 0)) + a1) 1600) <|
    some (gI σ0 (a0 + 1) (Int32.toNatClampNeg ((a2 * (gI σ0 a0 0)) + a1)))
    ) else (
    some (0 : Int32)
    )

set_option maxRecDepth 20000 in
theorem sX6_at {g : GG} {σ0 : SS} {a0 : Nat} {a1 : Int32} {a2 : Int32} {r : Int32} (hr : fX6_at σ0 a0 a1 a2 = some r) (hs0 : shp a0 = (6, 0)) : Ct g mX6_at [.ref (ad g a0), .int a1, .int a2] NF σ0 (some (.int r)) NF σ0 := by
  refine Ct.of (by decide +kernel) (nle rfl) fun hw0 => ?_
  have hw := hw0 rfl
  unfold fX6_at at hr
  change RR g mX6_at (FinR g mX6_at (some (.int r)) NF σ0) zF 0 [(0, .ref (ad g a0)), (1, .int a1), (2, .int a2)] [] σ0
  refine r_aload_n (pc := 0) (j := 0) dX6_at_0 rfl rfl ?_
  refine r_iload_n (pc := 1) (j := 1) dX6_at_1 rfl rfl ?_
  refine r_iload_n (pc := 2) (j := 2) dX6_at_2 rfl rfl ?_
  refine kX6_has (pc := 3) (hf := rfl) hs0 tw_3_116 ⟨nle rfl, nle rfl⟩ (nle rfl) dX6_at_3 ?_
  refine r_ifB_eq (pc := 6) (tgt := 25) dX6_at_6 rfl (fun hc => ?_) (fun hc => ?_)
  · replace hr := ite_f hc hr
    refine r_iconst (pc := 25) (v := (0 : Int32)) dX6_at_25 rfl ?_
    exact l_opi hr (r_iret (pc := 26) (v := (0 : Int32)) rfl rfl ⟨Nat.le_refl _, Nat.le_refl _⟩ dX6_at_26)
  replace hr := ite_t hc hr
  refine r_aload_n (pc := 9) (j := 0) dX6_at_9 rfl rfl ?_
  refine gf6_2 (pc := 10) tw_1_39 hw hs0 dX6_at_10 ?_
  refine r_iload_n (pc := 13) (j := 2) dX6_at_13 rfl rfl ?_
  refine r_aload_n (pc := 14) (j := 0) dX6_at_14 rfl rfl ?_
  refine gf6_0 (pc := 15) tw_1_32 hs0 dX6_at_15 ?_
  refine r_imul (pc := 18) dX6_at_18 ?_
  refine r_iload_n (pc := 19) (j := 1) dX6_at_19 rfl rfl ?_
  refine r_iadd (pc := 20) dX6_at_20 ?_
  obtain ⟨h1, hr⟩ := grd_inv hr
  refine x_iald (pc := 21) (k := (Int32.toNatClampNeg ((a2 * (gI σ0 a0 0)) + a1))) (sh6_2 hs0) h1 rfl dX6_at_21 ?_
  refine r_goto (pc := 22) (tgt := 26) dX6_at_22 rfl ?_
  exact l_opi hr (r_iret (pc := 26) (v := (gI σ0 (a0 + 1) (Int32.toNatClampNeg ((a2 * (gI σ0 a0 0)) + a1)))) rfl rfl ⟨Nat.le_refl _, Nat.le_refl _⟩ dX6_at_26)

theorem kX6_at {g : GG} {σ0 : SS} {a0 : Nat} {a1 : Int32} {a2 : Int32} {v : Int32} {M : MM} {F : State → Array Value → List Frame → State → Prop} {pc index : Nat} {ls : List (Nat × Value)} {rest : List Value} (hf : fX6_at σ0 a0 a1 a2 = some v) (hs0 : shp a0 = (6, 0)) (hl : Cond.methodLink M.1.cls index yX6_at ∈ lw_gt) (hR : mX6_at.2.2.2.2.frames + 1 ≤ M.2.2.2.2.frames ∧ 8 + (mX6_at.2.2.1 + 11) + mX6_at.2.2.2.2.locals ≤ M.2.2.2.2.locals) (hrest : (rest.map fun v => v.category).sum ≤ 8) (hd : decode M.2.1 pc = .ok (.invokevirtual index, 3)) (k : RR g M F zF (pc + 3) ls (.int v :: rest) σ0) : RR g M F zF pc ls (.int a2 :: .int a1 :: .ref (ad g a0) :: rest) σ0 :=
  r_callV (z := zF) (N := mX6_at) (nn := 2) (o1 := some (.int v)) (sX6_at hf hs0) hs0 (by decide) (shp_le hs0 (nle rfl)) (ci := 6) rfl rfl tw_3_136 tw_1_2 hl tw_3_134 tw_3_135 ⟨by decide, by decide, rfl⟩ hR rfl hrest hd ⟨Nat.zero_le _, Nat.zero_le _⟩ rfl (fun h => k)

theorem dX7_dot_0 : decode cX7_dot 0 = .ok (.aload_n 0, 1) := by decide +kernel
theorem dX7_dot_1 : decode cX7_dot 1 = .ok (.getfield 18, 3) := by decide +kernel
theorem dX7_dot_4 : decode cX7_dot 4 = .ok (.iload_n 1, 1) := by decide +kernel
theorem dX7_dot_5 : decode cX7_dot 5 = .ok (.iload_n 2, 1) := by decide +kernel
theorem dX7_dot_6 : decode cX7_dot 6 = .ok (.invokevirtual 164, 3) := by decide +kernel
theorem dX7_dot_9 : decode cX7_dot 9 = .ok (.ifCond .eq 15, 3) := by decide +kernel
theorem dX7_dot_12 : decode cX7_dot 12 = .ok (.aload_n 0, 1) := by decide +kernel
theorem dX7_dot_13 : decode cX7_dot 13 = .ok (.getfield 18, 3) := by decide +kernel
theorem dX7_dot_16 : decode cX7_dot 16 = .ok (.iload_n 1, 1) := by decide +kernel
theorem dX7_dot_17 : decode cX7_dot 17 = .ok (.iload_n 2, 1) := by decide +kernel
theorem dX7_dot_18 : decode cX7_dot 18 = .ok (.invokevirtual 173, 3) := by decide +kernel
theorem dX7_dot_21 : decode cX7_dot 21 = .ok (.goto 4, 3) := by decide +kernel
theorem dX7_dot_24 : decode cX7_dot 24 = .ok (.iconst (-1), 1) := by decide +kernel
theorem dX7_dot_25 : decode cX7_dot 25 = .ok (.ireturn, 1) := by decide +kernel
def mX7_dot : MM := (yX7_dot, cX7_dot, 3, Option.some Jvm.ClassFile.FieldType.int, { frames := 2, cells := 0, slots := 0, locals := 44 })
def fX7_dot (σ0 : SS) (a1 : Int32) (a2 : Int32) : Option Int32 :=
  if (fX6_has σ0 (gR σ0 1 2) a1 a2) = true then (
    bnd1 (fX6_at σ0 (gR σ0 1 2) a1 a2) fun v1 =>
    some v1
    ) else (
    some (-1 : Int32)
    )

set_option maxRecDepth 20000 in
theorem sX7_dot {g : GG} {σ0 : SS} {a1 : Int32} {a2 : Int32} {r : Int32} (hr : fX7_dot σ0 a1 a2 = some r)  : Ct g mX7_dot [.ref (ad g 1), .int a1, .int a2] NF σ0 (some (.int r)) NF σ0 := by
  refine Ct.of (by decide +kernel) (nle rfl) fun hw0 => ?_
  have hw := hw0 rfl
  unfold fX7_dot at hr
  change RR g mX7_dot (FinR g mX7_dot (some (.int r)) NF σ0) zF 0 [(0, .ref (ad g 1)), (1, .int a1), (2, .int a2)] [] σ0
  refine r_aload_n (pc := 0) (j := 0) dX7_dot_0 rfl rfl ?_
  refine gf7_2 (pc := 1) tw_2_111 hw dX7_dot_1 ?_
  refine r_iload_n (pc := 4) (j := 1) dX7_dot_4 rfl rfl ?_
  refine r_iload_n (pc := 5) (j := 2) dX7_dot_5 rfl rfl ?_
  refine kX6_has (pc := 6) (hf := rfl) (wt_sc hw).1 tw_3_127 ⟨nle rfl, nle rfl⟩ (nle rfl) dX7_dot_6 ?_
  refine r_ifB_eq (pc := 9) (tgt := 24) dX7_dot_9 rfl (fun hc => ?_) (fun hc => ?_)
  · replace hr := ite_f hc hr
    refine r_iconst (pc := 24) (v := (-1 : Int32)) dX7_dot_24 rfl ?_
    exact l_opi hr (r_iret (pc := 25) (v := (-1 : Int32)) rfl rfl ⟨Nat.le_refl _, Nat.le_refl _⟩ dX7_dot_25)
  replace hr := ite_t hc hr
  refine r_aload_n (pc := 12) (j := 0) dX7_dot_12 rfl rfl ?_
  refine gf7_2 (pc := 13) tw_2_111 hw dX7_dot_13 ?_
  refine r_iload_n (pc := 16) (j := 1) dX7_dot_16 rfl rfl ?_
  refine r_iload_n (pc := 17) (j := 2) dX7_dot_17 rfl rfl ?_
  obtain ⟨v1, hv1, hr⟩ := bnd1_inv hr
  refine kX6_at (pc := 18) hv1 (wt_sc hw).1 tw_3_133 ⟨nle rfl, nle rfl⟩ (nle rfl) dX7_dot_18 ?_
  refine r_goto (pc := 21) (tgt := 25) dX7_dot_21 rfl ?_
  exact l_opi hr (r_iret (pc := 25) (v := v1) rfl rfl ⟨Nat.le_refl _, Nat.le_refl _⟩ dX7_dot_25)

theorem kX7_dot {g : GG} {σ0 : SS} {a1 : Int32} {a2 : Int32} {v : Int32} {M : MM} {F : State → Array Value → List Frame → State → Prop} {pc index : Nat} {ls : List (Nat × Value)} {rest : List Value} (hf : fX7_dot σ0 a1 a2 = some v)  (hl : Cond.methodLink M.1.cls index yX7_dot ∈ lw_gt) (hR : mX7_dot.2.2.2.2.frames + 1 ≤ M.2.2.2.2.frames ∧ 8 + (mX7_dot.2.2.1 + 11) + mX7_dot.2.2.2.2.locals ≤ M.2.2.2.2.locals) (hrest : (rest.map fun v => v.category).sum ≤ 8) (hd : decode M.2.1 pc = .ok (.invokevirtual index, 3)) (k : RR g M F zF (pc + 3) ls (.int v :: rest) σ0) : RR g M F zF pc ls (.int a2 :: .int a1 :: .ref (ad g 1) :: rest) σ0 :=
  r_callV (z := zF) (N := mX7_dot) (nn := 2) (o1 := some (.int v)) (sX7_dot hf ) (rfl : shp 1 = (7, 0)) (by decide) (shp_le (rfl : shp 1 = (7, 0)) (nle rfl)) (ci := 7) rfl rfl tw_3_132 tw_1_1 hl tw_3_130 tw_3_131 ⟨by decide, by decide, rfl⟩ hR rfl hrest hd ⟨Nat.zero_le _, Nat.zero_le _⟩ rfl (fun h => k)

theorem dX8_dot_0 : decode cX8_dot 0 = .ok (.aload_n 0, 1) := by decide +kernel
theorem dX8_dot_1 : decode cX8_dot 1 = .ok (.iload_n 1, 1) := by decide +kernel
theorem dX8_dot_2 : decode cX8_dot 2 = .ok (.iload_n 2, 1) := by decide +kernel
theorem dX8_dot_3 : decode cX8_dot 3 = .ok (.invokevirtual 281, 3) := by decide +kernel
theorem dX8_dot_6 : decode cX8_dot 6 = .ok (.ifCond .eq 19, 3) := by decide +kernel
theorem dX8_dot_9 : decode cX8_dot 9 = .ok (.aload_n 0, 1) := by decide +kernel
theorem dX8_dot_10 : decode cX8_dot 10 = .ok (.getfield 38, 3) := by decide +kernel
theorem dX8_dot_13 : decode cX8_dot 13 = .ok (.aload_n 0, 1) := by decide +kernel
theorem dX8_dot_14 : decode cX8_dot 14 = .ok (.getfield 132, 3) := by decide +kernel
theorem dX8_dot_17 : decode cX8_dot 17 = .ok (.iload_n 2, 1) := by decide +kernel
theorem dX8_dot_18 : decode cX8_dot 18 = .ok (.imul, 1) := by decide +kernel
theorem dX8_dot_19 : decode cX8_dot 19 = .ok (.iload_n 1, 1) := by decide +kernel
theorem dX8_dot_20 : decode cX8_dot 20 = .ok (.iadd, 1) := by decide +kernel
theorem dX8_dot_21 : decode cX8_dot 21 = .ok (.iaload, 1) := by decide +kernel
theorem dX8_dot_22 : decode cX8_dot 22 = .ok (.goto 4, 3) := by decide +kernel
theorem dX8_dot_25 : decode cX8_dot 25 = .ok (.iconst (-1), 1) := by decide +kernel
theorem dX8_dot_26 : decode cX8_dot 26 = .ok (.ireturn, 1) := by decide +kernel
def mX8_dot : MM := (yX8_dot, cX8_dot, 3, Option.some Jvm.ClassFile.FieldType.int, { frames := 2, cells := 0, slots := 0, locals := 44 })
def fX8_dot (σ0 : SS) (a1 : Int32) (a2 : Int32) : Option Int32 :=
  if (fX8_isDot σ0 a1 a2) = true then (
    grd (inb (((gI σ0 73 29) * a2) + a1) 1600) <|
    some (gI σ0 83 (Int32.toNatClampNeg (((gI σ0 73 29) * a2) + a1)))
    ) else (
    some (-1 : Int32)
    )

set_option maxRecDepth 20000 in
theorem sX8_dot {g : GG} {σ0 : SS} {a1 : Int32} {a2 : Int32} {r : Int32} (hr : fX8_dot σ0 a1 a2 = some r)  : Ct g mX8_dot [.ref (ad g 73), .int a1, .int a2] NF σ0 (some (.int r)) NF σ0 := by
  refine Ct.of (by decide +kernel) (nle rfl) fun hw0 => ?_
  have hw := hw0 rfl
  unfold fX8_dot at hr
  change RR g mX8_dot (FinR g mX8_dot (some (.int r)) NF σ0) zF 0 [(0, .ref (ad g 73)), (1, .int a1), (2, .int a2)] [] σ0
  refine r_aload_n (pc := 0) (j := 0) dX8_dot_0 rfl rfl ?_
  refine r_iload_n (pc := 1) (j := 1) dX8_dot_1 rfl rfl ?_
  refine r_iload_n (pc := 2) (j := 2) dX8_dot_2 rfl rfl ?_
  refine kX8_isDot (pc := 3) (hf := rfl) tw_6_173 ⟨nle rfl, nle rfl⟩ (nle rfl) dX8_dot_3 ?_
  refine r_ifB_eq (pc := 6) (tgt := 25) dX8_dot_6 rfl (fun hc => ?_) (fun hc => ?_)
  · replace hr := ite_f hc hr
    refine r_iconst (pc := 25) (v := (-1 : Int32)) dX8_dot_25 rfl ?_
    exact l_opi hr (r_iret (pc := 26) (v := (-1 : Int32)) rfl rfl ⟨Nat.le_refl _, Nat.le_refl _⟩ dX8_dot_26)
  replace hr := ite_t hc hr
  refine r_aload_n (pc := 9) (j := 0) dX8_dot_9 rfl rfl ?_
  refine gf8_21 (pc := 10) tw_5_115 hw dX8_dot_10 ?_
  refine r_aload_n (pc := 13) (j := 0) dX8_dot_13 rfl rfl ?_
  refine gf8_29 (pc := 14) tw_5_123 rfl dX8_dot_14 ?_
  refine r_iload_n (pc := 17) (j := 2) dX8_dot_17 rfl rfl ?_
  refine r_imul (pc := 18) dX8_dot_18 ?_
  refine r_iload_n (pc := 19) (j := 1) dX8_dot_19 rfl rfl ?_
  refine r_iadd (pc := 20) dX8_dot_20 ?_
  obtain ⟨h1, hr⟩ := grd_inv hr
  refine x_iald (pc := 21) (k := (Int32.toNatClampNeg (((gI σ0 73 29) * a2) + a1))) rfl h1 rfl dX8_dot_21 ?_
  refine r_goto (pc := 22) (tgt := 26) dX8_dot_22 rfl ?_
  exact l_opi hr (r_iret (pc := 26) (v := (gI σ0 83 (Int32.toNatClampNeg (((gI σ0 73 29) * a2) + a1)))) rfl rfl ⟨Nat.le_refl _, Nat.le_refl _⟩ dX8_dot_26)

theorem kX8_dot {g : GG} {σ0 : SS} {a1 : Int32} {a2 : Int32} {v : Int32} {M : MM} {F : State → Array Value → List Frame → State → Prop} {pc index : Nat} {ls : List (Nat × Value)} {rest : List Value} (hf : fX8_dot σ0 a1 a2 = some v)  (hl : Cond.methodLink M.1.cls index yX8_dot ∈ lw_gt) (hR : mX8_dot.2.2.2.2.frames + 1 ≤ M.2.2.2.2.frames ∧ 8 + (mX8_dot.2.2.1 + 11) + mX8_dot.2.2.2.2.locals ≤ M.2.2.2.2.locals) (hrest : (rest.map fun v => v.category).sum ≤ 8) (hd : decode M.2.1 pc = .ok (.invokevirtual index, 3)) (k : RR g M F zF (pc + 3) ls (.int v :: rest) σ0) : RR g M F zF pc ls (.int a2 :: .int a1 :: .ref (ad g 73) :: rest) σ0 :=
  r_callV (z := zF) (N := mX8_dot) (nn := 2) (o1 := some (.int v)) (sX8_dot hf ) (rfl : shp 73 = (8, 0)) (by decide) (shp_le (rfl : shp 73 = (8, 0)) (nle rfl)) (ci := 8) rfl rfl tw_6_180 tw_1_10 hl tw_6_178 tw_6_179 ⟨by decide, by decide, rfl⟩ hR rfl hrest hd ⟨Nat.zero_le _, Nat.zero_le _⟩ rfl (fun h => k)

theorem dX7_drawBelow_0 : decode cX7_drawBelow 0 = .ok (.aload_n 0, 1) := by decide +kernel
theorem dX7_drawBelow_1 : decode cX7_drawBelow 1 = .ok (.sipush 25173, 3) := by decide +kernel
theorem dX7_drawBelow_4 : decode cX7_drawBelow 4 = .ok (.aload_n 0, 1) := by decide +kernel
theorem dX7_drawBelow_5 : decode cX7_drawBelow 5 = .ok (.getfield 46, 3) := by decide +kernel
theorem dX7_drawBelow_8 : decode cX7_drawBelow 8 = .ok (.imul, 1) := by decide +kernel
theorem dX7_drawBelow_9 : decode cX7_drawBelow 9 = .ok (.sipush 13849, 3) := by decide +kernel
theorem dX7_drawBelow_12 : decode cX7_drawBelow 12 = .ok (.iadd, 1) := by decide +kernel
theorem dX7_drawBelow_13 : decode cX7_drawBelow 13 = .ok (.ldc 182, 2) := by decide +kernel
theorem dX7_drawBelow_15 : decode cX7_drawBelow 15 = .ok (.iand, 1) := by decide +kernel
theorem dX7_drawBelow_16 : decode cX7_drawBelow 16 = .ok (.putfield 46, 3) := by decide +kernel
theorem dX7_drawBelow_19 : decode cX7_drawBelow 19 = .ok (.iload_n 1, 1) := by decide +kernel
theorem dX7_drawBelow_20 : decode cX7_drawBelow 20 = .ok (.iconst 1, 1) := by decide +kernel
theorem dX7_drawBelow_21 : decode cX7_drawBelow 21 = .ok (.if_icmp .ge 7, 3) := by decide +kernel
theorem dX7_drawBelow_24 : decode cX7_drawBelow 24 = .ok (.iconst 0, 1) := by decide +kernel
theorem dX7_drawBelow_25 : decode cX7_drawBelow 25 = .ok (.goto 11, 3) := by decide +kernel
theorem dX7_drawBelow_28 : decode cX7_drawBelow 28 = .ok (.aload_n 0, 1) := by decide +kernel
theorem dX7_drawBelow_29 : decode cX7_drawBelow 29 = .ok (.getfield 46, 3) := by decide +kernel
theorem dX7_drawBelow_32 : decode cX7_drawBelow 32 = .ok (.iconst 4, 1) := by decide +kernel
theorem dX7_drawBelow_33 : decode cX7_drawBelow 33 = .ok (.idiv, 1) := by decide +kernel
theorem dX7_drawBelow_34 : decode cX7_drawBelow 34 = .ok (.iload_n 1, 1) := by decide +kernel
theorem dX7_drawBelow_35 : decode cX7_drawBelow 35 = .ok (.irem, 1) := by decide +kernel
theorem dX7_drawBelow_36 : decode cX7_drawBelow 36 = .ok (.ireturn, 1) := by decide +kernel
def mX7_drawBelow : MM := (yX7_drawBelow, cX7_drawBelow, 2, Option.some Jvm.ClassFile.FieldType.int, { frames := 0, cells := 0, slots := 0, locals := 0 })
def fX7_drawBelow (σ : SS) (a1 : Int32) : Option (Int32 × SS) :=
  vthen (sI σ 1 8 ((((25173 : Int32) * (gI σ 1 8)) + (13849 : Int32)) &&& (65535 : Int32))) fun σ1 =>
  if (1 : Int32) ≤ a1 then (
    grd (nz a1) <|
    some ((irm ((gI σ1 1 8) / (4 : Int32)) a1), σ1)
    ) else (
    some ((0 : Int32), σ1)
    )

set_option maxRecDepth 20000 in
theorem sX7_drawBelow {g : GG} {σ : SS} {a1 : Int32} {r : Int32 × SS} (hr : fX7_drawBelow σ a1 = some r)  : Ct g mX7_drawBelow [.ref (ad g 1), .int a1] NF σ (some (.int r.1)) NF r.2 := by
  refine Ct.of (by decide +kernel) (nle rfl) fun hw0 => ?_
  have hw := hw0 rfl
  unfold fX7_drawBelow at hr
  change RR g mX7_drawBelow (FinR g mX7_drawBelow (some (.int r.1)) NF r.2) zF 0 [(0, .ref (ad g 1)), (1, .int a1)] [] σ
  refine r_aload_n (pc := 0) (j := 0) dX7_drawBelow_0 rfl rfl ?_
  refine r_sipush (pc := 1) (v := (25173 : Int32)) dX7_drawBelow_1 rfl ?_
  refine r_aload_n (pc := 4) (j := 0) dX7_drawBelow_4 rfl rfl ?_
  refine gf7_8 (pc := 5) tw_2_117 rfl dX7_drawBelow_5 ?_
  refine r_imul (pc := 8) dX7_drawBelow_8 ?_
  refine r_sipush (pc := 9) (v := (13849 : Int32)) dX7_drawBelow_9 rfl ?_
  refine r_iadd (pc := 12) dX7_drawBelow_12 ?_
  refine r_ldc (pc := 13) (v := (65535 : Int32)) dX7_drawBelow_13 tw_3_145 ?_
  refine r_iand (pc := 15) dX7_drawBelow_15 ?_
  refine pf7_8 (pc := 16) tw_2_117 rfl dX7_drawBelow_16 fun σ1 eσ1 => ?_
  replace hr := vthen_inv hr σ1 eσ1
  have hσ1 := wtI eσ1 hw
  refine r_iload_n (pc := 19) (j := 1) dX7_drawBelow_19 rfl rfl ?_
  refine r_iconst (pc := 20) (v := (1 : Int32)) dX7_drawBelow_20 rfl ?_
  refine r_icmp_ge (pc := 21) (tgt := 28) dX7_drawBelow_21 rfl (fun hc => ?_) (fun hc => ?_)
  · replace hr := ite_t hc hr
    refine r_aload_n (pc := 28) (j := 0) dX7_drawBelow_28 rfl rfl ?_
    refine gf7_8 (pc := 29) tw_2_117 rfl dX7_drawBelow_29 ?_
    refine r_iconst (pc := 32) (v := (4 : Int32)) dX7_drawBelow_32 rfl ?_
    refine r_idiv (pc := 33) dX7_drawBelow_33 (by decide) ?_
    refine r_iload_n (pc := 34) (j := 1) dX7_drawBelow_34 rfl rfl ?_
    obtain ⟨h2, hr⟩ := grd_inv hr
    refine r_irem (pc := 35) dX7_drawBelow_35 (nz_ne h2) ?_
    exact l_osi hr (r_iret (pc := 36) (v := (irm ((gI σ1 1 8) / (4 : Int32)) a1)) rfl rfl ⟨Nat.le_refl _, Nat.le_refl _⟩ dX7_drawBelow_36)
  replace hr := ite_f hc hr
  refine r_iconst (pc := 24) (v := (0 : Int32)) dX7_drawBelow_24 rfl ?_
  refine r_goto (pc := 25) (tgt := 36) dX7_drawBelow_25 rfl ?_
  exact l_osi hr (r_iret (pc := 36) (v := (0 : Int32)) rfl rfl ⟨Nat.le_refl _, Nat.le_refl _⟩ dX7_drawBelow_36)

theorem kX7_drawBelow {g : GG} {σ : SS} {a1 : Int32} {v : Int32} {σ2 : SS} {M : MM} {F : State → Array Value → List Frame → State → Prop} {pc index : Nat} {ls : List (Nat × Value)} {rest : List Value} (hf : fX7_drawBelow σ a1 = some (v, σ2))  (hl : Cond.methodLink M.1.cls index yX7_drawBelow ∈ lw_gt) (hR : mX7_drawBelow.2.2.2.2.frames + 1 ≤ M.2.2.2.2.frames ∧ 8 + (mX7_drawBelow.2.2.1 + 11) + mX7_drawBelow.2.2.2.2.locals ≤ M.2.2.2.2.locals) (hrest : (rest.map fun v => v.category).sum ≤ 8) (hd : decode M.2.1 pc = .ok (.invokevirtual index, 3)) (k : WT σ2 → RR g M F zF (pc + 3) ls (.int v :: rest) σ2) : RR g M F zF pc ls (.int a1 :: .ref (ad g 1) :: rest) σ :=
  r_callV (z := zF) (N := mX7_drawBelow) (nn := 1) (o1 := some (.int v)) (sX7_drawBelow hf ) (rfl : shp 1 = (7, 0)) (by decide) (shp_le (rfl : shp 1 = (7, 0)) (nle rfl)) (ci := 7) rfl rfl tw_3_144 tw_1_1 hl tw_3_143 tp_16 ⟨by decide, by decide, rfl⟩ hR rfl hrest hd ⟨Nat.zero_le _, Nat.zero_le _⟩ rfl (fun h => k (h rfl))

theorem dX7_noise_0 : decode cX7_noise 0 = .ok (.iload_n 1, 1) := by decide +kernel
theorem dX7_noise_1 : decode cX7_noise 1 = .ok (.ifCond .lt 10, 3) := by decide +kernel
theorem dX7_noise_4 : decode cX7_noise 4 = .ok (.iload_n 1, 1) := by decide +kernel
theorem dX7_noise_5 : decode cX7_noise 5 = .ok (.sipush 500, 3) := by decide +kernel
theorem dX7_noise_8 : decode cX7_noise 8 = .ok (.if_icmp .le 5, 3) := by decide +kernel
theorem dX7_noise_11 : decode cX7_noise 11 = .ok (.iconst (-1), 1) := by decide +kernel
theorem dX7_noise_12 : decode cX7_noise 12 = .ok (.ireturn, 1) := by decide +kernel
theorem dX7_noise_13 : decode cX7_noise 13 = .ok (.iconst 0, 1) := by decide +kernel
theorem dX7_noise_14 : decode cX7_noise 14 = .ok (.istore_n 2, 1) := by decide +kernel
theorem dX7_noise_15 : decode cX7_noise 15 = .ok (.iconst 0, 1) := by decide +kernel
theorem dX7_noise_16 : decode cX7_noise 16 = .ok (.istore_n 3, 1) := by decide +kernel
theorem dX7_noise_17 : decode cX7_noise 17 = .ok (.iload_n 3, 1) := by decide +kernel
theorem dX7_noise_18 : decode cX7_noise 18 = .ok (.iload_n 1, 1) := by decide +kernel
theorem dX7_noise_19 : decode cX7_noise 19 = .ok (.if_icmp .ge 94, 3) := by decide +kernel
theorem dX7_noise_22 : decode cX7_noise 22 = .ok (.aload_n 0, 1) := by decide +kernel
theorem dX7_noise_23 : decode cX7_noise 23 = .ok (.aload_n 0, 1) := by decide +kernel
theorem dX7_noise_24 : decode cX7_noise 24 = .ok (.getfield 18, 3) := by decide +kernel
theorem dX7_noise_27 : decode cX7_noise 27 = .ok (.getfield 100, 3) := by decide +kernel
theorem dX7_noise_30 : decode cX7_noise 30 = .ok (.invokevirtual 176, 3) := by decide +kernel
theorem dX7_noise_33 : decode cX7_noise 33 = .ok (.istore 4, 2) := by decide +kernel
theorem dX7_noise_35 : decode cX7_noise 35 = .ok (.aload_n 0, 1) := by decide +kernel
theorem dX7_noise_36 : decode cX7_noise 36 = .ok (.aload_n 0, 1) := by decide +kernel
theorem dX7_noise_37 : decode cX7_noise 37 = .ok (.getfield 18, 3) := by decide +kernel
theorem dX7_noise_40 : decode cX7_noise 40 = .ok (.getfield 103, 3) := by decide +kernel
theorem dX7_noise_43 : decode cX7_noise 43 = .ok (.invokevirtual 176, 3) := by decide +kernel
theorem dX7_noise_46 : decode cX7_noise 46 = .ok (.istore 5, 2) := by decide +kernel
theorem dX7_noise_48 : decode cX7_noise 48 = .ok (.aload_n 0, 1) := by decide +kernel
theorem dX7_noise_49 : decode cX7_noise 49 = .ok (.iconst 3, 1) := by decide +kernel
theorem dX7_noise_50 : decode cX7_noise 50 = .ok (.invokevirtual 176, 3) := by decide +kernel
theorem dX7_noise_53 : decode cX7_noise 53 = .ok (.ifCond .ne 7, 3) := by decide +kernel
theorem dX7_noise_56 : decode cX7_noise 56 = .ok (.iconst (-1), 1) := by decide +kernel
theorem dX7_noise_57 : decode cX7_noise 57 = .ok (.goto 4, 3) := by decide +kernel
theorem dX7_noise_60 : decode cX7_noise 60 = .ok (.iconst 1, 1) := by decide +kernel
theorem dX7_noise_61 : decode cX7_noise 61 = .ok (.istore 6, 2) := by decide +kernel
theorem dX7_noise_63 : decode cX7_noise 63 = .ok (.iconst 0, 1) := by decide +kernel
theorem dX7_noise_64 : decode cX7_noise 64 = .ok (.bipush 9, 2) := by decide +kernel
theorem dX7_noise_66 : decode cX7_noise 66 = .ok (.aload_n 0, 1) := by decide +kernel
theorem dX7_noise_67 : decode cX7_noise 67 = .ok (.getfield 18, 3) := by decide +kernel
theorem dX7_noise_70 : decode cX7_noise 70 = .ok (.iload 4, 2) := by decide +kernel
theorem dX7_noise_72 : decode cX7_noise 72 = .ok (.iload 5, 2) := by decide +kernel
theorem dX7_noise_74 : decode cX7_noise 74 = .ok (.invokevirtual 173, 3) := by decide +kernel
theorem dX7_noise_77 : decode cX7_noise 77 = .ok (.iload 6, 2) := by decide +kernel
theorem dX7_noise_79 : decode cX7_noise 79 = .ok (.iadd, 1) := by decide +kernel
theorem dX7_noise_80 : decode cX7_noise 80 = .ok (.invokestatic 167, 3) := by decide +kernel
theorem dX7_noise_83 : decode cX7_noise 83 = .ok (.invokestatic 179, 3) := by decide +kernel
theorem dX7_noise_86 : decode cX7_noise 86 = .ok (.istore 7, 2) := by decide +kernel
theorem dX7_noise_88 : decode cX7_noise 88 = .ok (.aload_n 0, 1) := by decide +kernel
theorem dX7_noise_89 : decode cX7_noise 89 = .ok (.getfield 18, 3) := by decide +kernel
theorem dX7_noise_92 : decode cX7_noise 92 = .ok (.iload 4, 2) := by decide +kernel
theorem dX7_noise_94 : decode cX7_noise 94 = .ok (.iload 5, 2) := by decide +kernel
theorem dX7_noise_96 : decode cX7_noise 96 = .ok (.iload 7, 2) := by decide +kernel
theorem dX7_noise_98 : decode cX7_noise 98 = .ok (.invokevirtual 157, 3) := by decide +kernel
theorem dX7_noise_101 : decode cX7_noise 101 = .ok (.ifCond .eq 6, 3) := by decide +kernel
theorem dX7_noise_104 : decode cX7_noise 104 = .ok (.iinc 2 1, 3) := by decide +kernel
theorem dX7_noise_107 : decode cX7_noise 107 = .ok (.iinc 3 1, 3) := by decide +kernel
theorem dX7_noise_110 : decode cX7_noise 110 = .ok (.goto (-93), 3) := by decide +kernel
theorem dX7_noise_113 : decode cX7_noise 113 = .ok (.iload_n 2, 1) := by decide +kernel
theorem dX7_noise_114 : decode cX7_noise 114 = .ok (.ireturn, 1) := by decide +kernel
def mX7_noise : MM := (yX7_noise, cX7_noise, 8, Option.some Jvm.ClassFile.FieldType.int, { frames := 2, cells := 0, slots := 0, locals := 47 })
def X7_noise_L17 (u1_ : Int32)  : Nat → Int32 → Int32 → SS → Option (Int32 × SS) :=
  lp (fun _ _ _ => none) fun rec v2_ v3_ σ_ =>
    if u1_ ≤ v3_ then (
      some (v2_, σ_)
      ) else (
      bnd (fX7_drawBelow σ_ (gI σ_ (gR σ_ 1 2) 0)) fun v1 σ4 =>
      bnd (fX7_drawBelow σ4 (gI σ4 (gR σ4 1 2) 1)) fun v5 σ8 =>
      bnd (fX7_drawBelow σ8 (3 : Int32)) fun v9 σ12 =>
      vthen (fun (s13 : Int32) =>
        bnd1 (fX6_at σ12 (gR σ12 1 2) v1 v5) fun v14 =>
        vthen (fJ9_max_7cf53 σ12 (0 : Int32) (fJ9_min_7cf53 σ12 (9 : Int32) (v14 + s13))) fun v17 =>
        bnd (fX6_put σ12 (gR σ12 1 2) v1 v5 v17) fun b19 σ21 =>
        if b19 = true then (
          rec (v2_ + (1 : Int32)) (v3_ + (1 : Int32)) σ21
          ) else (
          rec v2_ (v3_ + (1 : Int32)) σ21
          )
        ) fun j61 =>
      if v9 = 0 then (
        j61 (-1 : Int32)
        ) else (
        j61 (1 : Int32)
        )
      )

def fX7_noise (σ : SS) (a1 : Int32) : Option (Int32 × SS) :=
  if a1 < 0 then (
    some ((-1 : Int32), σ)
    ) else (
    if a1 ≤ (500 : Int32) then (
      X7_noise_L17 a1
      fuel (0 : Int32) (0 : Int32) σ
      ) else (
      some ((-1 : Int32), σ)
      )
    )

set_option maxRecDepth 20000 in
theorem sX7_noise_L17 {g : GG} {r : Int32 × SS} {u1_ : Int32}  
    (n : Nat) : ∀ (v2_ : Int32) (v3_ : Int32) (σ_ : SS), X7_noise_L17 u1_ n v2_ v3_ σ_ = some r → WT σ_ → RR g mX7_noise (FinR g mX7_noise (some (.int r.1)) NF r.2) zF 17 [(0, .ref (ad g 1)), (1, .int u1_), (2, .int v2_), (3, .int v3_)] [] σ_ := by
  unfold X7_noise_L17
  refine lp_ind (P := fun (rec : Int32 → Int32 → SS → Option (Int32 × SS)) => ∀ (v2_ : Int32) (v3_ : Int32) (σ_ : SS), rec v2_ v3_ σ_ = some r → WT σ_ → RR g mX7_noise (FinR g mX7_noise (some (.int r.1)) NF r.2) zF 17 [(0, .ref (ad g 1)), (1, .int u1_), (2, .int v2_), (3, .int v3_)] [] σ_) ?_ ?_ n
  · intro v2_ v3_ σ_ hr; cases hr
  intro rec ih v2_ v3_ σ_ hr hw_
  refine r_iload_n (pc := 17) (j := 3) dX7_noise_17 rfl rfl ?_
  refine r_iload_n (pc := 18) (j := 1) dX7_noise_18 rfl rfl ?_
  refine r_icmp_ge (pc := 19) (tgt := 113) dX7_noise_19 rfl (fun hc => ?_) (fun hc => ?_)
  · replace hr := ite_t hc hr
    refine r_iload_n (pc := 113) (j := 2) dX7_noise_113 rfl rfl ?_
    exact l_osi hr (r_iret (pc := 114) (v := v2_) rfl rfl ⟨Nat.le_refl _, Nat.le_refl _⟩ dX7_noise_114)
  replace hr := ite_f hc hr
  refine r_aload_n (pc := 22) (j := 0) dX7_noise_22 rfl rfl ?_
  refine r_aload_n (pc := 23) (j := 0) dX7_noise_23 rfl rfl ?_
  refine gf7_2 (pc := 24) tw_2_111 hw_ dX7_noise_24 ?_
  refine gf6_0 (pc := 27) tw_1_35 (wt_sc hw_).1 dX7_noise_27 ?_
  obtain ⟨v1, σ4, eσ4, hr⟩ := bnd_inv hr
  refine kX7_drawBelow (pc := 30) eσ4 tw_3_141 ⟨nle rfl, nle rfl⟩ (nle rfl) dX7_noise_30 fun hσ4 => ?_
  refine r_istore (pc := 33) (ls1 := [(4, .int v1), (0, .ref (ad g 1)), (1, .int u1_), (2, .int v2_), (3, .int v3_)]) dX7_noise_33 (nle rfl) rfl ?_
  refine r_aload_n (pc := 35) (j := 1) dX7_noise_35 rfl rfl ?_
  refine r_aload_n (pc := 36) (j := 1) dX7_noise_36 rfl rfl ?_
  refine gf7_2 (pc := 37) tw_2_111 hσ4 dX7_noise_37 ?_
  refine gf6_1 (pc := 40) tw_1_38 (wt_sc hσ4).1 dX7_noise_40 ?_
  obtain ⟨v5, σ8, eσ8, hr⟩ := bnd_inv hr
  refine kX7_drawBelow (pc := 43) eσ8 tw_3_141 ⟨nle rfl, nle rfl⟩ (nle rfl) dX7_noise_43 fun hσ8 => ?_
  refine r_istore (pc := 46) (ls1 := [(5, .int v5), (4, .int v1), (0, .ref (ad g 1)), (1, .int u1_), (2, .int v2_), (3, .int v3_)]) dX7_noise_46 (nle rfl) rfl ?_
  refine r_aload_n (pc := 48) (j := 2) dX7_noise_48 rfl rfl ?_
  refine r_iconst (pc := 49) (v := (3 : Int32)) dX7_noise_49 rfl ?_
  obtain ⟨v9, σ12, eσ12, hr⟩ := bnd_inv hr
  refine kX7_drawBelow (pc := 50) eσ12 tw_3_141 ⟨nle rfl, nle rfl⟩ (nle rfl) dX7_noise_50 fun hσ12 => ?_
  obtain ⟨j61, ej61, hr⟩ := vth_ex hr
  have hj61 : ∀ (s13 : Int32), j61 s13 = some r → RR g mX7_noise (FinR g mX7_noise (some (.int r.1)) NF r.2) zF 61 [(0, .ref (ad g 1)), (1, .int u1_), (2, .int v2_), (3, .int v3_), (4, .int v1), (5, .int v5)] [.int s13] σ12 := by
    intro s13 hr
    replace hr := (congrFun ej61 s13).symm.trans hr
    refine r_istore (pc := 61) (ls1 := [(6, .int s13), (0, .ref (ad g 1)), (1, .int u1_), (2, .int v2_), (3, .int v3_), (4, .int v1), (5, .int v5)]) dX7_noise_61 (nle rfl) rfl ?_
    refine r_iconst (pc := 63) (v := (0 : Int32)) dX7_noise_63 rfl ?_
    refine r_bipush (pc := 64) (v := (9 : Int32)) dX7_noise_64 rfl ?_
    refine r_aload_n (pc := 66) (j := 1) dX7_noise_66 rfl rfl ?_
    refine gf7_2 (pc := 67) tw_2_111 hσ12 dX7_noise_67 ?_
    refine r_iload (pc := 70) (j := 5) dX7_noise_70 rfl ?_
    refine r_iload (pc := 72) (j := 6) dX7_noise_72 rfl ?_
    obtain ⟨v14, hv14, hr⟩ := bnd1_inv hr
    refine kX6_at (pc := 74) hv14 (wt_sc hσ12).1 tw_3_133 ⟨nle rfl, nle rfl⟩ (nle rfl) dX7_noise_74 ?_
    refine r_iload (pc := 77) (j := 0) dX7_noise_77 rfl ?_
    refine r_iadd (pc := 79) dX7_noise_79 ?_
    refine kJ9_min_7cf53 (pc := 80) (hf := rfl) tw_3_128 ⟨nle rfl, nle rfl⟩ (nle rfl) dX7_noise_80 ?_
    refine kJ9_max_7cf53 (pc := 83) (hf := rfl) tw_3_146 ⟨nle rfl, nle rfl⟩ (nle rfl) dX7_noise_83 ?_
    refine r_topi fun v17 ev17 => ?_
    replace hr := vthen_inv hr v17 ev17
    refine r_istore (pc := 86) (ls1 := [(7, .int v17), (6, .int s13), (0, .ref (ad g 1)), (1, .int u1_), (2, .int v2_), (3, .int v3_), (4, .int v1), (5, .int v5)]) dX7_noise_86 (nle rfl) rfl ?_
    refine r_aload_n (pc := 88) (j := 2) dX7_noise_88 rfl rfl ?_
    refine gf7_2 (pc := 89) tw_2_111 hσ12 dX7_noise_89 ?_
    refine r_iload (pc := 92) (j := 6) dX7_noise_92 rfl ?_
    refine r_iload (pc := 94) (j := 7) dX7_noise_94 rfl ?_
    refine r_iload (pc := 96) (j := 0) dX7_noise_96 rfl ?_
    obtain ⟨b19, σ21, eσ21, hr⟩ := bnd_inv hr
    refine kX6_put (pc := 98) eσ21 (wt_sc hσ12).1 tw_3_112 ⟨nle rfl, nle rfl⟩ (nle rfl) dX7_noise_98 fun hσ21 => ?_
    refine r_ifB_eq (pc := 101) (tgt := 107) dX7_noise_101 rfl (fun hc => ?_) (fun hc => ?_)
    · replace hr := ite_f hc hr
      refine r_iinc (pc := 107) (j := 5) (v := (v3_ + (1 : Int32))) (ls1 := [(3, .int (v3_ + (1 : Int32))), (7, .int v17), (6, .int s13), (0, .ref (ad g 1)), (1, .int u1_), (2, .int v2_), (4, .int v1), (5, .int v5)]) dX7_noise_107 rfl rfl (nle rfl) rfl ?_
      refine r_goto (pc := 110) (tgt := 17) dX7_noise_110 rfl ?_
      exact r_pick (ls1 := [(0, .ref (ad g 1)), (1, .int u1_), (2, .int v2_), (3, .int (v3_ + (1 : Int32)))]) [3, 4, 5, 0] rfl (ih v2_ (v3_ + (1 : Int32)) σ21 hr hσ21)
    replace hr := ite_t hc hr
    refine r_iinc (pc := 104) (j := 4) (v := (v2_ + (1 : Int32))) (ls1 := [(2, .int (v2_ + (1 : Int32))), (7, .int v17), (6, .int s13), (0, .ref (ad g 1)), (1, .int u1_), (3, .int v3_), (4, .int v1), (5, .int v5)]) dX7_noise_104 rfl rfl (nle rfl) rfl ?_
    refine r_iinc (pc := 107) (j := 5) (v := (v3_ + (1 : Int32))) (ls1 := [(3, .int (v3_ + (1 : Int32))), (2, .int (v2_ + (1 : Int32))), (7, .int v17), (6, .int s13), (0, .ref (ad g 1)), (1, .int u1_), (4, .int v1), (5, .int v5)]) dX7_noise_107 rfl rfl (nle rfl) rfl ?_
    refine r_goto (pc := 110) (tgt := 17) dX7_noise_110 rfl ?_
    exact r_pick (ls1 := [(0, .ref (ad g 1)), (1, .int u1_), (2, .int (v2_ + (1 : Int32))), (3, .int (v3_ + (1 : Int32)))]) [4, 5, 1, 0] rfl (ih (v2_ + (1 : Int32)) (v3_ + (1 : Int32)) σ21 hr hσ21)
  refine r_if_ne (pc := 53) (tgt := 60) dX7_noise_53 rfl (fun hc => ?_) (fun hc => ?_)
  · replace hr := ite_f hc hr
    refine r_iconst (pc := 60) (v := (1 : Int32)) dX7_noise_60 rfl ?_
    exact r_pick (ls1 := [(0, .ref (ad g 1)), (1, .int u1_), (2, .int v2_), (3, .int v3_), (4, .int v1), (5, .int v5)]) [2, 3, 4, 5, 1, 0] rfl (hj61 (1 : Int32) hr)
  replace hr := ite_t hc hr
  refine r_iconst (pc := 56) (v := (-1 : Int32)) dX7_noise_56 rfl ?_
  refine r_goto (pc := 57) (tgt := 61) dX7_noise_57 rfl ?_
  exact r_pick (ls1 := [(0, .ref (ad g 1)), (1, .int u1_), (2, .int v2_), (3, .int v3_), (4, .int v1), (5, .int v5)]) [2, 3, 4, 5, 1, 0] rfl (hj61 (-1 : Int32) hr)

set_option maxRecDepth 20000 in
theorem sX7_noise {g : GG} {σ : SS} {a1 : Int32} {r : Int32 × SS} (hr : fX7_noise σ a1 = some r)  : Ct g mX7_noise [.ref (ad g 1), .int a1] NF σ (some (.int r.1)) NF r.2 := by
  refine Ct.of (by decide +kernel) (nle rfl) fun hw0 => ?_
  have hw := hw0 rfl
  unfold fX7_noise at hr
  change RR g mX7_noise (FinR g mX7_noise (some (.int r.1)) NF r.2) zF 0 [(0, .ref (ad g 1)), (1, .int a1)] [] σ
  refine r_iload_n (pc := 0) (j := 1) dX7_noise_0 rfl rfl ?_
  refine r_if_lt (pc := 1) (tgt := 11) dX7_noise_1 rfl (fun hc => ?_) (fun hc => ?_)
  · replace hr := ite_t hc hr
    refine r_iconst (pc := 11) (v := (-1 : Int32)) dX7_noise_11 rfl ?_
    exact l_osi hr (r_iret (pc := 12) (v := (-1 : Int32)) rfl rfl ⟨Nat.le_refl _, Nat.le_refl _⟩ dX7_noise_12)
  replace hr := ite_f hc hr
  refine r_iload_n (pc := 4) (j := 1) dX7_noise_4 rfl rfl ?_
  refine r_sipush (pc := 5) (v := (500 : Int32)) dX7_noise_5 rfl ?_
  refine r_icmp_le (pc := 8) (tgt := 13) dX7_noise_8 rfl (fun hc => ?_) (fun hc => ?_)
  · replace hr := ite_t hc hr
    refine r_iconst (pc := 13) (v := (0 : Int32)) dX7_noise_13 rfl ?_
    refine r_istore_n (pc := 14) (ls1 := [(2, .int (0 : Int32)), (0, .ref (ad g 1)), (1, .int a1)]) dX7_noise_14 rfl (nle rfl) rfl ?_
    refine r_iconst (pc := 15) (v := (0 : Int32)) dX7_noise_15 rfl ?_
    refine r_istore_n (pc := 16) (ls1 := [(3, .int (0 : Int32)), (2, .int (0 : Int32)), (0, .ref (ad g 1)), (1, .int a1)]) dX7_noise_16 rfl (nle rfl) rfl ?_
    refine r_pick (ls1 := [(0, .ref (ad g 1)), (1, .int a1), (2, .int (0 : Int32)), (3, .int (0 : Int32))]) [2, 3, 1, 0] rfl ?_
    refine sX7_noise_L17     fuel (0 : Int32) (0 : Int32) σ hr hw
  replace hr := ite_f hc hr
  refine r_iconst (pc := 11) (v := (-1 : Int32)) dX7_noise_11 rfl ?_
  exact l_osi hr (r_iret (pc := 12) (v := (-1 : Int32)) rfl rfl ⟨Nat.le_refl _, Nat.le_refl _⟩ dX7_noise_12)

theorem kX7_noise {g : GG} {σ : SS} {a1 : Int32} {v : Int32} {σ2 : SS} {M : MM} {F : State → Array Value → List Frame → State → Prop} {pc index : Nat} {ls : List (Nat × Value)} {rest : List Value} (hf : fX7_noise σ a1 = some (v, σ2))  (hl : Cond.methodLink M.1.cls index yX7_noise ∈ lw_gt) (hR : mX7_noise.2.2.2.2.frames + 1 ≤ M.2.2.2.2.frames ∧ 8 + (mX7_noise.2.2.1 + 11) + mX7_noise.2.2.2.2.locals ≤ M.2.2.2.2.locals) (hrest : (rest.map fun v => v.category).sum ≤ 8) (hd : decode M.2.1 pc = .ok (.invokevirtual index, 3)) (k : WT σ2 → RR g M F zF (pc + 3) ls (.int v :: rest) σ2) : RR g M F zF pc ls (.int a1 :: .ref (ad g 1) :: rest) σ :=
  r_callV (z := zF) (N := mX7_noise) (nn := 1) (o1 := some (.int v)) (sX7_noise hf ) (rfl : shp 1 = (7, 0)) (by decide) (shp_le (rfl : shp 1 = (7, 0)) (nle rfl)) (ci := 7) rfl rfl tw_3_140 tw_1_1 hl tw_3_138 tw_3_139 ⟨by decide, by decide, rfl⟩ hR rfl hrest hd ⟨Nat.zero_le _, Nat.zero_le _⟩ rfl (fun h => k (h rfl))

theorem dX8_draw_0 : decode cX8_draw 0 = .ok (.aload_n 0, 1) := by decide +kernel
theorem dX8_draw_1 : decode cX8_draw 1 = .ok (.sipush 25173, 3) := by decide +kernel
theorem dX8_draw_4 : decode cX8_draw 4 = .ok (.aload_n 0, 1) := by decide +kernel
theorem dX8_draw_5 : decode cX8_draw 5 = .ok (.getfield 139, 3) := by decide +kernel
theorem dX8_draw_8 : decode cX8_draw 8 = .ok (.imul, 1) := by decide +kernel
theorem dX8_draw_9 : decode cX8_draw 9 = .ok (.sipush 13849, 3) := by decide +kernel
theorem dX8_draw_12 : decode cX8_draw 12 = .ok (.iadd, 1) := by decide +kernel
theorem dX8_draw_13 : decode cX8_draw 13 = .ok (.ldc_w 284, 3) := by decide +kernel
theorem dX8_draw_16 : decode cX8_draw 16 = .ok (.irem, 1) := by decide +kernel
theorem dX8_draw_17 : decode cX8_draw 17 = .ok (.putfield 139, 3) := by decide +kernel
theorem dX8_draw_20 : decode cX8_draw 20 = .ok (.aload_n 0, 1) := by decide +kernel
theorem dX8_draw_21 : decode cX8_draw 21 = .ok (.getfield 139, 3) := by decide +kernel
theorem dX8_draw_24 : decode cX8_draw 24 = .ok (.iconst 4, 1) := by decide +kernel
theorem dX8_draw_25 : decode cX8_draw 25 = .ok (.idiv, 1) := by decide +kernel
theorem dX8_draw_26 : decode cX8_draw 26 = .ok (.iload_n 1, 1) := by decide +kernel
theorem dX8_draw_27 : decode cX8_draw 27 = .ok (.irem, 1) := by decide +kernel
theorem dX8_draw_28 : decode cX8_draw 28 = .ok (.ireturn, 1) := by decide +kernel
def mX8_draw : MM := (yX8_draw, cX8_draw, 2, Option.some Jvm.ClassFile.FieldType.int, { frames := 0, cells := 0, slots := 0, locals := 0 })
def fX8_draw (σ : SS) (a1 : Int32) : Option (Int32 × SS) :=
  vthen (sI σ 73 31 (irm (((25173 : Int32) * (gI σ 73 31)) + (13849 : Int32)) (65536 : Int32))) fun σ1 =>
  grd (nz a1) <|
  some ((irm ((gI σ1 73 31) / (4 : Int32)) a1), σ1)

set_option maxRecDepth 20000 in
theorem sX8_draw {g : GG} {σ : SS} {a1 : Int32} {r : Int32 × SS} (hr : fX8_draw σ a1 = some r)  : Ct g mX8_draw [.ref (ad g 73), .int a1] NF σ (some (.int r.1)) NF r.2 := by
  refine Ct.of (by decide +kernel) (nle rfl) fun hw0 => ?_
  have hw := hw0 rfl
  unfold fX8_draw at hr
  change RR g mX8_draw (FinR g mX8_draw (some (.int r.1)) NF r.2) zF 0 [(0, .ref (ad g 73)), (1, .int a1)] [] σ
  refine r_aload_n (pc := 0) (j := 0) dX8_draw_0 rfl rfl ?_
  refine r_sipush (pc := 1) (v := (25173 : Int32)) dX8_draw_1 rfl ?_
  refine r_aload_n (pc := 4) (j := 0) dX8_draw_4 rfl rfl ?_
  refine gf8_31 (pc := 5) tw_5_125 rfl dX8_draw_5 ?_
  refine r_imul (pc := 8) dX8_draw_8 ?_
  refine r_sipush (pc := 9) (v := (13849 : Int32)) dX8_draw_9 rfl ?_
  refine r_iadd (pc := 12) dX8_draw_12 ?_
  refine r_ldcw (pc := 13) (v := (65536 : Int32)) dX8_draw_13 tw_6_189 ?_
  refine r_irem (pc := 16) dX8_draw_16 (by decide) ?_
  refine pf8_31 (pc := 17) tw_5_125 rfl dX8_draw_17 fun σ1 eσ1 => ?_
  replace hr := vthen_inv hr σ1 eσ1
  have hσ1 := wtI eσ1 hw
  refine r_aload_n (pc := 20) (j := 0) dX8_draw_20 rfl rfl ?_
  refine gf8_31 (pc := 21) tw_5_125 rfl dX8_draw_21 ?_
  refine r_iconst (pc := 24) (v := (4 : Int32)) dX8_draw_24 rfl ?_
  refine r_idiv (pc := 25) dX8_draw_25 (by decide) ?_
  refine r_iload_n (pc := 26) (j := 1) dX8_draw_26 rfl rfl ?_
  obtain ⟨h2, hr⟩ := grd_inv hr
  refine r_irem (pc := 27) dX8_draw_27 (nz_ne h2) ?_
  exact l_osi hr (r_iret (pc := 28) (v := (irm ((gI σ1 73 31) / (4 : Int32)) a1)) rfl rfl ⟨Nat.le_refl _, Nat.le_refl _⟩ dX8_draw_28)

theorem kX8_draw {g : GG} {σ : SS} {a1 : Int32} {v : Int32} {σ2 : SS} {M : MM} {F : State → Array Value → List Frame → State → Prop} {pc index : Nat} {ls : List (Nat × Value)} {rest : List Value} (hf : fX8_draw σ a1 = some (v, σ2))  (hl : Cond.methodLink M.1.cls index yX8_draw ∈ lw_gt) (hR : mX8_draw.2.2.2.2.frames + 1 ≤ M.2.2.2.2.frames ∧ 8 + (mX8_draw.2.2.1 + 11) + mX8_draw.2.2.2.2.locals ≤ M.2.2.2.2.locals) (hrest : (rest.map fun v => v.category).sum ≤ 8) (hd : decode M.2.1 pc = .ok (.invokevirtual index, 3)) (k : WT σ2 → RR g M F zF (pc + 3) ls (.int v :: rest) σ2) : RR g M F zF pc ls (.int a1 :: .ref (ad g 73) :: rest) σ :=
  r_callV (z := zF) (N := mX8_draw) (nn := 1) (o1 := some (.int v)) (sX8_draw hf ) (rfl : shp 73 = (8, 0)) (by decide) (shp_le (rfl : shp 73 = (8, 0)) (nle rfl)) (ci := 8) rfl rfl tw_6_188 tw_1_10 hl tw_6_187 tp_53 ⟨by decide, by decide, rfl⟩ hR rfl hrest hd ⟨Nat.zero_le _, Nat.zero_le _⟩ rfl (fun h => k (h rfl))

theorem dX8_noise_0 : decode cX8_noise 0 = .ok (.iload_n 1, 1) := by decide +kernel
theorem dX8_noise_1 : decode cX8_noise 1 = .ok (.iconst 0, 1) := by decide +kernel
theorem dX8_noise_2 : decode cX8_noise 2 = .ok (.sipush 500, 3) := by decide +kernel
theorem dX8_noise_5 : decode cX8_noise 5 = .ok (.invokestatic 165, 3) := by decide +kernel
theorem dX8_noise_8 : decode cX8_noise 8 = .ok (.ifCond .ne 5, 3) := by decide +kernel
theorem dX8_noise_11 : decode cX8_noise 11 = .ok (.iconst (-1), 1) := by decide +kernel
theorem dX8_noise_12 : decode cX8_noise 12 = .ok (.ireturn, 1) := by decide +kernel
theorem dX8_noise_13 : decode cX8_noise 13 = .ok (.iconst 0, 1) := by decide +kernel
theorem dX8_noise_14 : decode cX8_noise 14 = .ok (.istore_n 2, 1) := by decide +kernel
theorem dX8_noise_15 : decode cX8_noise 15 = .ok (.iconst 0, 1) := by decide +kernel
theorem dX8_noise_16 : decode cX8_noise 16 = .ok (.istore_n 3, 1) := by decide +kernel
theorem dX8_noise_17 : decode cX8_noise 17 = .ok (.iload_n 3, 1) := by decide +kernel
theorem dX8_noise_18 : decode cX8_noise 18 = .ok (.iload_n 1, 1) := by decide +kernel
theorem dX8_noise_19 : decode cX8_noise 19 = .ok (.if_icmp .ge 99, 3) := by decide +kernel
theorem dX8_noise_22 : decode cX8_noise 22 = .ok (.aload_n 0, 1) := by decide +kernel
theorem dX8_noise_23 : decode cX8_noise 23 = .ok (.aload_n 0, 1) := by decide +kernel
theorem dX8_noise_24 : decode cX8_noise 24 = .ok (.getfield 132, 3) := by decide +kernel
theorem dX8_noise_27 : decode cX8_noise 27 = .ok (.invokevirtual 285, 3) := by decide +kernel
theorem dX8_noise_30 : decode cX8_noise 30 = .ok (.istore 4, 2) := by decide +kernel
theorem dX8_noise_32 : decode cX8_noise 32 = .ok (.aload_n 0, 1) := by decide +kernel
theorem dX8_noise_33 : decode cX8_noise 33 = .ok (.aload_n 0, 1) := by decide +kernel
theorem dX8_noise_34 : decode cX8_noise 34 = .ok (.getfield 136, 3) := by decide +kernel
theorem dX8_noise_37 : decode cX8_noise 37 = .ok (.invokevirtual 285, 3) := by decide +kernel
theorem dX8_noise_40 : decode cX8_noise 40 = .ok (.istore 5, 2) := by decide +kernel
theorem dX8_noise_42 : decode cX8_noise 42 = .ok (.aload_n 0, 1) := by decide +kernel
theorem dX8_noise_43 : decode cX8_noise 43 = .ok (.iconst 3, 1) := by decide +kernel
theorem dX8_noise_44 : decode cX8_noise 44 = .ok (.invokevirtual 285, 3) := by decide +kernel
theorem dX8_noise_47 : decode cX8_noise 47 = .ok (.ifCond .ne 7, 3) := by decide +kernel
theorem dX8_noise_50 : decode cX8_noise 50 = .ok (.iconst (-1), 1) := by decide +kernel
theorem dX8_noise_51 : decode cX8_noise 51 = .ok (.goto 4, 3) := by decide +kernel
theorem dX8_noise_54 : decode cX8_noise 54 = .ok (.iconst 1, 1) := by decide +kernel
theorem dX8_noise_55 : decode cX8_noise 55 = .ok (.istore 6, 2) := by decide +kernel
theorem dX8_noise_57 : decode cX8_noise 57 = .ok (.aload_n 0, 1) := by decide +kernel
theorem dX8_noise_58 : decode cX8_noise 58 = .ok (.getfield 132, 3) := by decide +kernel
theorem dX8_noise_61 : decode cX8_noise 61 = .ok (.iload 5, 2) := by decide +kernel
theorem dX8_noise_63 : decode cX8_noise 63 = .ok (.imul, 1) := by decide +kernel
theorem dX8_noise_64 : decode cX8_noise 64 = .ok (.iload 4, 2) := by decide +kernel
theorem dX8_noise_66 : decode cX8_noise 66 = .ok (.iadd, 1) := by decide +kernel
theorem dX8_noise_67 : decode cX8_noise 67 = .ok (.istore 7, 2) := by decide +kernel
theorem dX8_noise_69 : decode cX8_noise 69 = .ok (.aload_n 0, 1) := by decide +kernel
theorem dX8_noise_70 : decode cX8_noise 70 = .ok (.getfield 38, 3) := by decide +kernel
theorem dX8_noise_73 : decode cX8_noise 73 = .ok (.iload 7, 2) := by decide +kernel
theorem dX8_noise_75 : decode cX8_noise 75 = .ok (.iaload, 1) := by decide +kernel
theorem dX8_noise_76 : decode cX8_noise 76 = .ok (.iload 6, 2) := by decide +kernel
theorem dX8_noise_78 : decode cX8_noise 78 = .ok (.iadd, 1) := by decide +kernel
theorem dX8_noise_79 : decode cX8_noise 79 = .ok (.iconst 0, 1) := by decide +kernel
theorem dX8_noise_80 : decode cX8_noise 80 = .ok (.bipush 9, 2) := by decide +kernel
theorem dX8_noise_82 : decode cX8_noise 82 = .ok (.invokestatic 165, 3) := by decide +kernel
theorem dX8_noise_85 : decode cX8_noise 85 = .ok (.ifCond .ne 6, 3) := by decide +kernel
theorem dX8_noise_88 : decode cX8_noise 88 = .ok (.goto 24, 3) := by decide +kernel
theorem dX8_noise_91 : decode cX8_noise 91 = .ok (.aload_n 0, 1) := by decide +kernel
theorem dX8_noise_92 : decode cX8_noise 92 = .ok (.getfield 38, 3) := by decide +kernel
theorem dX8_noise_95 : decode cX8_noise 95 = .ok (.iload 7, 2) := by decide +kernel
theorem dX8_noise_97 : decode cX8_noise 97 = .ok (.aload_n 0, 1) := by decide +kernel
theorem dX8_noise_98 : decode cX8_noise 98 = .ok (.getfield 38, 3) := by decide +kernel
theorem dX8_noise_101 : decode cX8_noise 101 = .ok (.iload 7, 2) := by decide +kernel
theorem dX8_noise_103 : decode cX8_noise 103 = .ok (.iaload, 1) := by decide +kernel
theorem dX8_noise_104 : decode cX8_noise 104 = .ok (.iload 6, 2) := by decide +kernel
theorem dX8_noise_106 : decode cX8_noise 106 = .ok (.iadd, 1) := by decide +kernel
theorem dX8_noise_107 : decode cX8_noise 107 = .ok (.iastore, 1) := by decide +kernel
theorem dX8_noise_108 : decode cX8_noise 108 = .ok (.iload_n 2, 1) := by decide +kernel
theorem dX8_noise_109 : decode cX8_noise 109 = .ok (.iconst 1, 1) := by decide +kernel
theorem dX8_noise_110 : decode cX8_noise 110 = .ok (.iadd, 1) := by decide +kernel
theorem dX8_noise_111 : decode cX8_noise 111 = .ok (.istore_n 2, 1) := by decide +kernel
theorem dX8_noise_112 : decode cX8_noise 112 = .ok (.iinc 3 1, 3) := by decide +kernel
theorem dX8_noise_115 : decode cX8_noise 115 = .ok (.goto (-98), 3) := by decide +kernel
theorem dX8_noise_118 : decode cX8_noise 118 = .ok (.iload_n 2, 1) := by decide +kernel
theorem dX8_noise_119 : decode cX8_noise 119 = .ok (.ireturn, 1) := by decide +kernel
def mX8_noise : MM := (yX8_noise, cX8_noise, 8, Option.some Jvm.ClassFile.FieldType.int, { frames := 1, cells := 0, slots := 0, locals := 22 })
def X8_noise_L17 (u1_ : Int32)  : Nat → Int32 → Int32 → SS → Option (Int32 × SS) :=
  lp (fun _ _ _ => none) fun rec v2_ v3_ σ_ =>
    if u1_ ≤ v3_ then (
      some (v2_, σ_)
      ) else (
      bnd (fX8_draw σ_ (gI σ_ 73 29)) fun v1 σ4 =>
      bnd (fX8_draw σ4 (gI σ4 73 30)) fun v5 σ8 =>
      bnd (fX8_draw σ8 (3 : Int32)) fun v9 σ12 =>
      vthen (fun (s13 : Int32) =>
        vthen (((gI σ12 73 29) * v5) + v1) fun v14 =>
        grd (inb v14 1600) <|
        if (fX8_in σ12 ((gI σ12 83 (Int32.toNatClampNeg v14)) + s13) (0 : Int32) (9 : Int32)) = true then (
          vthen (sI σ12 83 (Int32.toNatClampNeg v14) ((gI σ12 83 (Int32.toNatClampNeg v14)) + s13)) fun σ16 =>
          vthen (v2_ + (1 : Int32)) fun v17 =>
          rec v17 (v3_ + (1 : Int32)) σ16
          ) else (
          rec v2_ (v3_ + (1 : Int32)) σ12
          )
        ) fun j55 =>
      if v9 = 0 then (
        j55 (-1 : Int32)
        ) else (
        j55 (1 : Int32)
        )
      )

def fX8_noise (σ : SS) (a1 : Int32) : Option (Int32 × SS) :=
  if (fX8_in σ a1 (0 : Int32) (500 : Int32)) = true then (
    X8_noise_L17 a1
    fuel (0 : Int32) (0 : Int32) σ
    ) else (
    some ((-1 : Int32), σ)
    )

set_option maxRecDepth 20000 in
theorem sX8_noise_L17 {g : GG} {r : Int32 × SS} {u1_ : Int32}  
    (n : Nat) : ∀ (v2_ : Int32) (v3_ : Int32) (σ_ : SS), X8_noise_L17 u1_ n v2_ v3_ σ_ = some r → WT σ_ → RR g mX8_noise (FinR g mX8_noise (some (.int r.1)) NF r.2) zF 17 [(0, .ref (ad g 73)), (1, .int u1_), (2, .int v2_), (3, .int v3_)] [] σ_ := by
  unfold X8_noise_L17
  refine lp_ind (P := fun (rec : Int32 → Int32 → SS → Option (Int32 × SS)) => ∀ (v2_ : Int32) (v3_ : Int32) (σ_ : SS), rec v2_ v3_ σ_ = some r → WT σ_ → RR g mX8_noise (FinR g mX8_noise (some (.int r.1)) NF r.2) zF 17 [(0, .ref (ad g 73)), (1, .int u1_), (2, .int v2_), (3, .int v3_)] [] σ_) ?_ ?_ n
  · intro v2_ v3_ σ_ hr; cases hr
  intro rec ih v2_ v3_ σ_ hr hw_
  refine r_iload_n (pc := 17) (j := 3) dX8_noise_17 rfl rfl ?_
  refine r_iload_n (pc := 18) (j := 1) dX8_noise_18 rfl rfl ?_
  refine r_icmp_ge (pc := 19) (tgt := 118) dX8_noise_19 rfl (fun hc => ?_) (fun hc => ?_)
  · replace hr := ite_t hc hr
    refine r_iload_n (pc := 118) (j := 2) dX8_noise_118 rfl rfl ?_
    exact l_osi hr (r_iret (pc := 119) (v := v2_) rfl rfl ⟨Nat.le_refl _, Nat.le_refl _⟩ dX8_noise_119)
  replace hr := ite_f hc hr
  refine r_aload_n (pc := 22) (j := 0) dX8_noise_22 rfl rfl ?_
  refine r_aload_n (pc := 23) (j := 0) dX8_noise_23 rfl rfl ?_
  refine gf8_29 (pc := 24) tw_5_123 rfl dX8_noise_24 ?_
  obtain ⟨v1, σ4, eσ4, hr⟩ := bnd_inv hr
  refine kX8_draw (pc := 27) eσ4 tw_6_185 ⟨nle rfl, nle rfl⟩ (nle rfl) dX8_noise_27 fun hσ4 => ?_
  refine r_istore (pc := 30) (ls1 := [(4, .int v1), (0, .ref (ad g 73)), (1, .int u1_), (2, .int v2_), (3, .int v3_)]) dX8_noise_30 (nle rfl) rfl ?_
  refine r_aload_n (pc := 32) (j := 1) dX8_noise_32 rfl rfl ?_
  refine r_aload_n (pc := 33) (j := 1) dX8_noise_33 rfl rfl ?_
  refine gf8_30 (pc := 34) tw_5_124 rfl dX8_noise_34 ?_
  obtain ⟨v5, σ8, eσ8, hr⟩ := bnd_inv hr
  refine kX8_draw (pc := 37) eσ8 tw_6_185 ⟨nle rfl, nle rfl⟩ (nle rfl) dX8_noise_37 fun hσ8 => ?_
  refine r_istore (pc := 40) (ls1 := [(5, .int v5), (4, .int v1), (0, .ref (ad g 73)), (1, .int u1_), (2, .int v2_), (3, .int v3_)]) dX8_noise_40 (nle rfl) rfl ?_
  refine r_aload_n (pc := 42) (j := 2) dX8_noise_42 rfl rfl ?_
  refine r_iconst (pc := 43) (v := (3 : Int32)) dX8_noise_43 rfl ?_
  obtain ⟨v9, σ12, eσ12, hr⟩ := bnd_inv hr
  refine kX8_draw (pc := 44) eσ12 tw_6_185 ⟨nle rfl, nle rfl⟩ (nle rfl) dX8_noise_44 fun hσ12 => ?_
  obtain ⟨j55, ej55, hr⟩ := vth_ex hr
  have hj55 : ∀ (s13 : Int32), j55 s13 = some r → RR g mX8_noise (FinR g mX8_noise (some (.int r.1)) NF r.2) zF 55 [(0, .ref (ad g 73)), (1, .int u1_), (2, .int v2_), (3, .int v3_), (4, .int v1), (5, .int v5)] [.int s13] σ12 := by
    intro s13 hr
    replace hr := (congrFun ej55 s13).symm.trans hr
    refine r_istore (pc := 55) (ls1 := [(6, .int s13), (0, .ref (ad g 73)), (1, .int u1_), (2, .int v2_), (3, .int v3_), (4, .int v1), (5, .int v5)]) dX8_noise_55 (nle rfl) rfl ?_
    refine r_aload_n (pc := 57) (j := 1) dX8_noise_57 rfl rfl ?_
    refine gf8_29 (pc := 58) tw_5_123 rfl dX8_noise_58 ?_
    refine r_iload (pc := 61) (j := 6) dX8_noise_61 rfl ?_
    refine r_imul (pc := 63) dX8_noise_63 ?_
    refine r_iload (pc := 64) (j := 5) dX8_noise_64 rfl ?_
    refine r_iadd (pc := 66) dX8_noise_66 ?_
    refine r_topi fun v14 ev14 => ?_
    replace hr := vthen_inv hr v14 ev14
    refine r_istore (pc := 67) (ls1 := [(7, .int v14), (6, .int s13), (0, .ref (ad g 73)), (1, .int u1_), (2, .int v2_), (3, .int v3_), (4, .int v1), (5, .int v5)]) dX8_noise_67 (nle rfl) rfl ?_
    refine r_aload_n (pc := 69) (j := 2) dX8_noise_69 rfl rfl ?_
    refine gf8_21 (pc := 70) tw_5_115 hσ12 dX8_noise_70 ?_
    refine r_iload (pc := 73) (j := 0) dX8_noise_73 rfl ?_
    obtain ⟨h15, hr⟩ := grd_inv hr
    refine x_iald (pc := 75) (k := (Int32.toNatClampNeg v14)) rfl h15 rfl dX8_noise_75 ?_
    refine r_iload (pc := 76) (j := 1) dX8_noise_76 rfl ?_
    refine r_iadd (pc := 78) dX8_noise_78 ?_
    refine r_iconst (pc := 79) (v := (0 : Int32)) dX8_noise_79 rfl ?_
    refine r_bipush (pc := 80) (v := (9 : Int32)) dX8_noise_80 rfl ?_
    refine kX8_in (pc := 82) (hf := rfl) tw_6_65 ⟨nle rfl, nle rfl⟩ (nle rfl) dX8_noise_82 ?_
    refine r_ifB_ne (pc := 85) (tgt := 91) dX8_noise_85 rfl (fun hc => ?_) (fun hc => ?_)
    · replace hr := ite_t hc hr
      refine r_aload_n (pc := 91) (j := 2) dX8_noise_91 rfl rfl ?_
      refine gf8_21 (pc := 92) tw_5_115 hσ12 dX8_noise_92 ?_
      refine r_iload (pc := 95) (j := 0) dX8_noise_95 rfl ?_
      refine r_aload_n (pc := 97) (j := 2) dX8_noise_97 rfl rfl ?_
      refine gf8_21 (pc := 98) tw_5_115 hσ12 dX8_noise_98 ?_
      refine r_iload (pc := 101) (j := 0) dX8_noise_101 rfl ?_
      refine x_iald (pc := 103) (k := (Int32.toNatClampNeg v14)) rfl h15 rfl dX8_noise_103 ?_
      refine r_iload (pc := 104) (j := 1) dX8_noise_104 rfl ?_
      refine r_iadd (pc := 106) dX8_noise_106 ?_
      refine x_iast (pc := 107) (j := (Int32.toNatClampNeg v14)) rfl h15 rfl dX8_noise_107 fun σ16 eσ16 => ?_
      replace hr := vthen_inv hr σ16 eσ16
      have hσ16 := wtI eσ16 hσ12
      refine r_iload_n (pc := 108) (j := 4) dX8_noise_108 rfl rfl ?_
      refine r_iconst (pc := 109) (v := (1 : Int32)) dX8_noise_109 rfl ?_
      refine r_iadd (pc := 110) dX8_noise_110 ?_
      refine r_topi fun v17 ev17 => ?_
      replace hr := vthen_inv hr v17 ev17
      refine r_istore_n (pc := 111) (ls1 := [(2, .int v17), (7, .int v14), (6, .int s13), (0, .ref (ad g 73)), (1, .int u1_), (3, .int v3_), (4, .int v1), (5, .int v5)]) dX8_noise_111 rfl (nle rfl) rfl ?_
      refine r_iinc (pc := 112) (j := 5) (v := (v3_ + (1 : Int32))) (ls1 := [(3, .int (v3_ + (1 : Int32))), (2, .int v17), (7, .int v14), (6, .int s13), (0, .ref (ad g 73)), (1, .int u1_), (4, .int v1), (5, .int v5)]) dX8_noise_112 rfl rfl (nle rfl) rfl ?_
      refine r_goto (pc := 115) (tgt := 17) dX8_noise_115 rfl ?_
      exact r_pick (ls1 := [(0, .ref (ad g 73)), (1, .int u1_), (2, .int v17), (3, .int (v3_ + (1 : Int32)))]) [4, 5, 1, 0] rfl (ih v17 (v3_ + (1 : Int32)) σ16 hr hσ16)
    replace hr := ite_f hc hr
    refine r_goto (pc := 88) (tgt := 112) dX8_noise_88 rfl ?_
    refine r_iinc (pc := 112) (j := 5) (v := (v3_ + (1 : Int32))) (ls1 := [(3, .int (v3_ + (1 : Int32))), (7, .int v14), (6, .int s13), (0, .ref (ad g 73)), (1, .int u1_), (2, .int v2_), (4, .int v1), (5, .int v5)]) dX8_noise_112 rfl rfl (nle rfl) rfl ?_
    refine r_goto (pc := 115) (tgt := 17) dX8_noise_115 rfl ?_
    exact r_pick (ls1 := [(0, .ref (ad g 73)), (1, .int u1_), (2, .int v2_), (3, .int (v3_ + (1 : Int32)))]) [3, 4, 5, 0] rfl (ih v2_ (v3_ + (1 : Int32)) σ12 hr hσ12)
  refine r_if_ne (pc := 47) (tgt := 54) dX8_noise_47 rfl (fun hc => ?_) (fun hc => ?_)
  · replace hr := ite_f hc hr
    refine r_iconst (pc := 54) (v := (1 : Int32)) dX8_noise_54 rfl ?_
    exact r_pick (ls1 := [(0, .ref (ad g 73)), (1, .int u1_), (2, .int v2_), (3, .int v3_), (4, .int v1), (5, .int v5)]) [2, 3, 4, 5, 1, 0] rfl (hj55 (1 : Int32) hr)
  replace hr := ite_t hc hr
  refine r_iconst (pc := 50) (v := (-1 : Int32)) dX8_noise_50 rfl ?_
  refine r_goto (pc := 51) (tgt := 55) dX8_noise_51 rfl ?_
  exact r_pick (ls1 := [(0, .ref (ad g 73)), (1, .int u1_), (2, .int v2_), (3, .int v3_), (4, .int v1), (5, .int v5)]) [2, 3, 4, 5, 1, 0] rfl (hj55 (-1 : Int32) hr)

set_option maxRecDepth 20000 in
theorem sX8_noise {g : GG} {σ : SS} {a1 : Int32} {r : Int32 × SS} (hr : fX8_noise σ a1 = some r)  : Ct g mX8_noise [.ref (ad g 73), .int a1] NF σ (some (.int r.1)) NF r.2 := by
  refine Ct.of (by decide +kernel) (nle rfl) fun hw0 => ?_
  have hw := hw0 rfl
  unfold fX8_noise at hr
  change RR g mX8_noise (FinR g mX8_noise (some (.int r.1)) NF r.2) zF 0 [(0, .ref (ad g 73)), (1, .int a1)] [] σ
  refine r_iload_n (pc := 0) (j := 1) dX8_noise_0 rfl rfl ?_
  refine r_iconst (pc := 1) (v := (0 : Int32)) dX8_noise_1 rfl ?_
  refine r_sipush (pc := 2) (v := (500 : Int32)) dX8_noise_2 rfl ?_
  refine kX8_in (pc := 5) (hf := rfl) tw_6_65 ⟨nle rfl, nle rfl⟩ (nle rfl) dX8_noise_5 ?_
  refine r_ifB_ne (pc := 8) (tgt := 13) dX8_noise_8 rfl (fun hc => ?_) (fun hc => ?_)
  · replace hr := ite_t hc hr
    refine r_iconst (pc := 13) (v := (0 : Int32)) dX8_noise_13 rfl ?_
    refine r_istore_n (pc := 14) (ls1 := [(2, .int (0 : Int32)), (0, .ref (ad g 73)), (1, .int a1)]) dX8_noise_14 rfl (nle rfl) rfl ?_
    refine r_iconst (pc := 15) (v := (0 : Int32)) dX8_noise_15 rfl ?_
    refine r_istore_n (pc := 16) (ls1 := [(3, .int (0 : Int32)), (2, .int (0 : Int32)), (0, .ref (ad g 73)), (1, .int a1)]) dX8_noise_16 rfl (nle rfl) rfl ?_
    refine r_pick (ls1 := [(0, .ref (ad g 73)), (1, .int a1), (2, .int (0 : Int32)), (3, .int (0 : Int32))]) [2, 3, 1, 0] rfl ?_
    refine sX8_noise_L17     fuel (0 : Int32) (0 : Int32) σ hr hw
  replace hr := ite_f hc hr
  refine r_iconst (pc := 11) (v := (-1 : Int32)) dX8_noise_11 rfl ?_
  exact l_osi hr (r_iret (pc := 12) (v := (-1 : Int32)) rfl rfl ⟨Nat.le_refl _, Nat.le_refl _⟩ dX8_noise_12)

theorem kX8_noise {g : GG} {σ : SS} {a1 : Int32} {v : Int32} {σ2 : SS} {M : MM} {F : State → Array Value → List Frame → State → Prop} {pc index : Nat} {ls : List (Nat × Value)} {rest : List Value} (hf : fX8_noise σ a1 = some (v, σ2))  (hl : Cond.methodLink M.1.cls index yX8_noise ∈ lw_gt) (hR : mX8_noise.2.2.2.2.frames + 1 ≤ M.2.2.2.2.frames ∧ 8 + (mX8_noise.2.2.1 + 11) + mX8_noise.2.2.2.2.locals ≤ M.2.2.2.2.locals) (hrest : (rest.map fun v => v.category).sum ≤ 8) (hd : decode M.2.1 pc = .ok (.invokevirtual index, 3)) (k : WT σ2 → RR g M F zF (pc + 3) ls (.int v :: rest) σ2) : RR g M F zF pc ls (.int a1 :: .ref (ad g 73) :: rest) σ :=
  r_callV (z := zF) (N := mX8_noise) (nn := 1) (o1 := some (.int v)) (sX8_noise hf ) (rfl : shp 73 = (8, 0)) (by decide) (shp_le (rfl : shp 73 = (8, 0)) (nle rfl)) (ci := 8) rfl rfl tw_6_184 tw_1_10 hl tw_6_182 tw_6_183 ⟨by decide, by decide, rfl⟩ hR rfl hrest hd ⟨Nat.zero_le _, Nat.zero_le _⟩ rfl (fun h => k (h rfl))

theorem dX7_seed_0 : decode cX7_seed 0 = .ok (.aload_n 0, 1) := by decide +kernel
theorem dX7_seed_1 : decode cX7_seed 1 = .ok (.getfield 46, 3) := by decide +kernel
theorem dX7_seed_4 : decode cX7_seed 4 = .ok (.istore_n 2, 1) := by decide +kernel
theorem dX7_seed_5 : decode cX7_seed 5 = .ok (.aload_n 0, 1) := by decide +kernel
theorem dX7_seed_6 : decode cX7_seed 6 = .ok (.iload_n 1, 1) := by decide +kernel
theorem dX7_seed_7 : decode cX7_seed 7 = .ok (.ldc 182, 2) := by decide +kernel
theorem dX7_seed_9 : decode cX7_seed 9 = .ok (.iand, 1) := by decide +kernel
theorem dX7_seed_10 : decode cX7_seed 10 = .ok (.putfield 46, 3) := by decide +kernel
theorem dX7_seed_13 : decode cX7_seed 13 = .ok (.iload_n 2, 1) := by decide +kernel
theorem dX7_seed_14 : decode cX7_seed 14 = .ok (.ireturn, 1) := by decide +kernel
def mX7_seed : MM := (yX7_seed, cX7_seed, 3, Option.some Jvm.ClassFile.FieldType.int, { frames := 0, cells := 0, slots := 0, locals := 0 })
def fX7_seed (σ : SS) (a1 : Int32) : Option (Int32 × SS) :=
  vthen (gI σ 1 8) fun v1 =>
  vthen (sI σ 1 8 (a1 &&& (65535 : Int32))) fun σ2 =>
  some (v1, σ2)

set_option maxRecDepth 20000 in
theorem sX7_seed {g : GG} {σ : SS} {a1 : Int32} {r : Int32 × SS} (hr : fX7_seed σ a1 = some r)  : Ct g mX7_seed [.ref (ad g 1), .int a1] NF σ (some (.int r.1)) NF r.2 := by
  refine Ct.of (by decide +kernel) (nle rfl) fun hw0 => ?_
  have hw := hw0 rfl
  unfold fX7_seed at hr
  change RR g mX7_seed (FinR g mX7_seed (some (.int r.1)) NF r.2) zF 0 [(0, .ref (ad g 1)), (1, .int a1)] [] σ
  refine r_aload_n (pc := 0) (j := 0) dX7_seed_0 rfl rfl ?_
  refine gf7_8 (pc := 1) tw_2_117 rfl dX7_seed_1 ?_
  refine r_topi fun v1 ev1 => ?_
  replace hr := vthen_inv hr v1 ev1
  refine r_istore_n (pc := 4) (ls1 := [(2, .int v1), (0, .ref (ad g 1)), (1, .int a1)]) dX7_seed_4 rfl (nle rfl) rfl ?_
  refine r_aload_n (pc := 5) (j := 1) dX7_seed_5 rfl rfl ?_
  refine r_iload_n (pc := 6) (j := 2) dX7_seed_6 rfl rfl ?_
  refine r_ldc (pc := 7) (v := (65535 : Int32)) dX7_seed_7 tw_3_145 ?_
  refine r_iand (pc := 9) dX7_seed_9 ?_
  refine pf7_8 (pc := 10) tw_2_117 rfl dX7_seed_10 fun σ2 eσ2 => ?_
  replace hr := vthen_inv hr σ2 eσ2
  have hσ2 := wtI eσ2 hw
  refine r_iload_n (pc := 13) (j := 0) dX7_seed_13 rfl rfl ?_
  exact l_osi hr (r_iret (pc := 14) (v := v1) rfl rfl ⟨Nat.le_refl _, Nat.le_refl _⟩ dX7_seed_14)

theorem kX7_seed {g : GG} {σ : SS} {a1 : Int32} {v : Int32} {σ2 : SS} {M : MM} {F : State → Array Value → List Frame → State → Prop} {pc index : Nat} {ls : List (Nat × Value)} {rest : List Value} (hf : fX7_seed σ a1 = some (v, σ2))  (hl : Cond.methodLink M.1.cls index yX7_seed ∈ lw_gt) (hR : mX7_seed.2.2.2.2.frames + 1 ≤ M.2.2.2.2.frames ∧ 8 + (mX7_seed.2.2.1 + 11) + mX7_seed.2.2.2.2.locals ≤ M.2.2.2.2.locals) (hrest : (rest.map fun v => v.category).sum ≤ 8) (hd : decode M.2.1 pc = .ok (.invokevirtual index, 3)) (k : WT σ2 → RR g M F zF (pc + 3) ls (.int v :: rest) σ2) : RR g M F zF pc ls (.int a1 :: .ref (ad g 1) :: rest) σ :=
  r_callV (z := zF) (N := mX7_seed) (nn := 1) (o1 := some (.int v)) (sX7_seed hf ) (rfl : shp 1 = (7, 0)) (by decide) (shp_le (rfl : shp 1 = (7, 0)) (nle rfl)) (ci := 7) rfl rfl tw_3_152 tw_1_1 hl tw_3_150 tw_3_151 ⟨by decide, by decide, rfl⟩ hR rfl hrest hd ⟨Nat.zero_le _, Nat.zero_le _⟩ rfl (fun h => k (h rfl))

theorem dX8_seed_0 : decode cX8_seed 0 = .ok (.aload_n 0, 1) := by decide +kernel
theorem dX8_seed_1 : decode cX8_seed 1 = .ok (.getfield 139, 3) := by decide +kernel
theorem dX8_seed_4 : decode cX8_seed 4 = .ok (.istore_n 2, 1) := by decide +kernel
theorem dX8_seed_5 : decode cX8_seed 5 = .ok (.aload_n 0, 1) := by decide +kernel
theorem dX8_seed_6 : decode cX8_seed 6 = .ok (.iload_n 1, 1) := by decide +kernel
theorem dX8_seed_7 : decode cX8_seed 7 = .ok (.ldc_w 288, 3) := by decide +kernel
theorem dX8_seed_10 : decode cX8_seed 10 = .ok (.iand, 1) := by decide +kernel
theorem dX8_seed_11 : decode cX8_seed 11 = .ok (.putfield 139, 3) := by decide +kernel
theorem dX8_seed_14 : decode cX8_seed 14 = .ok (.iload_n 2, 1) := by decide +kernel
theorem dX8_seed_15 : decode cX8_seed 15 = .ok (.ireturn, 1) := by decide +kernel
def mX8_seed : MM := (yX8_seed, cX8_seed, 3, Option.some Jvm.ClassFile.FieldType.int, { frames := 0, cells := 0, slots := 0, locals := 0 })
def fX8_seed (σ : SS) (a1 : Int32) : Option (Int32 × SS) :=
  vthen (gI σ 73 31) fun v1 =>
  vthen (sI σ 73 31 (a1 &&& (65535 : Int32))) fun σ2 =>
  some (v1, σ2)

set_option maxRecDepth 20000 in
theorem sX8_seed {g : GG} {σ : SS} {a1 : Int32} {r : Int32 × SS} (hr : fX8_seed σ a1 = some r)  : Ct g mX8_seed [.ref (ad g 73), .int a1] NF σ (some (.int r.1)) NF r.2 := by
  refine Ct.of (by decide +kernel) (nle rfl) fun hw0 => ?_
  have hw := hw0 rfl
  unfold fX8_seed at hr
  change RR g mX8_seed (FinR g mX8_seed (some (.int r.1)) NF r.2) zF 0 [(0, .ref (ad g 73)), (1, .int a1)] [] σ
  refine r_aload_n (pc := 0) (j := 0) dX8_seed_0 rfl rfl ?_
  refine gf8_31 (pc := 1) tw_5_125 rfl dX8_seed_1 ?_
  refine r_topi fun v1 ev1 => ?_
  replace hr := vthen_inv hr v1 ev1
  refine r_istore_n (pc := 4) (ls1 := [(2, .int v1), (0, .ref (ad g 73)), (1, .int a1)]) dX8_seed_4 rfl (nle rfl) rfl ?_
  refine r_aload_n (pc := 5) (j := 1) dX8_seed_5 rfl rfl ?_
  refine r_iload_n (pc := 6) (j := 2) dX8_seed_6 rfl rfl ?_
  refine r_ldcw (pc := 7) (v := (65535 : Int32)) dX8_seed_7 tw_6_194 ?_
  refine r_iand (pc := 10) dX8_seed_10 ?_
  refine pf8_31 (pc := 11) tw_5_125 rfl dX8_seed_11 fun σ2 eσ2 => ?_
  replace hr := vthen_inv hr σ2 eσ2
  have hσ2 := wtI eσ2 hw
  refine r_iload_n (pc := 14) (j := 0) dX8_seed_14 rfl rfl ?_
  exact l_osi hr (r_iret (pc := 15) (v := v1) rfl rfl ⟨Nat.le_refl _, Nat.le_refl _⟩ dX8_seed_15)

theorem kX8_seed {g : GG} {σ : SS} {a1 : Int32} {v : Int32} {σ2 : SS} {M : MM} {F : State → Array Value → List Frame → State → Prop} {pc index : Nat} {ls : List (Nat × Value)} {rest : List Value} (hf : fX8_seed σ a1 = some (v, σ2))  (hl : Cond.methodLink M.1.cls index yX8_seed ∈ lw_gt) (hR : mX8_seed.2.2.2.2.frames + 1 ≤ M.2.2.2.2.frames ∧ 8 + (mX8_seed.2.2.1 + 11) + mX8_seed.2.2.2.2.locals ≤ M.2.2.2.2.locals) (hrest : (rest.map fun v => v.category).sum ≤ 8) (hd : decode M.2.1 pc = .ok (.invokevirtual index, 3)) (k : WT σ2 → RR g M F zF (pc + 3) ls (.int v :: rest) σ2) : RR g M F zF pc ls (.int a1 :: .ref (ad g 73) :: rest) σ :=
  r_callV (z := zF) (N := mX8_seed) (nn := 1) (o1 := some (.int v)) (sX8_seed hf ) (rfl : shp 73 = (8, 0)) (by decide) (shp_le (rfl : shp 73 = (8, 0)) (nle rfl)) (ci := 8) rfl rfl tw_6_193 tw_1_10 hl tw_6_191 tw_6_192 ⟨by decide, by decide, rfl⟩ hR rfl hrest hd ⟨Nat.zero_le _, Nat.zero_le _⟩ rfl (fun h => k (h rfl))

theorem dX6_takeTurned_0 : decode cX6_takeTurned 0 = .ok (.aload_n 1, 1) := by decide +kernel
theorem dX6_takeTurned_1 : decode cX6_takeTurned 1 = .ok (.getfield 18, 3) := by decide +kernel
theorem dX6_takeTurned_4 : decode cX6_takeTurned 4 = .ok (.istore_n 3, 1) := by decide +kernel
theorem dX6_takeTurned_5 : decode cX6_takeTurned 5 = .ok (.aload_n 1, 1) := by decide +kernel
theorem dX6_takeTurned_6 : decode cX6_takeTurned 6 = .ok (.getfield 22, 3) := by decide +kernel
theorem dX6_takeTurned_9 : decode cX6_takeTurned 9 = .ok (.istore 4, 2) := by decide +kernel
theorem dX6_takeTurned_11 : decode cX6_takeTurned 11 = .ok (.aload_n 0, 1) := by decide +kernel
theorem dX6_takeTurned_12 : decode cX6_takeTurned 12 = .ok (.iload_n 2, 1) := by decide +kernel
theorem dX6_takeTurned_13 : decode cX6_takeTurned 13 = .ok (.iconst 2, 1) := by decide +kernel
theorem dX6_takeTurned_14 : decode cX6_takeTurned 14 = .ok (.irem, 1) := by decide +kernel
theorem dX6_takeTurned_15 : decode cX6_takeTurned 15 = .ok (.ifCond .ne 7, 3) := by decide +kernel
theorem dX6_takeTurned_18 : decode cX6_takeTurned 18 = .ok (.iload_n 3, 1) := by decide +kernel
theorem dX6_takeTurned_19 : decode cX6_takeTurned 19 = .ok (.goto 5, 3) := by decide +kernel
theorem dX6_takeTurned_22 : decode cX6_takeTurned 22 = .ok (.iload 4, 2) := by decide +kernel
theorem dX6_takeTurned_24 : decode cX6_takeTurned 24 = .ok (.putfield 18, 3) := by decide +kernel
theorem dX6_takeTurned_27 : decode cX6_takeTurned 27 = .ok (.aload_n 0, 1) := by decide +kernel
theorem dX6_takeTurned_28 : decode cX6_takeTurned 28 = .ok (.iload_n 2, 1) := by decide +kernel
theorem dX6_takeTurned_29 : decode cX6_takeTurned 29 = .ok (.iconst 2, 1) := by decide +kernel
theorem dX6_takeTurned_30 : decode cX6_takeTurned 30 = .ok (.irem, 1) := by decide +kernel
theorem dX6_takeTurned_31 : decode cX6_takeTurned 31 = .ok (.ifCond .ne 8, 3) := by decide +kernel
theorem dX6_takeTurned_34 : decode cX6_takeTurned 34 = .ok (.iload 4, 2) := by decide +kernel
theorem dX6_takeTurned_36 : decode cX6_takeTurned 36 = .ok (.goto 4, 3) := by decide +kernel
theorem dX6_takeTurned_39 : decode cX6_takeTurned 39 = .ok (.iload_n 3, 1) := by decide +kernel
theorem dX6_takeTurned_40 : decode cX6_takeTurned 40 = .ok (.putfield 22, 3) := by decide +kernel
theorem dX6_takeTurned_43 : decode cX6_takeTurned 43 = .ok (.iconst 0, 1) := by decide +kernel
theorem dX6_takeTurned_44 : decode cX6_takeTurned 44 = .ok (.istore 5, 2) := by decide +kernel
theorem dX6_takeTurned_46 : decode cX6_takeTurned 46 = .ok (.iload 5, 2) := by decide +kernel
theorem dX6_takeTurned_48 : decode cX6_takeTurned 48 = .ok (.iload 4, 2) := by decide +kernel
theorem dX6_takeTurned_50 : decode cX6_takeTurned 50 = .ok (.if_icmp .ge 133, 3) := by decide +kernel
theorem dX6_takeTurned_53 : decode cX6_takeTurned 53 = .ok (.iconst 0, 1) := by decide +kernel
theorem dX6_takeTurned_54 : decode cX6_takeTurned 54 = .ok (.istore 6, 2) := by decide +kernel
theorem dX6_takeTurned_56 : decode cX6_takeTurned 56 = .ok (.iload 6, 2) := by decide +kernel
theorem dX6_takeTurned_58 : decode cX6_takeTurned 58 = .ok (.iload_n 3, 1) := by decide +kernel
theorem dX6_takeTurned_59 : decode cX6_takeTurned 59 = .ok (.if_icmp .ge 118, 3) := by decide +kernel
theorem dX6_takeTurned_62 : decode cX6_takeTurned 62 = .ok (.aload_n 1, 1) := by decide +kernel
theorem dX6_takeTurned_63 : decode cX6_takeTurned 63 = .ok (.iload 6, 2) := by decide +kernel
theorem dX6_takeTurned_65 : decode cX6_takeTurned 65 = .ok (.iload 5, 2) := by decide +kernel
theorem dX6_takeTurned_67 : decode cX6_takeTurned 67 = .ok (.invokevirtual 45, 3) := by decide +kernel
theorem dX6_takeTurned_70 : decode cX6_takeTurned 70 = .ok (.istore 7, 2) := by decide +kernel
theorem dX6_takeTurned_72 : decode cX6_takeTurned 72 = .ok (.iload_n 2, 1) := by decide +kernel
theorem dX6_takeTurned_73 : decode cX6_takeTurned 73 = .ok (.tableswitch 87 1 3 #[27, 46, 69], 27) := by decide +kernel
theorem dX6_takeTurned_100 : decode cX6_takeTurned 100 = .ok (.aload_n 0, 1) := by decide +kernel
theorem dX6_takeTurned_101 : decode cX6_takeTurned 101 = .ok (.iload 4, 2) := by decide +kernel
theorem dX6_takeTurned_103 : decode cX6_takeTurned 103 = .ok (.iconst 1, 1) := by decide +kernel
theorem dX6_takeTurned_104 : decode cX6_takeTurned 104 = .ok (.isub, 1) := by decide +kernel
theorem dX6_takeTurned_105 : decode cX6_takeTurned 105 = .ok (.iload 5, 2) := by decide +kernel
theorem dX6_takeTurned_107 : decode cX6_takeTurned 107 = .ok (.isub, 1) := by decide +kernel
theorem dX6_takeTurned_108 : decode cX6_takeTurned 108 = .ok (.iload 6, 2) := by decide +kernel
theorem dX6_takeTurned_110 : decode cX6_takeTurned 110 = .ok (.iload 7, 2) := by decide +kernel
theorem dX6_takeTurned_112 : decode cX6_takeTurned 112 = .ok (.invokevirtual 35, 3) := by decide +kernel
theorem dX6_takeTurned_115 : decode cX6_takeTurned 115 = .ok (.pop, 1) := by decide +kernel
theorem dX6_takeTurned_116 : decode cX6_takeTurned 116 = .ok (.goto 55, 3) := by decide +kernel
theorem dX6_takeTurned_119 : decode cX6_takeTurned 119 = .ok (.aload_n 0, 1) := by decide +kernel
theorem dX6_takeTurned_120 : decode cX6_takeTurned 120 = .ok (.iload_n 3, 1) := by decide +kernel
theorem dX6_takeTurned_121 : decode cX6_takeTurned 121 = .ok (.iconst 1, 1) := by decide +kernel
theorem dX6_takeTurned_122 : decode cX6_takeTurned 122 = .ok (.isub, 1) := by decide +kernel
theorem dX6_takeTurned_123 : decode cX6_takeTurned 123 = .ok (.iload 6, 2) := by decide +kernel
theorem dX6_takeTurned_125 : decode cX6_takeTurned 125 = .ok (.isub, 1) := by decide +kernel
theorem dX6_takeTurned_126 : decode cX6_takeTurned 126 = .ok (.iload 4, 2) := by decide +kernel
theorem dX6_takeTurned_128 : decode cX6_takeTurned 128 = .ok (.iconst 1, 1) := by decide +kernel
theorem dX6_takeTurned_129 : decode cX6_takeTurned 129 = .ok (.isub, 1) := by decide +kernel
theorem dX6_takeTurned_130 : decode cX6_takeTurned 130 = .ok (.iload 5, 2) := by decide +kernel
theorem dX6_takeTurned_132 : decode cX6_takeTurned 132 = .ok (.isub, 1) := by decide +kernel
theorem dX6_takeTurned_133 : decode cX6_takeTurned 133 = .ok (.iload 7, 2) := by decide +kernel
theorem dX6_takeTurned_135 : decode cX6_takeTurned 135 = .ok (.invokevirtual 35, 3) := by decide +kernel
theorem dX6_takeTurned_138 : decode cX6_takeTurned 138 = .ok (.pop, 1) := by decide +kernel
theorem dX6_takeTurned_139 : decode cX6_takeTurned 139 = .ok (.goto 32, 3) := by decide +kernel
theorem dX6_takeTurned_142 : decode cX6_takeTurned 142 = .ok (.aload_n 0, 1) := by decide +kernel
theorem dX6_takeTurned_143 : decode cX6_takeTurned 143 = .ok (.iload 5, 2) := by decide +kernel
theorem dX6_takeTurned_145 : decode cX6_takeTurned 145 = .ok (.iload_n 3, 1) := by decide +kernel
theorem dX6_takeTurned_146 : decode cX6_takeTurned 146 = .ok (.iconst 1, 1) := by decide +kernel
theorem dX6_takeTurned_147 : decode cX6_takeTurned 147 = .ok (.isub, 1) := by decide +kernel
theorem dX6_takeTurned_148 : decode cX6_takeTurned 148 = .ok (.iload 6, 2) := by decide +kernel
theorem dX6_takeTurned_150 : decode cX6_takeTurned 150 = .ok (.isub, 1) := by decide +kernel
theorem dX6_takeTurned_151 : decode cX6_takeTurned 151 = .ok (.iload 7, 2) := by decide +kernel
theorem dX6_takeTurned_153 : decode cX6_takeTurned 153 = .ok (.invokevirtual 35, 3) := by decide +kernel
theorem dX6_takeTurned_156 : decode cX6_takeTurned 156 = .ok (.pop, 1) := by decide +kernel
theorem dX6_takeTurned_157 : decode cX6_takeTurned 157 = .ok (.goto 14, 3) := by decide +kernel
theorem dX6_takeTurned_160 : decode cX6_takeTurned 160 = .ok (.aload_n 0, 1) := by decide +kernel
theorem dX6_takeTurned_161 : decode cX6_takeTurned 161 = .ok (.iload 6, 2) := by decide +kernel
theorem dX6_takeTurned_163 : decode cX6_takeTurned 163 = .ok (.iload 5, 2) := by decide +kernel
theorem dX6_takeTurned_165 : decode cX6_takeTurned 165 = .ok (.iload 7, 2) := by decide +kernel
theorem dX6_takeTurned_167 : decode cX6_takeTurned 167 = .ok (.invokevirtual 35, 3) := by decide +kernel
theorem dX6_takeTurned_170 : decode cX6_takeTurned 170 = .ok (.pop, 1) := by decide +kernel
theorem dX6_takeTurned_171 : decode cX6_takeTurned 171 = .ok (.iinc 6 1, 3) := by decide +kernel
theorem dX6_takeTurned_174 : decode cX6_takeTurned 174 = .ok (.goto (-118), 3) := by decide +kernel
theorem dX6_takeTurned_177 : decode cX6_takeTurned 177 = .ok (.iinc 5 1, 3) := by decide +kernel
theorem dX6_takeTurned_180 : decode cX6_takeTurned 180 = .ok (.goto (-134), 3) := by decide +kernel
theorem dX6_takeTurned_183 : decode cX6_takeTurned 183 = .ok (.return_, 1) := by decide +kernel
def mX6_takeTurned : MM := (yX6_takeTurned, cX6_takeTurned, 8, none, { frames := 2, cells := 0, slots := 0, locals := 47 })
def X6_takeTurned_L56 (o0_ : Nat) (o1_ : Nat) (u2_ : Int32) (u3_ : Int32) (u4_ : Int32) (u5_ : Int32) (k177 : SS → Option SS) : Nat → Int32 → SS → Option SS :=
  lp (fun _ _ => none) fun rec v6_ σ_ =>
    if u3_ ≤ v6_ then (
      k177 σ_
      ) else (
      bnd1 (fX6_at σ_ o1_ v6_ u5_) fun v7 =>
      if u2_ = (1 : Int32) then (
        bnd (fX6_put σ_ o0_ ((u4_ - (1 : Int32)) - u5_) v6_ v7) fun b11 σ13 =>
        rec (v6_ + (1 : Int32)) σ13
        ) else
      if u2_ = (2 : Int32) then (
        bnd (fX6_put σ_ o0_ ((u3_ - (1 : Int32)) - v6_) ((u4_ - (1 : Int32)) - u5_) v7) fun b15 σ17 =>
        rec (v6_ + (1 : Int32)) σ17
        ) else
      if u2_ = (3 : Int32) then (
        bnd (fX6_put σ_ o0_ u5_ ((u3_ - (1 : Int32)) - v6_) v7) fun b19 σ21 =>
        rec (v6_ + (1 : Int32)) σ21
        ) else
      bnd (fX6_put σ_ o0_ v6_ u5_ v7) fun b23 σ25 =>
      rec (v6_ + (1 : Int32)) σ25
      )

def X6_takeTurned_L46 (o0_ : Nat) (o1_ : Nat) (u2_ : Int32) (u3_ : Int32) (u4_ : Int32)  : Nat → Int32 → SS → Option SS :=
  lp (fun _ _ => none) fun rec v5_ σ_ =>
    if u4_ ≤ v5_ then (
      some σ_
      ) else (
      X6_takeTurned_L56 o0_ o1_ u2_ u3_ u4_ v5_
      (fun σ26 =>
        rec (v5_ + (1 : Int32)) σ26
        )
      fuel (0 : Int32) σ_
      )

def fX6_takeTurned (σ : SS) (a0 : Nat) (a1 : Nat) (a2 : Int32) : Option SS :=
  vthen (gI σ a1 0) fun v1 =>
  vthen (gI σ a1 1) fun v2 =>
  vthen (fun (s3 : Int32) =>
    vthen (sI σ a0 0 s3) fun σ4 =>
    vthen (fun (s5 : Int32) =>
      vthen (sI σ4 a0 1 s5) fun σ6 =>
      X6_takeTurned_L46 a0 a1 a2 v1 v2
      fuel (0 : Int32) σ6
      ) fun j40 =>
    if (irm a2 (2 : Int32)) = 0 then (
      j40 v2
      ) else (
      j40 v1
      )
    ) fun j24 =>
  if (irm a2 (2 : Int32)) = 0 then (
    j24 v1
    ) else (
    j24 v2
    )

set_option maxRecDepth 20000 in
theorem sX6_takeTurned_L56 {g : GG} {r : SS} {o0_ : Nat} {o1_ : Nat} {u2_ : Int32} {u3_ : Int32} {u4_ : Int32} {u5_ : Int32} {k177 : SS → Option SS} (hs0_ : shp o0_ = (6, 0)) (hs1_ : shp o1_ = (6, 0))
    (hk177 : ∀ (σ_ : SS), k177 σ_ = some r → WT σ_ → RR g mX6_takeTurned (FinR g mX6_takeTurned none NF r) zF 177 [(0, .ref (ad g o0_)), (1, .ref (ad g o1_)), (2, .int u2_), (3, .int u3_), (4, .int u4_), (5, .int u5_)] [] σ_)
    (n : Nat) : ∀ (v6_ : Int32) (σ_ : SS), X6_takeTurned_L56 o0_ o1_ u2_ u3_ u4_ u5_ k177 n v6_ σ_ = some r → WT σ_ → RR g mX6_takeTurned (FinR g mX6_takeTurned none NF r) zF 56 [(0, .ref (ad g o0_)), (1, .ref (ad g o1_)), (2, .int u2_), (3, .int u3_), (4, .int u4_), (5, .int u5_), (6, .int v6_)] [] σ_ := by
  unfold X6_takeTurned_L56
  refine lp_ind (P := fun (rec : Int32 → SS → Option SS) => ∀ (v6_ : Int32) (σ_ : SS), rec v6_ σ_ = some r → WT σ_ → RR g mX6_takeTurned (FinR g mX6_takeTurned none NF r) zF 56 [(0, .ref (ad g o0_)), (1, .ref (ad g o1_)), (2, .int u2_), (3, .int u3_), (4, .int u4_), (5, .int u5_), (6, .int v6_)] [] σ_) ?_ ?_ n
  · intro v6_ σ_ hr; cases hr
  intro rec ih v6_ σ_ hr hw_
  refine r_iload (pc := 56) (j := 6) dX6_takeTurned_56 rfl ?_
  refine r_iload_n (pc := 58) (j := 3) dX6_takeTurned_58 rfl rfl ?_
  refine r_icmp_ge (pc := 59) (tgt := 177) dX6_takeTurned_59 rfl (fun hc => ?_) (fun hc => ?_)
  · replace hr := ite_t hc hr
    exact r_pick (ls1 := [(0, .ref (ad g o0_)), (1, .ref (ad g o1_)), (2, .int u2_), (3, .int u3_), (4, .int u4_), (5, .int u5_)]) [0, 1, 2, 3, 4, 5] rfl (hk177 σ_ hr hw_)
  replace hr := ite_f hc hr
  refine r_aload_n (pc := 62) (j := 1) dX6_takeTurned_62 rfl rfl ?_
  refine r_iload (pc := 63) (j := 6) dX6_takeTurned_63 rfl ?_
  refine r_iload (pc := 65) (j := 5) dX6_takeTurned_65 rfl ?_
  obtain ⟨v7, hv7, hr⟩ := bnd1_inv hr
  refine kX6_at (pc := 67) hv7 hs1_ tw_3_161 ⟨nle rfl, nle rfl⟩ (nle rfl) dX6_takeTurned_67 ?_
  refine r_istore (pc := 70) (ls1 := [(7, .int v7), (0, .ref (ad g o0_)), (1, .ref (ad g o1_)), (2, .int u2_), (3, .int u3_), (4, .int u4_), (5, .int u5_), (6, .int v6_)]) dX6_takeTurned_70 (nle rfl) rfl ?_
  refine r_iload_n (pc := 72) (j := 3) dX6_takeTurned_72 rfl rfl ?_
  by_cases hc0 : u2_ = (1 : Int32)
  · replace hr := ite_t hc0 hr
    refine r_tabIn (pc := 73) (off := 27) (tgt := 100) dX6_takeTurned_73 (by rw [hc0]; decide) (by rw [hc0]; decide) (by rw [hc0]; rfl) rfl ?_
    refine r_aload_n (pc := 100) (j := 1) dX6_takeTurned_100 rfl rfl ?_
    refine r_iload (pc := 101) (j := 5) dX6_takeTurned_101 rfl ?_
    refine r_iconst (pc := 103) (v := (1 : Int32)) dX6_takeTurned_103 rfl ?_
    refine r_isub (pc := 104) dX6_takeTurned_104 ?_
    refine r_iload (pc := 105) (j := 6) dX6_takeTurned_105 rfl ?_
    refine r_isub (pc := 107) dX6_takeTurned_107 ?_
    refine r_iload (pc := 108) (j := 7) dX6_takeTurned_108 rfl ?_
    refine r_iload (pc := 110) (j := 0) dX6_takeTurned_110 rfl ?_
    obtain ⟨b11, σ13, eσ13, hr⟩ := bnd_inv hr
    refine kX6_put (pc := 112) eσ13 hs0_ tw_3_162 ⟨nle rfl, nle rfl⟩ (nle rfl) dX6_takeTurned_112 fun hσ13 => ?_
    refine r_pop (pc := 115) dX6_takeTurned_115 rfl ?_
    refine r_goto (pc := 116) (tgt := 171) dX6_takeTurned_116 rfl ?_
    refine r_iinc (pc := 171) (j := 7) (v := (v6_ + (1 : Int32))) (ls1 := [(6, .int (v6_ + (1 : Int32))), (7, .int v7), (0, .ref (ad g o0_)), (1, .ref (ad g o1_)), (2, .int u2_), (3, .int u3_), (4, .int u4_), (5, .int u5_)]) dX6_takeTurned_171 rfl rfl (nle rfl) rfl ?_
    refine r_goto (pc := 174) (tgt := 56) dX6_takeTurned_174 rfl ?_
    exact r_pick (ls1 := [(0, .ref (ad g o0_)), (1, .ref (ad g o1_)), (2, .int u2_), (3, .int u3_), (4, .int u4_), (5, .int u5_), (6, .int (v6_ + (1 : Int32)))]) [2, 3, 4, 5, 6, 7, 0] rfl (ih (v6_ + (1 : Int32)) σ13 hr hσ13)
  replace hr := ite_f hc0 hr
  by_cases hc1 : u2_ = (2 : Int32)
  · replace hr := ite_t hc1 hr
    refine r_tabIn (pc := 73) (off := 46) (tgt := 119) dX6_takeTurned_73 (by rw [hc1]; decide) (by rw [hc1]; decide) (by rw [hc1]; rfl) rfl ?_
    refine r_aload_n (pc := 119) (j := 1) dX6_takeTurned_119 rfl rfl ?_
    refine r_iload_n (pc := 120) (j := 4) dX6_takeTurned_120 rfl rfl ?_
    refine r_iconst (pc := 121) (v := (1 : Int32)) dX6_takeTurned_121 rfl ?_
    refine r_isub (pc := 122) dX6_takeTurned_122 ?_
    refine r_iload (pc := 123) (j := 7) dX6_takeTurned_123 rfl ?_
    refine r_isub (pc := 125) dX6_takeTurned_125 ?_
    refine r_iload (pc := 126) (j := 5) dX6_takeTurned_126 rfl ?_
    refine r_iconst (pc := 128) (v := (1 : Int32)) dX6_takeTurned_128 rfl ?_
    refine r_isub (pc := 129) dX6_takeTurned_129 ?_
    refine r_iload (pc := 130) (j := 6) dX6_takeTurned_130 rfl ?_
    refine r_isub (pc := 132) dX6_takeTurned_132 ?_
    refine r_iload (pc := 133) (j := 0) dX6_takeTurned_133 rfl ?_
    obtain ⟨b15, σ17, eσ17, hr⟩ := bnd_inv hr
    refine kX6_put (pc := 135) eσ17 hs0_ tw_3_162 ⟨nle rfl, nle rfl⟩ (nle rfl) dX6_takeTurned_135 fun hσ17 => ?_
    refine r_pop (pc := 138) dX6_takeTurned_138 rfl ?_
    refine r_goto (pc := 139) (tgt := 171) dX6_takeTurned_139 rfl ?_
    refine r_iinc (pc := 171) (j := 7) (v := (v6_ + (1 : Int32))) (ls1 := [(6, .int (v6_ + (1 : Int32))), (7, .int v7), (0, .ref (ad g o0_)), (1, .ref (ad g o1_)), (2, .int u2_), (3, .int u3_), (4, .int u4_), (5, .int u5_)]) dX6_takeTurned_171 rfl rfl (nle rfl) rfl ?_
    refine r_goto (pc := 174) (tgt := 56) dX6_takeTurned_174 rfl ?_
    exact r_pick (ls1 := [(0, .ref (ad g o0_)), (1, .ref (ad g o1_)), (2, .int u2_), (3, .int u3_), (4, .int u4_), (5, .int u5_), (6, .int (v6_ + (1 : Int32)))]) [2, 3, 4, 5, 6, 7, 0] rfl (ih (v6_ + (1 : Int32)) σ17 hr hσ17)
  replace hr := ite_f hc1 hr
  by_cases hc2 : u2_ = (3 : Int32)
  · replace hr := ite_t hc2 hr
    refine r_tabIn (pc := 73) (off := 69) (tgt := 142) dX6_takeTurned_73 (by rw [hc2]; decide) (by rw [hc2]; decide) (by rw [hc2]; rfl) rfl ?_
    refine r_aload_n (pc := 142) (j := 1) dX6_takeTurned_142 rfl rfl ?_
    refine r_iload (pc := 143) (j := 6) dX6_takeTurned_143 rfl ?_
    refine r_iload_n (pc := 145) (j := 4) dX6_takeTurned_145 rfl rfl ?_
    refine r_iconst (pc := 146) (v := (1 : Int32)) dX6_takeTurned_146 rfl ?_
    refine r_isub (pc := 147) dX6_takeTurned_147 ?_
    refine r_iload (pc := 148) (j := 7) dX6_takeTurned_148 rfl ?_
    refine r_isub (pc := 150) dX6_takeTurned_150 ?_
    refine r_iload (pc := 151) (j := 0) dX6_takeTurned_151 rfl ?_
    obtain ⟨b19, σ21, eσ21, hr⟩ := bnd_inv hr
    refine kX6_put (pc := 153) eσ21 hs0_ tw_3_162 ⟨nle rfl, nle rfl⟩ (nle rfl) dX6_takeTurned_153 fun hσ21 => ?_
    refine r_pop (pc := 156) dX6_takeTurned_156 rfl ?_
    refine r_goto (pc := 157) (tgt := 171) dX6_takeTurned_157 rfl ?_
    refine r_iinc (pc := 171) (j := 7) (v := (v6_ + (1 : Int32))) (ls1 := [(6, .int (v6_ + (1 : Int32))), (7, .int v7), (0, .ref (ad g o0_)), (1, .ref (ad g o1_)), (2, .int u2_), (3, .int u3_), (4, .int u4_), (5, .int u5_)]) dX6_takeTurned_171 rfl rfl (nle rfl) rfl ?_
    refine r_goto (pc := 174) (tgt := 56) dX6_takeTurned_174 rfl ?_
    exact r_pick (ls1 := [(0, .ref (ad g o0_)), (1, .ref (ad g o1_)), (2, .int u2_), (3, .int u3_), (4, .int u4_), (5, .int u5_), (6, .int (v6_ + (1 : Int32)))]) [2, 3, 4, 5, 6, 7, 0] rfl (ih (v6_ + (1 : Int32)) σ21 hr hσ21)
  replace hr := ite_f hc2 hr
  refine r_tabOut (pc := 73) (tgt := 160) dX6_takeTurned_73 (tab_out (by decide) (by decide) fun k h1 h2 => ?_) rfl ?_
  · rcases (show k = 1 ∨ k = 2 ∨ k = 3 by omega) with rfl | rfl | rfl
    · exact hc0
    · exact hc1
    · exact hc2
  refine r_aload_n (pc := 160) (j := 1) dX6_takeTurned_160 rfl rfl ?_
  refine r_iload (pc := 161) (j := 7) dX6_takeTurned_161 rfl ?_
  refine r_iload (pc := 163) (j := 6) dX6_takeTurned_163 rfl ?_
  refine r_iload (pc := 165) (j := 0) dX6_takeTurned_165 rfl ?_
  obtain ⟨b23, σ25, eσ25, hr⟩ := bnd_inv hr
  refine kX6_put (pc := 167) eσ25 hs0_ tw_3_162 ⟨nle rfl, nle rfl⟩ (nle rfl) dX6_takeTurned_167 fun hσ25 => ?_
  refine r_pop (pc := 170) dX6_takeTurned_170 rfl ?_
  refine r_iinc (pc := 171) (j := 7) (v := (v6_ + (1 : Int32))) (ls1 := [(6, .int (v6_ + (1 : Int32))), (7, .int v7), (0, .ref (ad g o0_)), (1, .ref (ad g o1_)), (2, .int u2_), (3, .int u3_), (4, .int u4_), (5, .int u5_)]) dX6_takeTurned_171 rfl rfl (nle rfl) rfl ?_
  refine r_goto (pc := 174) (tgt := 56) dX6_takeTurned_174 rfl ?_
  exact r_pick (ls1 := [(0, .ref (ad g o0_)), (1, .ref (ad g o1_)), (2, .int u2_), (3, .int u3_), (4, .int u4_), (5, .int u5_), (6, .int (v6_ + (1 : Int32)))]) [2, 3, 4, 5, 6, 7, 0] rfl (ih (v6_ + (1 : Int32)) σ25 hr hσ25)

set_option maxRecDepth 20000 in
theorem sX6_takeTurned_L46 {g : GG} {r : SS} {o0_ : Nat} {o1_ : Nat} {u2_ : Int32} {u3_ : Int32} {u4_ : Int32}  (hs0_ : shp o0_ = (6, 0)) (hs1_ : shp o1_ = (6, 0))
    (n : Nat) : ∀ (v5_ : Int32) (σ_ : SS), X6_takeTurned_L46 o0_ o1_ u2_ u3_ u4_ n v5_ σ_ = some r → WT σ_ → RR g mX6_takeTurned (FinR g mX6_takeTurned none NF r) zF 46 [(0, .ref (ad g o0_)), (1, .ref (ad g o1_)), (2, .int u2_), (3, .int u3_), (4, .int u4_), (5, .int v5_)] [] σ_ := by
  unfold X6_takeTurned_L46
  refine lp_ind (P := fun (rec : Int32 → SS → Option SS) => ∀ (v5_ : Int32) (σ_ : SS), rec v5_ σ_ = some r → WT σ_ → RR g mX6_takeTurned (FinR g mX6_takeTurned none NF r) zF 46 [(0, .ref (ad g o0_)), (1, .ref (ad g o1_)), (2, .int u2_), (3, .int u3_), (4, .int u4_), (5, .int v5_)] [] σ_) ?_ ?_ n
  · intro v5_ σ_ hr; cases hr
  intro rec ih v5_ σ_ hr hw_
  refine r_iload (pc := 46) (j := 5) dX6_takeTurned_46 rfl ?_
  refine r_iload (pc := 48) (j := 4) dX6_takeTurned_48 rfl ?_
  refine r_icmp_ge (pc := 50) (tgt := 183) dX6_takeTurned_50 rfl (fun hc => ?_) (fun hc => ?_)
  · replace hr := ite_t hc hr
    exact l_ov hr (r_vret (pc := 183) rfl rfl ⟨Nat.le_refl _, Nat.le_refl _⟩ dX6_takeTurned_183)
  replace hr := ite_f hc hr
  refine r_iconst (pc := 53) (v := (0 : Int32)) dX6_takeTurned_53 rfl ?_
  refine r_istore (pc := 54) (ls1 := [(6, .int (0 : Int32)), (0, .ref (ad g o0_)), (1, .ref (ad g o1_)), (2, .int u2_), (3, .int u3_), (4, .int u4_), (5, .int v5_)]) dX6_takeTurned_54 (nle rfl) rfl ?_
  refine r_pick (ls1 := [(0, .ref (ad g o0_)), (1, .ref (ad g o1_)), (2, .int u2_), (3, .int u3_), (4, .int u4_), (5, .int v5_), (6, .int (0 : Int32))]) [1, 2, 3, 4, 5, 6, 0] rfl ?_
  refine sX6_takeTurned_L56 hs0_ hs1_   (fun σ26 hr hσ26 => ?_) fuel (0 : Int32) σ_ hr hw_
  refine r_iinc (pc := 177) (j := 5) (v := (v5_ + (1 : Int32))) (ls1 := [(5, .int (v5_ + (1 : Int32))), (0, .ref (ad g o0_)), (1, .ref (ad g o1_)), (2, .int u2_), (3, .int u3_), (4, .int u4_)]) dX6_takeTurned_177 rfl rfl (nle rfl) rfl ?_
  refine r_goto (pc := 180) (tgt := 46) dX6_takeTurned_180 rfl ?_
  exact r_pick (ls1 := [(0, .ref (ad g o0_)), (1, .ref (ad g o1_)), (2, .int u2_), (3, .int u3_), (4, .int u4_), (5, .int (v5_ + (1 : Int32)))]) [1, 2, 3, 4, 5, 0] rfl (ih (v5_ + (1 : Int32)) σ26 hr hσ26)

set_option maxRecDepth 20000 in
theorem sX6_takeTurned {g : GG} {σ : SS} {a0 : Nat} {a1 : Nat} {a2 : Int32} {r : SS} (hr : fX6_takeTurned σ a0 a1 a2 = some r) (hs0 : shp a0 = (6, 0)) (hs1 : shp a1 = (6, 0)) : Ct g mX6_takeTurned [.ref (ad g a0), .ref (ad g a1), .int a2] NF σ none NF r := by
  refine Ct.of (by decide +kernel) (nle rfl) fun hw0 => ?_
  have hw := hw0 rfl
  unfold fX6_takeTurned at hr
  change RR g mX6_takeTurned (FinR g mX6_takeTurned none NF r) zF 0 [(0, .ref (ad g a0)), (1, .ref (ad g a1)), (2, .int a2)] [] σ
  refine r_aload_n (pc := 0) (j := 1) dX6_takeTurned_0 rfl rfl ?_
  refine gf6_0 (pc := 1) tw_1_32 hs1 dX6_takeTurned_1 ?_
  refine r_topi fun v1 ev1 => ?_
  replace hr := vthen_inv hr v1 ev1
  refine r_istore_n (pc := 4) (ls1 := [(3, .int v1), (0, .ref (ad g a0)), (1, .ref (ad g a1)), (2, .int a2)]) dX6_takeTurned_4 rfl (nle rfl) rfl ?_
  refine r_aload_n (pc := 5) (j := 2) dX6_takeTurned_5 rfl rfl ?_
  refine gf6_1 (pc := 6) tw_1_37 hs1 dX6_takeTurned_6 ?_
  refine r_topi fun v2 ev2 => ?_
  replace hr := vthen_inv hr v2 ev2
  refine r_istore (pc := 9) (ls1 := [(4, .int v2), (3, .int v1), (0, .ref (ad g a0)), (1, .ref (ad g a1)), (2, .int a2)]) dX6_takeTurned_9 (nle rfl) rfl ?_
  refine r_aload_n (pc := 11) (j := 2) dX6_takeTurned_11 rfl rfl ?_
  refine r_iload_n (pc := 12) (j := 4) dX6_takeTurned_12 rfl rfl ?_
  refine r_iconst (pc := 13) (v := (2 : Int32)) dX6_takeTurned_13 rfl ?_
  refine r_irem (pc := 14) dX6_takeTurned_14 (by decide) ?_
  obtain ⟨j24, ej24, hr⟩ := vth_ex hr
  have hj24 : ∀ (s3 : Int32), j24 s3 = some r → RR g mX6_takeTurned (FinR g mX6_takeTurned none NF r) zF 24 [(0, .ref (ad g a0)), (1, .ref (ad g a1)), (2, .int a2), (3, .int v1), (4, .int v2)] [.int s3, .ref (ad g a0)] σ := by
    intro s3 hr
    replace hr := (congrFun ej24 s3).symm.trans hr
    refine pf6_0 (pc := 24) tw_1_32 hs0 dX6_takeTurned_24 fun σ4 eσ4 => ?_
    replace hr := vthen_inv hr σ4 eσ4
    have hσ4 := wtI eσ4 hw
    refine r_aload_n (pc := 27) (j := 0) dX6_takeTurned_27 rfl rfl ?_
    refine r_iload_n (pc := 28) (j := 2) dX6_takeTurned_28 rfl rfl ?_
    refine r_iconst (pc := 29) (v := (2 : Int32)) dX6_takeTurned_29 rfl ?_
    refine r_irem (pc := 30) dX6_takeTurned_30 (by decide) ?_
    obtain ⟨j40, ej40, hr⟩ := vth_ex hr
    have hj40 : ∀ (s5 : Int32), j40 s5 = some r → RR g mX6_takeTurned (FinR g mX6_takeTurned none NF r) zF 40 [(0, .ref (ad g a0)), (1, .ref (ad g a1)), (2, .int a2), (3, .int v1), (4, .int v2)] [.int s5, .ref (ad g a0)] σ4 := by
      intro s5 hr
      replace hr := (congrFun ej40 s5).symm.trans hr
      refine pf6_1 (pc := 40) tw_1_37 hs0 dX6_takeTurned_40 fun σ6 eσ6 => ?_
      replace hr := vthen_inv hr σ6 eσ6
      have hσ6 := wtI eσ6 hσ4
      refine r_iconst (pc := 43) (v := (0 : Int32)) dX6_takeTurned_43 rfl ?_
      refine r_istore (pc := 44) (ls1 := [(5, .int (0 : Int32)), (0, .ref (ad g a0)), (1, .ref (ad g a1)), (2, .int a2), (3, .int v1), (4, .int v2)]) dX6_takeTurned_44 (nle rfl) rfl ?_
      refine r_pick (ls1 := [(0, .ref (ad g a0)), (1, .ref (ad g a1)), (2, .int a2), (3, .int v1), (4, .int v2), (5, .int (0 : Int32))]) [1, 2, 3, 4, 5, 0] rfl ?_
      refine sX6_takeTurned_L46 hs0 hs1    fuel (0 : Int32) σ6 hr hσ6
    refine r_if_ne (pc := 31) (tgt := 39) dX6_takeTurned_31 rfl (fun hc => ?_) (fun hc => ?_)
    · replace hr := ite_f hc hr
      refine r_iload_n (pc := 39) (j := 3) dX6_takeTurned_39 rfl rfl ?_
      exact r_pick (ls1 := [(0, .ref (ad g a0)), (1, .ref (ad g a1)), (2, .int a2), (3, .int v1), (4, .int v2)]) [0, 1, 2, 3, 4] rfl (hj40 v1 hr)
    replace hr := ite_t hc hr
    refine r_iload (pc := 34) (j := 4) dX6_takeTurned_34 rfl ?_
    refine r_goto (pc := 36) (tgt := 40) dX6_takeTurned_36 rfl ?_
    exact r_pick (ls1 := [(0, .ref (ad g a0)), (1, .ref (ad g a1)), (2, .int a2), (3, .int v1), (4, .int v2)]) [0, 1, 2, 3, 4] rfl (hj40 v2 hr)
  refine r_if_ne (pc := 15) (tgt := 22) dX6_takeTurned_15 rfl (fun hc => ?_) (fun hc => ?_)
  · replace hr := ite_f hc hr
    refine r_iload (pc := 22) (j := 0) dX6_takeTurned_22 rfl ?_
    exact r_pick (ls1 := [(0, .ref (ad g a0)), (1, .ref (ad g a1)), (2, .int a2), (3, .int v1), (4, .int v2)]) [2, 3, 4, 1, 0] rfl (hj24 v2 hr)
  replace hr := ite_t hc hr
  refine r_iload_n (pc := 18) (j := 1) dX6_takeTurned_18 rfl rfl ?_
  refine r_goto (pc := 19) (tgt := 24) dX6_takeTurned_19 rfl ?_
  exact r_pick (ls1 := [(0, .ref (ad g a0)), (1, .ref (ad g a1)), (2, .int a2), (3, .int v1), (4, .int v2)]) [2, 3, 4, 1, 0] rfl (hj24 v1 hr)

theorem kX6_takeTurned {g : GG} {σ : SS} {a0 : Nat} {a1 : Nat} {a2 : Int32} {σ2 : SS} {M : MM} {F : State → Array Value → List Frame → State → Prop} {pc index : Nat} {ls : List (Nat × Value)} {rest : List Value} (hf : fX6_takeTurned σ a0 a1 a2 = some σ2) (hs0 : shp a0 = (6, 0)) (hs1 : shp a1 = (6, 0)) (hl : Cond.methodLink M.1.cls index yX6_takeTurned ∈ lw_gt) (hR : mX6_takeTurned.2.2.2.2.frames + 1 ≤ M.2.2.2.2.frames ∧ 8 + (mX6_takeTurned.2.2.1 + 11) + mX6_takeTurned.2.2.2.2.locals ≤ M.2.2.2.2.locals) (hrest : (rest.map fun v => v.category).sum ≤ 8) (hd : decode M.2.1 pc = .ok (.invokevirtual index, 3)) (k : WT σ2 → RR g M F zF (pc + 3) ls rest σ2) : RR g M F zF pc ls (.int a2 :: .ref (ad g a1) :: .ref (ad g a0) :: rest) σ :=
  r_callV (z := zF) (N := mX6_takeTurned) (nn := 2) (o1 := none) (sX6_takeTurned hf hs0 hs1) hs0 (by decide) (shp_le hs0 (nle rfl)) (ci := 6) rfl rfl tw_3_160 tw_1_2 hl tw_3_158 tw_3_159 ⟨by decide, by decide, rfl⟩ hR rfl hrest hd ⟨Nat.zero_le _, Nat.zero_le _⟩ rfl (fun h => k (h rfl))

theorem dX7_swapScans_0 : decode cX7_swapScans 0 = .ok (.aload_n 0, 1) := by decide +kernel
theorem dX7_swapScans_1 : decode cX7_swapScans 1 = .ok (.getfield 18, 3) := by decide +kernel
theorem dX7_swapScans_4 : decode cX7_swapScans 4 = .ok (.astore_n 1, 1) := by decide +kernel
theorem dX7_swapScans_5 : decode cX7_swapScans 5 = .ok (.aload_n 0, 1) := by decide +kernel
theorem dX7_swapScans_6 : decode cX7_swapScans 6 = .ok (.aload_n 0, 1) := by decide +kernel
theorem dX7_swapScans_7 : decode cX7_swapScans 7 = .ok (.getfield 22, 3) := by decide +kernel
theorem dX7_swapScans_10 : decode cX7_swapScans 10 = .ok (.putfield 18, 3) := by decide +kernel
theorem dX7_swapScans_13 : decode cX7_swapScans 13 = .ok (.aload_n 0, 1) := by decide +kernel
theorem dX7_swapScans_14 : decode cX7_swapScans 14 = .ok (.aload_n 1, 1) := by decide +kernel
theorem dX7_swapScans_15 : decode cX7_swapScans 15 = .ok (.putfield 22, 3) := by decide +kernel
theorem dX7_swapScans_18 : decode cX7_swapScans 18 = .ok (.return_, 1) := by decide +kernel
def mX7_swapScans : MM := (yX7_swapScans, cX7_swapScans, 2, none, { frames := 0, cells := 0, slots := 0, locals := 0 })
def fX7_swapScans (σ : SS)  : Option SS :=
  vthen (sR σ 1 2 (gR σ 1 3)) fun σ1 =>
  vthen (sR σ1 1 3 (gR σ 1 2)) fun σ2 =>
  some σ2

set_option maxRecDepth 20000 in
theorem sX7_swapScans {g : GG} {σ : SS}  {r : SS} (hr : fX7_swapScans σ = some r)  : Ct g mX7_swapScans [.ref (ad g 1)] NF σ none NF r := by
  refine Ct.of (by decide +kernel) (nle rfl) fun hw0 => ?_
  have hw := hw0 rfl
  unfold fX7_swapScans at hr
  change RR g mX7_swapScans (FinR g mX7_swapScans none NF r) zF 0 [(0, .ref (ad g 1))] [] σ
  refine r_aload_n (pc := 0) (j := 0) dX7_swapScans_0 rfl rfl ?_
  refine gf7_2 (pc := 1) tw_2_111 hw dX7_swapScans_1 ?_
  refine r_astore_n (pc := 4) (ls1 := [(1, .ref (ad g (gR σ 1 2))), (0, .ref (ad g 1))]) dX7_swapScans_4 rfl (nle rfl) rfl ?_
  refine r_aload_n (pc := 5) (j := 1) dX7_swapScans_5 rfl rfl ?_
  refine r_aload_n (pc := 6) (j := 1) dX7_swapScans_6 rfl rfl ?_
  refine gf7_3 (pc := 7) tw_2_112 hw dX7_swapScans_7 ?_
  refine pr7_2 (pc := 10) (wq_sp hw) tw_2_111 dX7_swapScans_10 fun σ1 eσ1 => ?_
  replace hr := vthen_inv hr σ1 eσ1
  have hσ1 := wtR eσ1 hw (Or.inl ⟨rfl, (wq_sp hw)⟩)
  refine r_aload_n (pc := 13) (j := 1) dX7_swapScans_13 rfl rfl ?_
  refine r_aload_n (pc := 14) (j := 0) dX7_swapScans_14 rfl rfl ?_
  refine pr7_3 (pc := 15) (wq_sc hw) tw_2_112 dX7_swapScans_15 fun σ2 eσ2 => ?_
  replace hr := vthen_inv hr σ2 eσ2
  have hσ2 := wtR eσ2 hσ1 (Or.inr (Or.inl ⟨rfl, (wq_sc hw)⟩))
  exact l_ov hr (r_vret (pc := 18) rfl rfl ⟨Nat.le_refl _, Nat.le_refl _⟩ dX7_swapScans_18)

theorem kX7_swapScans {g : GG} {σ : SS}  {σ2 : SS} {M : MM} {F : State → Array Value → List Frame → State → Prop} {pc index : Nat} {ls : List (Nat × Value)} {rest : List Value} (hf : fX7_swapScans σ = some σ2)  (hl : Cond.methodLink M.1.cls index yX7_swapScans ∈ lw_gt) (hR : mX7_swapScans.2.2.2.2.frames + 1 ≤ M.2.2.2.2.frames ∧ 8 + (mX7_swapScans.2.2.1 + 11) + mX7_swapScans.2.2.2.2.locals ≤ M.2.2.2.2.locals) (hrest : (rest.map fun v => v.category).sum ≤ 8) (hd : decode M.2.1 pc = .ok (.invokevirtual index, 3)) (k : WT σ2 → RR g M F zF (pc + 3) ls rest σ2) : RR g M F zF pc ls (.ref (ad g 1) :: rest) σ :=
  r_callV (z := zF) (N := mX7_swapScans) (nn := 0) (o1 := none) (sX7_swapScans hf ) (rfl : shp 1 = (7, 0)) (by decide) (shp_le (rfl : shp 1 = (7, 0)) (nle rfl)) (ci := 7) rfl rfl tw_3_166 tw_1_1 hl tw_3_165 tp_17 ⟨by decide, by decide, rfl⟩ hR rfl hrest hd ⟨Nat.zero_le _, Nat.zero_le _⟩ rfl (fun h => k (h rfl))

theorem dX7_turn_0 : decode cX7_turn 0 = .ok (.iload_n 1, 1) := by decide +kernel
theorem dX7_turn_1 : decode cX7_turn 1 = .ok (.ifCond .lt 8, 3) := by decide +kernel
theorem dX7_turn_4 : decode cX7_turn 4 = .ok (.iload_n 1, 1) := by decide +kernel
theorem dX7_turn_5 : decode cX7_turn 5 = .ok (.iconst 3, 1) := by decide +kernel
theorem dX7_turn_6 : decode cX7_turn 6 = .ok (.if_icmp .le 5, 3) := by decide +kernel
theorem dX7_turn_9 : decode cX7_turn 9 = .ok (.iconst (-1), 1) := by decide +kernel
theorem dX7_turn_10 : decode cX7_turn 10 = .ok (.ireturn, 1) := by decide +kernel
theorem dX7_turn_11 : decode cX7_turn 11 = .ok (.aload_n 0, 1) := by decide +kernel
theorem dX7_turn_12 : decode cX7_turn 12 = .ok (.getfield 22, 3) := by decide +kernel
theorem dX7_turn_15 : decode cX7_turn 15 = .ok (.aload_n 0, 1) := by decide +kernel
theorem dX7_turn_16 : decode cX7_turn 16 = .ok (.getfield 18, 3) := by decide +kernel
theorem dX7_turn_19 : decode cX7_turn 19 = .ok (.iload_n 1, 1) := by decide +kernel
theorem dX7_turn_20 : decode cX7_turn 20 = .ok (.invokevirtual 183, 3) := by decide +kernel
theorem dX7_turn_23 : decode cX7_turn 23 = .ok (.aload_n 0, 1) := by decide +kernel
theorem dX7_turn_24 : decode cX7_turn 24 = .ok (.invokevirtual 187, 3) := by decide +kernel
theorem dX7_turn_27 : decode cX7_turn 27 = .ok (.aload_n 0, 1) := by decide +kernel
theorem dX7_turn_28 : decode cX7_turn 28 = .ok (.getfield 18, 3) := by decide +kernel
theorem dX7_turn_31 : decode cX7_turn 31 = .ok (.getfield 100, 3) := by decide +kernel
theorem dX7_turn_34 : decode cX7_turn 34 = .ok (.ireturn, 1) := by decide +kernel
def mX7_turn : MM := (yX7_turn, cX7_turn, 2, Option.some Jvm.ClassFile.FieldType.int, { frames := 3, cells := 0, slots := 0, locals := 74 })
def fX7_turn (σ : SS) (a1 : Int32) : Option (Int32 × SS) :=
  if a1 < 0 then (
    some ((-1 : Int32), σ)
    ) else (
    if a1 ≤ (3 : Int32) then (
      bnd1 (fX6_takeTurned σ (gR σ 1 3) (gR σ 1 2) a1) fun σ1 =>
      bnd1 (fX7_swapScans σ1) fun σ2 =>
      some ((gI σ2 (gR σ2 1 2) 0), σ2)
      ) else (
      some ((-1 : Int32), σ)
      )
    )

set_option maxRecDepth 20000 in
theorem sX7_turn {g : GG} {σ : SS} {a1 : Int32} {r : Int32 × SS} (hr : fX7_turn σ a1 = some r)  : Ct g mX7_turn [.ref (ad g 1), .int a1] NF σ (some (.int r.1)) NF r.2 := by
  refine Ct.of (by decide +kernel) (nle rfl) fun hw0 => ?_
  have hw := hw0 rfl
  unfold fX7_turn at hr
  change RR g mX7_turn (FinR g mX7_turn (some (.int r.1)) NF r.2) zF 0 [(0, .ref (ad g 1)), (1, .int a1)] [] σ
  refine r_iload_n (pc := 0) (j := 1) dX7_turn_0 rfl rfl ?_
  refine r_if_lt (pc := 1) (tgt := 9) dX7_turn_1 rfl (fun hc => ?_) (fun hc => ?_)
  · replace hr := ite_t hc hr
    refine r_iconst (pc := 9) (v := (-1 : Int32)) dX7_turn_9 rfl ?_
    exact l_osi hr (r_iret (pc := 10) (v := (-1 : Int32)) rfl rfl ⟨Nat.le_refl _, Nat.le_refl _⟩ dX7_turn_10)
  replace hr := ite_f hc hr
  refine r_iload_n (pc := 4) (j := 1) dX7_turn_4 rfl rfl ?_
  refine r_iconst (pc := 5) (v := (3 : Int32)) dX7_turn_5 rfl ?_
  refine r_icmp_le (pc := 6) (tgt := 11) dX7_turn_6 rfl (fun hc => ?_) (fun hc => ?_)
  · replace hr := ite_t hc hr
    refine r_aload_n (pc := 11) (j := 0) dX7_turn_11 rfl rfl ?_
    refine gf7_3 (pc := 12) tw_2_112 hw dX7_turn_12 ?_
    refine r_aload_n (pc := 15) (j := 0) dX7_turn_15 rfl rfl ?_
    refine gf7_2 (pc := 16) tw_2_111 hw dX7_turn_16 ?_
    refine r_iload_n (pc := 19) (j := 1) dX7_turn_19 rfl rfl ?_
    obtain ⟨σ1, eσ1, hr⟩ := bnd1_inv hr
    refine kX6_takeTurned (pc := 20) eσ1 (wt_sp hw).1 (wt_sc hw).1 tw_3_157 ⟨nle rfl, nle rfl⟩ (nle rfl) dX7_turn_20 fun hσ1 => ?_
    refine r_aload_n (pc := 23) (j := 0) dX7_turn_23 rfl rfl ?_
    obtain ⟨σ2, eσ2, hr⟩ := bnd1_inv hr
    refine kX7_swapScans (pc := 24) eσ2 tw_3_163 ⟨nle rfl, nle rfl⟩ (nle rfl) dX7_turn_24 fun hσ2 => ?_
    refine r_aload_n (pc := 27) (j := 0) dX7_turn_27 rfl rfl ?_
    refine gf7_2 (pc := 28) tw_2_111 hσ2 dX7_turn_28 ?_
    refine gf6_0 (pc := 31) tw_1_35 (wt_sc hσ2).1 dX7_turn_31 ?_
    exact l_osi hr (r_iret (pc := 34) (v := (gI σ2 (gR σ2 1 2) 0)) rfl rfl ⟨Nat.le_refl _, Nat.le_refl _⟩ dX7_turn_34)
  replace hr := ite_f hc hr
  refine r_iconst (pc := 9) (v := (-1 : Int32)) dX7_turn_9 rfl ?_
  exact l_osi hr (r_iret (pc := 10) (v := (-1 : Int32)) rfl rfl ⟨Nat.le_refl _, Nat.le_refl _⟩ dX7_turn_10)

theorem kX7_turn {g : GG} {σ : SS} {a1 : Int32} {v : Int32} {σ2 : SS} {M : MM} {F : State → Array Value → List Frame → State → Prop} {pc index : Nat} {ls : List (Nat × Value)} {rest : List Value} (hf : fX7_turn σ a1 = some (v, σ2))  (hl : Cond.methodLink M.1.cls index yX7_turn ∈ lw_gt) (hR : mX7_turn.2.2.2.2.frames + 1 ≤ M.2.2.2.2.frames ∧ 8 + (mX7_turn.2.2.1 + 11) + mX7_turn.2.2.2.2.locals ≤ M.2.2.2.2.locals) (hrest : (rest.map fun v => v.category).sum ≤ 8) (hd : decode M.2.1 pc = .ok (.invokevirtual index, 3)) (k : WT σ2 → RR g M F zF (pc + 3) ls (.int v :: rest) σ2) : RR g M F zF pc ls (.int a1 :: .ref (ad g 1) :: rest) σ :=
  r_callV (z := zF) (N := mX7_turn) (nn := 1) (o1 := some (.int v)) (sX7_turn hf ) (rfl : shp 1 = (7, 0)) (by decide) (shp_le (rfl : shp 1 = (7, 0)) (nle rfl)) (ci := 7) rfl rfl tw_3_156 tw_1_1 hl tw_3_154 tw_3_155 ⟨by decide, by decide, rfl⟩ hR rfl hrest hd ⟨Nat.zero_le _, Nat.zero_le _⟩ rfl (fun h => k (h rfl))

theorem dX8_puts_0 : decode cX8_puts 0 = .ok (.iconst 0, 1) := by decide +kernel
theorem dX8_puts_1 : decode cX8_puts 1 = .ok (.istore_n 1, 1) := by decide +kernel
theorem dX8_puts_2 : decode cX8_puts 2 = .ok (.iload_n 1, 1) := by decide +kernel
theorem dX8_puts_3 : decode cX8_puts 3 = .ok (.sipush 1600, 3) := by decide +kernel
theorem dX8_puts_6 : decode cX8_puts 6 = .ok (.if_icmp .ge 21, 3) := by decide +kernel
theorem dX8_puts_9 : decode cX8_puts 9 = .ok (.aload_n 0, 1) := by decide +kernel
theorem dX8_puts_10 : decode cX8_puts 10 = .ok (.getfield 41, 3) := by decide +kernel
theorem dX8_puts_13 : decode cX8_puts 13 = .ok (.iload_n 1, 1) := by decide +kernel
theorem dX8_puts_14 : decode cX8_puts 14 = .ok (.aload_n 0, 1) := by decide +kernel
theorem dX8_puts_15 : decode cX8_puts 15 = .ok (.getfield 38, 3) := by decide +kernel
theorem dX8_puts_18 : decode cX8_puts 18 = .ok (.iload_n 1, 1) := by decide +kernel
theorem dX8_puts_19 : decode cX8_puts 19 = .ok (.iaload, 1) := by decide +kernel
theorem dX8_puts_20 : decode cX8_puts 20 = .ok (.iastore, 1) := by decide +kernel
theorem dX8_puts_21 : decode cX8_puts 21 = .ok (.iinc 1 1, 3) := by decide +kernel
theorem dX8_puts_24 : decode cX8_puts 24 = .ok (.goto (-22), 3) := by decide +kernel
theorem dX8_puts_27 : decode cX8_puts 27 = .ok (.return_, 1) := by decide +kernel
def mX8_puts : MM := (yX8_puts, cX8_puts, 2, none, { frames := 0, cells := 0, slots := 0, locals := 0 })
def X8_puts_L2   : Nat → Int32 → SS → Option SS :=
  lp (fun _ _ => none) fun rec v1_ σ_ =>
    if (1600 : Int32) ≤ v1_ then (
      some σ_
      ) else (
      grd (inb v1_ 1600) <|
      vthen (sI σ_ 84 (Int32.toNatClampNeg v1_) (gI σ_ 83 (Int32.toNatClampNeg v1_))) fun σ2 =>
      rec (v1_ + (1 : Int32)) σ2
      )

def fX8_puts (σ : SS)  : Option SS :=
  X8_puts_L2
  fuel (0 : Int32) σ

set_option maxRecDepth 20000 in
theorem sX8_puts_L2 {g : GG} {r : SS}   
    (n : Nat) : ∀ (v1_ : Int32) (σ_ : SS), X8_puts_L2 n v1_ σ_ = some r → WT σ_ → RR g mX8_puts (FinR g mX8_puts none NF r) zF 2 [(0, .ref (ad g 73)), (1, .int v1_)] [] σ_ := by
  unfold X8_puts_L2
  refine lp_ind (P := fun (rec : Int32 → SS → Option SS) => ∀ (v1_ : Int32) (σ_ : SS), rec v1_ σ_ = some r → WT σ_ → RR g mX8_puts (FinR g mX8_puts none NF r) zF 2 [(0, .ref (ad g 73)), (1, .int v1_)] [] σ_) ?_ ?_ n
  · intro v1_ σ_ hr; cases hr
  intro rec ih v1_ σ_ hr hw_
  refine r_iload_n (pc := 2) (j := 1) dX8_puts_2 rfl rfl ?_
  refine r_sipush (pc := 3) (v := (1600 : Int32)) dX8_puts_3 rfl ?_
  refine r_icmp_ge (pc := 6) (tgt := 27) dX8_puts_6 rfl (fun hc => ?_) (fun hc => ?_)
  · replace hr := ite_t hc hr
    exact l_ov hr (r_vret (pc := 27) rfl rfl ⟨Nat.le_refl _, Nat.le_refl _⟩ dX8_puts_27)
  replace hr := ite_f hc hr
  refine r_aload_n (pc := 9) (j := 0) dX8_puts_9 rfl rfl ?_
  refine gf8_22 (pc := 10) tw_5_116 hw_ dX8_puts_10 ?_
  refine r_iload_n (pc := 13) (j := 1) dX8_puts_13 rfl rfl ?_
  refine r_aload_n (pc := 14) (j := 0) dX8_puts_14 rfl rfl ?_
  refine gf8_21 (pc := 15) tw_5_115 hw_ dX8_puts_15 ?_
  refine r_iload_n (pc := 18) (j := 1) dX8_puts_18 rfl rfl ?_
  obtain ⟨h1, hr⟩ := grd_inv hr
  refine x_iald (pc := 19) (k := (Int32.toNatClampNeg v1_)) rfl h1 rfl dX8_puts_19 ?_
  refine x_iast (pc := 20) (j := (Int32.toNatClampNeg v1_)) rfl h1 rfl dX8_puts_20 fun σ2 eσ2 => ?_
  replace hr := vthen_inv hr σ2 eσ2
  have hσ2 := wtI eσ2 hw_
  refine r_iinc (pc := 21) (j := 1) (v := (v1_ + (1 : Int32))) (ls1 := [(1, .int (v1_ + (1 : Int32))), (0, .ref (ad g 73))]) dX8_puts_21 rfl rfl (nle rfl) rfl ?_
  refine r_goto (pc := 24) (tgt := 2) dX8_puts_24 rfl ?_
  exact r_pick (ls1 := [(0, .ref (ad g 73)), (1, .int (v1_ + (1 : Int32)))]) [1, 0] rfl (ih (v1_ + (1 : Int32)) σ2 hr hσ2)

set_option maxRecDepth 20000 in
theorem sX8_puts {g : GG} {σ : SS}  {r : SS} (hr : fX8_puts σ = some r)  : Ct g mX8_puts [.ref (ad g 73)] NF σ none NF r := by
  refine Ct.of (by decide +kernel) (nle rfl) fun hw0 => ?_
  have hw := hw0 rfl
  unfold fX8_puts at hr
  change RR g mX8_puts (FinR g mX8_puts none NF r) zF 0 [(0, .ref (ad g 73))] [] σ
  refine r_iconst (pc := 0) (v := (0 : Int32)) dX8_puts_0 rfl ?_
  refine r_istore_n (pc := 1) (ls1 := [(1, .int (0 : Int32)), (0, .ref (ad g 73))]) dX8_puts_1 rfl (nle rfl) rfl ?_
  refine r_pick (ls1 := [(0, .ref (ad g 73)), (1, .int (0 : Int32))]) [1, 0] rfl ?_
  refine sX8_puts_L2     fuel (0 : Int32) σ hr hw

theorem kX8_puts {g : GG} {σ : SS}  {σ2 : SS} {M : MM} {F : State → Array Value → List Frame → State → Prop} {pc index : Nat} {ls : List (Nat × Value)} {rest : List Value} (hf : fX8_puts σ = some σ2)  (hl : Cond.methodLink M.1.cls index yX8_puts ∈ lw_gt) (hR : mX8_puts.2.2.2.2.frames + 1 ≤ M.2.2.2.2.frames ∧ 8 + (mX8_puts.2.2.1 + 11) + mX8_puts.2.2.2.2.locals ≤ M.2.2.2.2.locals) (hrest : (rest.map fun v => v.category).sum ≤ 8) (hd : decode M.2.1 pc = .ok (.invokevirtual index, 3)) (k : WT σ2 → RR g M F zF (pc + 3) ls rest σ2) : RR g M F zF pc ls (.ref (ad g 73) :: rest) σ :=
  r_callV (z := zF) (N := mX8_puts) (nn := 0) (o1 := none) (sX8_puts hf ) (rfl : shp 73 = (8, 0)) (by decide) (shp_le (rfl : shp 73 = (8, 0)) (nle rfl)) (ci := 8) rfl rfl tw_6_206 tw_1_10 hl tw_6_205 tp_55 ⟨by decide, by decide, rfl⟩ hR rfl hrest hd ⟨Nat.zero_le _, Nat.zero_le _⟩ rfl (fun h => k (h rfl))

theorem dX8_turns_0 : decode cX8_turns 0 = .ok (.aload_n 0, 1) := by decide +kernel
theorem dX8_turns_1 : decode cX8_turns 1 = .ok (.invokevirtual 289, 3) := by decide +kernel
theorem dX8_turns_4 : decode cX8_turns 4 = .ok (.aload_n 0, 1) := by decide +kernel
theorem dX8_turns_5 : decode cX8_turns 5 = .ok (.getfield 132, 3) := by decide +kernel
theorem dX8_turns_8 : decode cX8_turns 8 = .ok (.istore_n 1, 1) := by decide +kernel
theorem dX8_turns_9 : decode cX8_turns 9 = .ok (.aload_n 0, 1) := by decide +kernel
theorem dX8_turns_10 : decode cX8_turns 10 = .ok (.getfield 136, 3) := by decide +kernel
theorem dX8_turns_13 : decode cX8_turns 13 = .ok (.istore_n 2, 1) := by decide +kernel
theorem dX8_turns_14 : decode cX8_turns 14 = .ok (.aload_n 0, 1) := by decide +kernel
theorem dX8_turns_15 : decode cX8_turns 15 = .ok (.iload_n 2, 1) := by decide +kernel
theorem dX8_turns_16 : decode cX8_turns 16 = .ok (.putfield 132, 3) := by decide +kernel
theorem dX8_turns_19 : decode cX8_turns 19 = .ok (.aload_n 0, 1) := by decide +kernel
theorem dX8_turns_20 : decode cX8_turns 20 = .ok (.iload_n 1, 1) := by decide +kernel
theorem dX8_turns_21 : decode cX8_turns 21 = .ok (.putfield 136, 3) := by decide +kernel
theorem dX8_turns_24 : decode cX8_turns 24 = .ok (.iconst 0, 1) := by decide +kernel
theorem dX8_turns_25 : decode cX8_turns 25 = .ok (.istore_n 3, 1) := by decide +kernel
theorem dX8_turns_26 : decode cX8_turns 26 = .ok (.iload_n 3, 1) := by decide +kernel
theorem dX8_turns_27 : decode cX8_turns 27 = .ok (.iload_n 2, 1) := by decide +kernel
theorem dX8_turns_28 : decode cX8_turns 28 = .ok (.if_icmp .ge 53, 3) := by decide +kernel
theorem dX8_turns_31 : decode cX8_turns 31 = .ok (.iconst 0, 1) := by decide +kernel
theorem dX8_turns_32 : decode cX8_turns 32 = .ok (.istore 4, 2) := by decide +kernel
theorem dX8_turns_34 : decode cX8_turns 34 = .ok (.iload 4, 2) := by decide +kernel
theorem dX8_turns_36 : decode cX8_turns 36 = .ok (.iload_n 1, 1) := by decide +kernel
theorem dX8_turns_37 : decode cX8_turns 37 = .ok (.if_icmp .ge 38, 3) := by decide +kernel
theorem dX8_turns_40 : decode cX8_turns 40 = .ok (.aload_n 0, 1) := by decide +kernel
theorem dX8_turns_41 : decode cX8_turns 41 = .ok (.getfield 38, 3) := by decide +kernel
theorem dX8_turns_44 : decode cX8_turns 44 = .ok (.aload_n 0, 1) := by decide +kernel
theorem dX8_turns_45 : decode cX8_turns 45 = .ok (.getfield 132, 3) := by decide +kernel
theorem dX8_turns_48 : decode cX8_turns 48 = .ok (.iload 4, 2) := by decide +kernel
theorem dX8_turns_50 : decode cX8_turns 50 = .ok (.imul, 1) := by decide +kernel
theorem dX8_turns_51 : decode cX8_turns 51 = .ok (.iload_n 2, 1) := by decide +kernel
theorem dX8_turns_52 : decode cX8_turns 52 = .ok (.iadd, 1) := by decide +kernel
theorem dX8_turns_53 : decode cX8_turns 53 = .ok (.iconst 1, 1) := by decide +kernel
theorem dX8_turns_54 : decode cX8_turns 54 = .ok (.isub, 1) := by decide +kernel
theorem dX8_turns_55 : decode cX8_turns 55 = .ok (.iload_n 3, 1) := by decide +kernel
theorem dX8_turns_56 : decode cX8_turns 56 = .ok (.isub, 1) := by decide +kernel
theorem dX8_turns_57 : decode cX8_turns 57 = .ok (.aload_n 0, 1) := by decide +kernel
theorem dX8_turns_58 : decode cX8_turns 58 = .ok (.getfield 41, 3) := by decide +kernel
theorem dX8_turns_61 : decode cX8_turns 61 = .ok (.iload_n 1, 1) := by decide +kernel
theorem dX8_turns_62 : decode cX8_turns 62 = .ok (.iload_n 3, 1) := by decide +kernel
theorem dX8_turns_63 : decode cX8_turns 63 = .ok (.imul, 1) := by decide +kernel
theorem dX8_turns_64 : decode cX8_turns 64 = .ok (.iload 4, 2) := by decide +kernel
theorem dX8_turns_66 : decode cX8_turns 66 = .ok (.iadd, 1) := by decide +kernel
theorem dX8_turns_67 : decode cX8_turns 67 = .ok (.iaload, 1) := by decide +kernel
theorem dX8_turns_68 : decode cX8_turns 68 = .ok (.iastore, 1) := by decide +kernel
theorem dX8_turns_69 : decode cX8_turns 69 = .ok (.iinc 4 1, 3) := by decide +kernel
theorem dX8_turns_72 : decode cX8_turns 72 = .ok (.goto (-38), 3) := by decide +kernel
theorem dX8_turns_75 : decode cX8_turns 75 = .ok (.iinc 3 1, 3) := by decide +kernel
theorem dX8_turns_78 : decode cX8_turns 78 = .ok (.goto (-52), 3) := by decide +kernel
theorem dX8_turns_81 : decode cX8_turns 81 = .ok (.return_, 1) := by decide +kernel
def mX8_turns : MM := (yX8_turns, cX8_turns, 5, none, { frames := 1, cells := 0, slots := 0, locals := 21 })
def X8_turns_L34 (u1_ : Int32) (u2_ : Int32) (u3_ : Int32) (k75 : SS → Option SS) : Nat → Int32 → SS → Option SS :=
  lp (fun _ _ => none) fun rec v4_ σ_ =>
    if u1_ ≤ v4_ then (
      k75 σ_
      ) else (
      grd (inb ((u1_ * u3_) + v4_) 1600) <|
      grd (inb (((((gI σ_ 73 29) * v4_) + u2_) - (1 : Int32)) - u3_) 1600) <|
      vthen (sI σ_ 83 (Int32.toNatClampNeg (((((gI σ_ 73 29) * v4_) + u2_) - (1 : Int32)) - u3_)) (gI σ_ 84 (Int32.toNatClampNeg ((u1_ * u3_) + v4_)))) fun σ8 =>
      rec (v4_ + (1 : Int32)) σ8
      )

def X8_turns_L26 (u1_ : Int32) (u2_ : Int32)  : Nat → Int32 → SS → Option SS :=
  lp (fun _ _ => none) fun rec v3_ σ_ =>
    if u2_ ≤ v3_ then (
      some σ_
      ) else (
      X8_turns_L34 u1_ u2_ v3_
      (fun σ9 =>
        rec (v3_ + (1 : Int32)) σ9
        )
      fuel (0 : Int32) σ_
      )

def fX8_turns (σ : SS)  : Option SS :=
  bnd1 (fX8_puts σ) fun σ1 =>
  vthen (gI σ1 73 29) fun v2 =>
  vthen (gI σ1 73 30) fun v3 =>
  vthen (sI σ1 73 29 v3) fun σ4 =>
  vthen (sI σ4 73 30 v2) fun σ5 =>
  X8_turns_L26 v2 v3
  fuel (0 : Int32) σ5

set_option maxRecDepth 20000 in
theorem sX8_turns_L34 {g : GG} {r : SS} {u1_ : Int32} {u2_ : Int32} {u3_ : Int32} {k75 : SS → Option SS} 
    (hk75 : ∀ (σ_ : SS), k75 σ_ = some r → WT σ_ → RR g mX8_turns (FinR g mX8_turns none NF r) zF 75 [(0, .ref (ad g 73)), (1, .int u1_), (2, .int u2_), (3, .int u3_)] [] σ_)
    (n : Nat) : ∀ (v4_ : Int32) (σ_ : SS), X8_turns_L34 u1_ u2_ u3_ k75 n v4_ σ_ = some r → WT σ_ → RR g mX8_turns (FinR g mX8_turns none NF r) zF 34 [(0, .ref (ad g 73)), (1, .int u1_), (2, .int u2_), (3, .int u3_), (4, .int v4_)] [] σ_ := by
  unfold X8_turns_L34
  refine lp_ind (P := fun (rec : Int32 → SS → Option SS) => ∀ (v4_ : Int32) (σ_ : SS), rec v4_ σ_ = some r → WT σ_ → RR g mX8_turns (FinR g mX8_turns none NF r) zF 34 [(0, .ref (ad g 73)), (1, .int u1_), (2, .int u2_), (3, .int u3_), (4, .int v4_)] [] σ_) ?_ ?_ n
  · intro v4_ σ_ hr; cases hr
  intro rec ih v4_ σ_ hr hw_
  refine r_iload (pc := 34) (j := 4) dX8_turns_34 rfl ?_
  refine r_iload_n (pc := 36) (j := 1) dX8_turns_36 rfl rfl ?_
  refine r_icmp_ge (pc := 37) (tgt := 75) dX8_turns_37 rfl (fun hc => ?_) (fun hc => ?_)
  · replace hr := ite_t hc hr
    exact r_pick (ls1 := [(0, .ref (ad g 73)), (1, .int u1_), (2, .int u2_), (3, .int u3_)]) [0, 1, 2, 3] rfl (hk75 σ_ hr hw_)
  replace hr := ite_f hc hr
  refine r_aload_n (pc := 40) (j := 0) dX8_turns_40 rfl rfl ?_
  refine gf8_21 (pc := 41) tw_5_115 hw_ dX8_turns_41 ?_
  refine r_aload_n (pc := 44) (j := 0) dX8_turns_44 rfl rfl ?_
  refine gf8_29 (pc := 45) tw_5_123 rfl dX8_turns_45 ?_
  refine r_iload (pc := 48) (j := 4) dX8_turns_48 rfl ?_
  refine r_imul (pc := 50) dX8_turns_50 ?_
  refine r_iload_n (pc := 51) (j := 2) dX8_turns_51 rfl rfl ?_
  refine r_iadd (pc := 52) dX8_turns_52 ?_
  refine r_iconst (pc := 53) (v := (1 : Int32)) dX8_turns_53 rfl ?_
  refine r_isub (pc := 54) dX8_turns_54 ?_
  refine r_iload_n (pc := 55) (j := 3) dX8_turns_55 rfl rfl ?_
  refine r_isub (pc := 56) dX8_turns_56 ?_
  refine r_aload_n (pc := 57) (j := 0) dX8_turns_57 rfl rfl ?_
  refine gf8_22 (pc := 58) tw_5_116 hw_ dX8_turns_58 ?_
  refine r_iload_n (pc := 61) (j := 1) dX8_turns_61 rfl rfl ?_
  refine r_iload_n (pc := 62) (j := 3) dX8_turns_62 rfl rfl ?_
  refine r_imul (pc := 63) dX8_turns_63 ?_
  refine r_iload (pc := 64) (j := 4) dX8_turns_64 rfl ?_
  refine r_iadd (pc := 66) dX8_turns_66 ?_
  obtain ⟨h6, hr⟩ := grd_inv hr
  refine x_iald (pc := 67) (k := (Int32.toNatClampNeg ((u1_ * u3_) + v4_))) rfl h6 rfl dX8_turns_67 ?_
  obtain ⟨h7, hr⟩ := grd_inv hr
  refine x_iast (pc := 68) (j := (Int32.toNatClampNeg (((((gI σ_ 73 29) * v4_) + u2_) - (1 : Int32)) - u3_))) rfl h7 rfl dX8_turns_68 fun σ8 eσ8 => ?_
  replace hr := vthen_inv hr σ8 eσ8
  have hσ8 := wtI eσ8 hw_
  refine r_iinc (pc := 69) (j := 4) (v := (v4_ + (1 : Int32))) (ls1 := [(4, .int (v4_ + (1 : Int32))), (0, .ref (ad g 73)), (1, .int u1_), (2, .int u2_), (3, .int u3_)]) dX8_turns_69 rfl rfl (nle rfl) rfl ?_
  refine r_goto (pc := 72) (tgt := 34) dX8_turns_72 rfl ?_
  exact r_pick (ls1 := [(0, .ref (ad g 73)), (1, .int u1_), (2, .int u2_), (3, .int u3_), (4, .int (v4_ + (1 : Int32)))]) [1, 2, 3, 4, 0] rfl (ih (v4_ + (1 : Int32)) σ8 hr hσ8)

set_option maxRecDepth 20000 in
theorem sX8_turns_L26 {g : GG} {r : SS} {u1_ : Int32} {u2_ : Int32}  
    (n : Nat) : ∀ (v3_ : Int32) (σ_ : SS), X8_turns_L26 u1_ u2_ n v3_ σ_ = some r → WT σ_ → RR g mX8_turns (FinR g mX8_turns none NF r) zF 26 [(0, .ref (ad g 73)), (1, .int u1_), (2, .int u2_), (3, .int v3_)] [] σ_ := by
  unfold X8_turns_L26
  refine lp_ind (P := fun (rec : Int32 → SS → Option SS) => ∀ (v3_ : Int32) (σ_ : SS), rec v3_ σ_ = some r → WT σ_ → RR g mX8_turns (FinR g mX8_turns none NF r) zF 26 [(0, .ref (ad g 73)), (1, .int u1_), (2, .int u2_), (3, .int v3_)] [] σ_) ?_ ?_ n
  · intro v3_ σ_ hr; cases hr
  intro rec ih v3_ σ_ hr hw_
  refine r_iload_n (pc := 26) (j := 3) dX8_turns_26 rfl rfl ?_
  refine r_iload_n (pc := 27) (j := 2) dX8_turns_27 rfl rfl ?_
  refine r_icmp_ge (pc := 28) (tgt := 81) dX8_turns_28 rfl (fun hc => ?_) (fun hc => ?_)
  · replace hr := ite_t hc hr
    exact l_ov hr (r_vret (pc := 81) rfl rfl ⟨Nat.le_refl _, Nat.le_refl _⟩ dX8_turns_81)
  replace hr := ite_f hc hr
  refine r_iconst (pc := 31) (v := (0 : Int32)) dX8_turns_31 rfl ?_
  refine r_istore (pc := 32) (ls1 := [(4, .int (0 : Int32)), (0, .ref (ad g 73)), (1, .int u1_), (2, .int u2_), (3, .int v3_)]) dX8_turns_32 (nle rfl) rfl ?_
  refine r_pick (ls1 := [(0, .ref (ad g 73)), (1, .int u1_), (2, .int u2_), (3, .int v3_), (4, .int (0 : Int32))]) [1, 2, 3, 4, 0] rfl ?_
  refine sX8_turns_L34    (fun σ9 hr hσ9 => ?_) fuel (0 : Int32) σ_ hr hw_
  refine r_iinc (pc := 75) (j := 3) (v := (v3_ + (1 : Int32))) (ls1 := [(3, .int (v3_ + (1 : Int32))), (0, .ref (ad g 73)), (1, .int u1_), (2, .int u2_)]) dX8_turns_75 rfl rfl (nle rfl) rfl ?_
  refine r_goto (pc := 78) (tgt := 26) dX8_turns_78 rfl ?_
  exact r_pick (ls1 := [(0, .ref (ad g 73)), (1, .int u1_), (2, .int u2_), (3, .int (v3_ + (1 : Int32)))]) [1, 2, 3, 0] rfl (ih (v3_ + (1 : Int32)) σ9 hr hσ9)

set_option maxRecDepth 20000 in
theorem sX8_turns {g : GG} {σ : SS}  {r : SS} (hr : fX8_turns σ = some r)  : Ct g mX8_turns [.ref (ad g 73)] NF σ none NF r := by
  refine Ct.of (by decide +kernel) (nle rfl) fun hw0 => ?_
  have hw := hw0 rfl
  unfold fX8_turns at hr
  change RR g mX8_turns (FinR g mX8_turns none NF r) zF 0 [(0, .ref (ad g 73))] [] σ
  refine r_aload_n (pc := 0) (j := 0) dX8_turns_0 rfl rfl ?_
  obtain ⟨σ1, eσ1, hr⟩ := bnd1_inv hr
  refine kX8_puts (pc := 1) eσ1 tw_6_203 ⟨nle rfl, nle rfl⟩ (nle rfl) dX8_turns_1 fun hσ1 => ?_
  refine r_aload_n (pc := 4) (j := 0) dX8_turns_4 rfl rfl ?_
  refine gf8_29 (pc := 5) tw_5_123 rfl dX8_turns_5 ?_
  refine r_topi fun v2 ev2 => ?_
  replace hr := vthen_inv hr v2 ev2
  refine r_istore_n (pc := 8) (ls1 := [(1, .int v2), (0, .ref (ad g 73))]) dX8_turns_8 rfl (nle rfl) rfl ?_
  refine r_aload_n (pc := 9) (j := 1) dX8_turns_9 rfl rfl ?_
  refine gf8_30 (pc := 10) tw_5_124 rfl dX8_turns_10 ?_
  refine r_topi fun v3 ev3 => ?_
  replace hr := vthen_inv hr v3 ev3
  refine r_istore_n (pc := 13) (ls1 := [(2, .int v3), (1, .int v2), (0, .ref (ad g 73))]) dX8_turns_13 rfl (nle rfl) rfl ?_
  refine r_aload_n (pc := 14) (j := 2) dX8_turns_14 rfl rfl ?_
  refine r_iload_n (pc := 15) (j := 0) dX8_turns_15 rfl rfl ?_
  refine pf8_29 (pc := 16) tw_5_123 rfl dX8_turns_16 fun σ4 eσ4 => ?_
  replace hr := vthen_inv hr σ4 eσ4
  have hσ4 := wtI eσ4 hσ1
  refine r_aload_n (pc := 19) (j := 2) dX8_turns_19 rfl rfl ?_
  refine r_iload_n (pc := 20) (j := 1) dX8_turns_20 rfl rfl ?_
  refine pf8_30 (pc := 21) tw_5_124 rfl dX8_turns_21 fun σ5 eσ5 => ?_
  replace hr := vthen_inv hr σ5 eσ5
  have hσ5 := wtI eσ5 hσ4
  refine r_iconst (pc := 24) (v := (0 : Int32)) dX8_turns_24 rfl ?_
  refine r_istore_n (pc := 25) (ls1 := [(3, .int (0 : Int32)), (2, .int v3), (1, .int v2), (0, .ref (ad g 73))]) dX8_turns_25 rfl (nle rfl) rfl ?_
  refine r_pick (ls1 := [(0, .ref (ad g 73)), (1, .int v2), (2, .int v3), (3, .int (0 : Int32))]) [3, 2, 1, 0] rfl ?_
  refine sX8_turns_L26     fuel (0 : Int32) σ5 hr hσ5

theorem kX8_turns {g : GG} {σ : SS}  {σ2 : SS} {M : MM} {F : State → Array Value → List Frame → State → Prop} {pc index : Nat} {ls : List (Nat × Value)} {rest : List Value} (hf : fX8_turns σ = some σ2)  (hl : Cond.methodLink M.1.cls index yX8_turns ∈ lw_gt) (hR : mX8_turns.2.2.2.2.frames + 1 ≤ M.2.2.2.2.frames ∧ 8 + (mX8_turns.2.2.1 + 11) + mX8_turns.2.2.2.2.locals ≤ M.2.2.2.2.locals) (hrest : (rest.map fun v => v.category).sum ≤ 8) (hd : decode M.2.1 pc = .ok (.invokevirtual index, 3)) (k : WT σ2 → RR g M F zF (pc + 3) ls rest σ2) : RR g M F zF pc ls (.ref (ad g 73) :: rest) σ :=
  r_callV (z := zF) (N := mX8_turns) (nn := 0) (o1 := none) (sX8_turns hf ) (rfl : shp 73 = (8, 0)) (by decide) (shp_le (rfl : shp 73 = (8, 0)) (nle rfl)) (ci := 8) rfl rfl tw_6_202 tw_1_10 hl tw_6_201 tp_54 ⟨by decide, by decide, rfl⟩ hR rfl hrest hd ⟨Nat.zero_le _, Nat.zero_le _⟩ rfl (fun h => k (h rfl))

theorem dX8_turn_0 : decode cX8_turn 0 = .ok (.iload_n 1, 1) := by decide +kernel
theorem dX8_turn_1 : decode cX8_turn 1 = .ok (.iconst 0, 1) := by decide +kernel
theorem dX8_turn_2 : decode cX8_turn 2 = .ok (.iconst 3, 1) := by decide +kernel
theorem dX8_turn_3 : decode cX8_turn 3 = .ok (.invokestatic 165, 3) := by decide +kernel
theorem dX8_turn_6 : decode cX8_turn 6 = .ok (.ifCond .ne 5, 3) := by decide +kernel
theorem dX8_turn_9 : decode cX8_turn 9 = .ok (.iconst (-1), 1) := by decide +kernel
theorem dX8_turn_10 : decode cX8_turn 10 = .ok (.ireturn, 1) := by decide +kernel
theorem dX8_turn_11 : decode cX8_turn 11 = .ok (.iconst 0, 1) := by decide +kernel
theorem dX8_turn_12 : decode cX8_turn 12 = .ok (.istore_n 2, 1) := by decide +kernel
theorem dX8_turn_13 : decode cX8_turn 13 = .ok (.iload_n 2, 1) := by decide +kernel
theorem dX8_turn_14 : decode cX8_turn 14 = .ok (.iload_n 1, 1) := by decide +kernel
theorem dX8_turn_15 : decode cX8_turn 15 = .ok (.if_icmp .ge 13, 3) := by decide +kernel
theorem dX8_turn_18 : decode cX8_turn 18 = .ok (.aload_n 0, 1) := by decide +kernel
theorem dX8_turn_19 : decode cX8_turn 19 = .ok (.invokevirtual 292, 3) := by decide +kernel
theorem dX8_turn_22 : decode cX8_turn 22 = .ok (.iinc 2 1, 3) := by decide +kernel
theorem dX8_turn_25 : decode cX8_turn 25 = .ok (.goto (-12), 3) := by decide +kernel
theorem dX8_turn_28 : decode cX8_turn 28 = .ok (.aload_n 0, 1) := by decide +kernel
theorem dX8_turn_29 : decode cX8_turn 29 = .ok (.getfield 132, 3) := by decide +kernel
theorem dX8_turn_32 : decode cX8_turn 32 = .ok (.ireturn, 1) := by decide +kernel
def mX8_turn : MM := (yX8_turn, cX8_turn, 3, Option.some Jvm.ClassFile.FieldType.int, { frames := 2, cells := 0, slots := 0, locals := 45 })
def X8_turn_L13 (u1_ : Int32)  : Nat → Int32 → SS → Option (Int32 × SS) :=
  lp (fun _ _ => none) fun rec v2_ σ_ =>
    if u1_ ≤ v2_ then (
      some ((gI σ_ 73 29), σ_)
      ) else (
      bnd1 (fX8_turns σ_) fun σ1 =>
      rec (v2_ + (1 : Int32)) σ1
      )

def fX8_turn (σ : SS) (a1 : Int32) : Option (Int32 × SS) :=
  if (fX8_in σ a1 (0 : Int32) (3 : Int32)) = true then (
    X8_turn_L13 a1
    fuel (0 : Int32) σ
    ) else (
    some ((-1 : Int32), σ)
    )

set_option maxRecDepth 20000 in
theorem sX8_turn_L13 {g : GG} {r : Int32 × SS} {u1_ : Int32}  
    (n : Nat) : ∀ (v2_ : Int32) (σ_ : SS), X8_turn_L13 u1_ n v2_ σ_ = some r → WT σ_ → RR g mX8_turn (FinR g mX8_turn (some (.int r.1)) NF r.2) zF 13 [(0, .ref (ad g 73)), (1, .int u1_), (2, .int v2_)] [] σ_ := by
  unfold X8_turn_L13
  refine lp_ind (P := fun (rec : Int32 → SS → Option (Int32 × SS)) => ∀ (v2_ : Int32) (σ_ : SS), rec v2_ σ_ = some r → WT σ_ → RR g mX8_turn (FinR g mX8_turn (some (.int r.1)) NF r.2) zF 13 [(0, .ref (ad g 73)), (1, .int u1_), (2, .int v2_)] [] σ_) ?_ ?_ n
  · intro v2_ σ_ hr; cases hr
  intro rec ih v2_ σ_ hr hw_
  refine r_iload_n (pc := 13) (j := 2) dX8_turn_13 rfl rfl ?_
  refine r_iload_n (pc := 14) (j := 1) dX8_turn_14 rfl rfl ?_
  refine r_icmp_ge (pc := 15) (tgt := 28) dX8_turn_15 rfl (fun hc => ?_) (fun hc => ?_)
  · replace hr := ite_t hc hr
    refine r_aload_n (pc := 28) (j := 0) dX8_turn_28 rfl rfl ?_
    refine gf8_29 (pc := 29) tw_5_123 rfl dX8_turn_29 ?_
    exact l_osi hr (r_iret (pc := 32) (v := (gI σ_ 73 29)) rfl rfl ⟨Nat.le_refl _, Nat.le_refl _⟩ dX8_turn_32)
  replace hr := ite_f hc hr
  refine r_aload_n (pc := 18) (j := 0) dX8_turn_18 rfl rfl ?_
  obtain ⟨σ1, eσ1, hr⟩ := bnd1_inv hr
  refine kX8_turns (pc := 19) eσ1 tw_6_199 ⟨nle rfl, nle rfl⟩ (nle rfl) dX8_turn_19 fun hσ1 => ?_
  refine r_iinc (pc := 22) (j := 2) (v := (v2_ + (1 : Int32))) (ls1 := [(2, .int (v2_ + (1 : Int32))), (0, .ref (ad g 73)), (1, .int u1_)]) dX8_turn_22 rfl rfl (nle rfl) rfl ?_
  refine r_goto (pc := 25) (tgt := 13) dX8_turn_25 rfl ?_
  exact r_pick (ls1 := [(0, .ref (ad g 73)), (1, .int u1_), (2, .int (v2_ + (1 : Int32)))]) [1, 2, 0] rfl (ih (v2_ + (1 : Int32)) σ1 hr hσ1)

set_option maxRecDepth 20000 in
theorem sX8_turn {g : GG} {σ : SS} {a1 : Int32} {r : Int32 × SS} (hr : fX8_turn σ a1 = some r)  : Ct g mX8_turn [.ref (ad g 73), .int a1] NF σ (some (.int r.1)) NF r.2 := by
  refine Ct.of (by decide +kernel) (nle rfl) fun hw0 => ?_
  have hw := hw0 rfl
  unfold fX8_turn at hr
  change RR g mX8_turn (FinR g mX8_turn (some (.int r.1)) NF r.2) zF 0 [(0, .ref (ad g 73)), (1, .int a1)] [] σ
  refine r_iload_n (pc := 0) (j := 1) dX8_turn_0 rfl rfl ?_
  refine r_iconst (pc := 1) (v := (0 : Int32)) dX8_turn_1 rfl ?_
  refine r_iconst (pc := 2) (v := (3 : Int32)) dX8_turn_2 rfl ?_
  refine kX8_in (pc := 3) (hf := rfl) tw_6_65 ⟨nle rfl, nle rfl⟩ (nle rfl) dX8_turn_3 ?_
  refine r_ifB_ne (pc := 6) (tgt := 11) dX8_turn_6 rfl (fun hc => ?_) (fun hc => ?_)
  · replace hr := ite_t hc hr
    refine r_iconst (pc := 11) (v := (0 : Int32)) dX8_turn_11 rfl ?_
    refine r_istore_n (pc := 12) (ls1 := [(2, .int (0 : Int32)), (0, .ref (ad g 73)), (1, .int a1)]) dX8_turn_12 rfl (nle rfl) rfl ?_
    refine r_pick (ls1 := [(0, .ref (ad g 73)), (1, .int a1), (2, .int (0 : Int32))]) [1, 2, 0] rfl ?_
    refine sX8_turn_L13     fuel (0 : Int32) σ hr hw
  replace hr := ite_f hc hr
  refine r_iconst (pc := 9) (v := (-1 : Int32)) dX8_turn_9 rfl ?_
  exact l_osi hr (r_iret (pc := 10) (v := (-1 : Int32)) rfl rfl ⟨Nat.le_refl _, Nat.le_refl _⟩ dX8_turn_10)

theorem kX8_turn {g : GG} {σ : SS} {a1 : Int32} {v : Int32} {σ2 : SS} {M : MM} {F : State → Array Value → List Frame → State → Prop} {pc index : Nat} {ls : List (Nat × Value)} {rest : List Value} (hf : fX8_turn σ a1 = some (v, σ2))  (hl : Cond.methodLink M.1.cls index yX8_turn ∈ lw_gt) (hR : mX8_turn.2.2.2.2.frames + 1 ≤ M.2.2.2.2.frames ∧ 8 + (mX8_turn.2.2.1 + 11) + mX8_turn.2.2.2.2.locals ≤ M.2.2.2.2.locals) (hrest : (rest.map fun v => v.category).sum ≤ 8) (hd : decode M.2.1 pc = .ok (.invokevirtual index, 3)) (k : WT σ2 → RR g M F zF (pc + 3) ls (.int v :: rest) σ2) : RR g M F zF pc ls (.int a1 :: .ref (ad g 73) :: rest) σ :=
  r_callV (z := zF) (N := mX8_turn) (nn := 1) (o1 := some (.int v)) (sX8_turn hf ) (rfl : shp 73 = (8, 0)) (by decide) (shp_le (rfl : shp 73 = (8, 0)) (nle rfl)) (ci := 8) rfl rfl tw_6_198 tw_1_10 hl tw_6_196 tw_6_197 ⟨by decide, by decide, rfl⟩ hR rfl hrest hd ⟨Nat.zero_le _, Nat.zero_le _⟩ rfl (fun h => k (h rfl))

theorem dX6_takeAll_0 : decode cX6_takeAll 0 = .ok (.aload_n 0, 1) := by decide +kernel
theorem dX6_takeAll_1 : decode cX6_takeAll 1 = .ok (.aload_n 1, 1) := by decide +kernel
theorem dX6_takeAll_2 : decode cX6_takeAll 2 = .ok (.getfield 18, 3) := by decide +kernel
theorem dX6_takeAll_5 : decode cX6_takeAll 5 = .ok (.putfield 18, 3) := by decide +kernel
theorem dX6_takeAll_8 : decode cX6_takeAll 8 = .ok (.aload_n 0, 1) := by decide +kernel
theorem dX6_takeAll_9 : decode cX6_takeAll 9 = .ok (.aload_n 1, 1) := by decide +kernel
theorem dX6_takeAll_10 : decode cX6_takeAll 10 = .ok (.getfield 22, 3) := by decide +kernel
theorem dX6_takeAll_13 : decode cX6_takeAll 13 = .ok (.putfield 22, 3) := by decide +kernel
theorem dX6_takeAll_16 : decode cX6_takeAll 16 = .ok (.aload_n 1, 1) := by decide +kernel
theorem dX6_takeAll_17 : decode cX6_takeAll 17 = .ok (.getfield 9, 3) := by decide +kernel
theorem dX6_takeAll_20 : decode cX6_takeAll 20 = .ok (.iconst 0, 1) := by decide +kernel
theorem dX6_takeAll_21 : decode cX6_takeAll 21 = .ok (.aload_n 0, 1) := by decide +kernel
theorem dX6_takeAll_22 : decode cX6_takeAll 22 = .ok (.getfield 9, 3) := by decide +kernel
theorem dX6_takeAll_25 : decode cX6_takeAll 25 = .ok (.iconst 0, 1) := by decide +kernel
theorem dX6_takeAll_26 : decode cX6_takeAll 26 = .ok (.sipush 1600, 3) := by decide +kernel
theorem dX6_takeAll_29 : decode cX6_takeAll 29 = .ok (.invokestatic 39, 3) := by decide +kernel
theorem dX6_takeAll_32 : decode cX6_takeAll 32 = .ok (.return_, 1) := by decide +kernel
def mX6_takeAll : MM := (yX6_takeAll, cX6_takeAll, 2, none, { frames := 1, cells := 0, slots := 0, locals := 26 })
def fX6_takeAll (σ : SS) (a0 : Nat) (a1 : Nat) : Option SS :=
  vthen (sI σ a0 0 (gI σ a1 0)) fun σ1 =>
  vthen (sI σ1 a0 1 (gI σ1 a1 1)) fun σ2 =>
  grd (cpOK (0 : Int32) (0 : Int32) (1600 : Int32) 1600 1600) <|
  vthen (cpA σ2 (a1 + 1) (0 : Int32) (a0 + 1) (0 : Int32) (1600 : Int32)) fun σ3 =>
  some σ3

set_option maxRecDepth 20000 in
theorem sX6_takeAll {g : GG} {σ : SS} {a0 : Nat} {a1 : Nat} {r : SS} (hr : fX6_takeAll σ a0 a1 = some r) (hs0 : shp a0 = (6, 0)) (hs1 : shp a1 = (6, 0)) : Ct g mX6_takeAll [.ref (ad g a0), .ref (ad g a1)] NF σ none NF r := by
  refine Ct.of (by decide +kernel) (nle rfl) fun hw0 => ?_
  have hw := hw0 rfl
  unfold fX6_takeAll at hr
  change RR g mX6_takeAll (FinR g mX6_takeAll none NF r) zF 0 [(0, .ref (ad g a0)), (1, .ref (ad g a1))] [] σ
  refine r_aload_n (pc := 0) (j := 0) dX6_takeAll_0 rfl rfl ?_
  refine r_aload_n (pc := 1) (j := 1) dX6_takeAll_1 rfl rfl ?_
  refine gf6_0 (pc := 2) tw_1_32 hs1 dX6_takeAll_2 ?_
  refine pf6_0 (pc := 5) tw_1_32 hs0 dX6_takeAll_5 fun σ1 eσ1 => ?_
  replace hr := vthen_inv hr σ1 eσ1
  have hσ1 := wtI eσ1 hw
  refine r_aload_n (pc := 8) (j := 0) dX6_takeAll_8 rfl rfl ?_
  refine r_aload_n (pc := 9) (j := 1) dX6_takeAll_9 rfl rfl ?_
  refine gf6_1 (pc := 10) tw_1_37 hs1 dX6_takeAll_10 ?_
  refine pf6_1 (pc := 13) tw_1_37 hs0 dX6_takeAll_13 fun σ2 eσ2 => ?_
  replace hr := vthen_inv hr σ2 eσ2
  have hσ2 := wtI eσ2 hσ1
  refine r_aload_n (pc := 16) (j := 1) dX6_takeAll_16 rfl rfl ?_
  refine gf6_2 (pc := 17) tw_1_39 hσ2 hs1 dX6_takeAll_17 ?_
  refine r_iconst (pc := 20) (v := (0 : Int32)) dX6_takeAll_20 rfl ?_
  refine r_aload_n (pc := 21) (j := 0) dX6_takeAll_21 rfl rfl ?_
  refine gf6_2 (pc := 22) tw_1_39 hσ2 hs0 dX6_takeAll_22 ?_
  refine r_iconst (pc := 25) (v := (0 : Int32)) dX6_takeAll_25 rfl ?_
  refine r_sipush (pc := 26) (v := (1600 : Int32)) dX6_takeAll_26 rfl ?_
  obtain ⟨h4, hr⟩ := grd_inv hr
  refine x_cpy (pc := 29) (sh6_2 hs1) (sh6_2 hs0) h4 tw_3_175 ⟨nle rfl, nle rfl⟩ (nle rfl) dX6_takeAll_29 fun σ3 eσ3 => ?_
  replace hr := vthen_inv hr σ3 eσ3
  have hσ3 := wtA eσ3 hσ2
  exact l_ov hr (r_vret (pc := 32) rfl rfl ⟨Nat.le_refl _, Nat.le_refl _⟩ dX6_takeAll_32)

theorem kX6_takeAll {g : GG} {σ : SS} {a0 : Nat} {a1 : Nat} {σ2 : SS} {M : MM} {F : State → Array Value → List Frame → State → Prop} {pc index : Nat} {ls : List (Nat × Value)} {rest : List Value} (hf : fX6_takeAll σ a0 a1 = some σ2) (hs0 : shp a0 = (6, 0)) (hs1 : shp a1 = (6, 0)) (hl : Cond.methodLink M.1.cls index yX6_takeAll ∈ lw_gt) (hR : mX6_takeAll.2.2.2.2.frames + 1 ≤ M.2.2.2.2.frames ∧ 8 + (mX6_takeAll.2.2.1 + 11) + mX6_takeAll.2.2.2.2.locals ≤ M.2.2.2.2.locals) (hrest : (rest.map fun v => v.category).sum ≤ 8) (hd : decode M.2.1 pc = .ok (.invokevirtual index, 3)) (k : WT σ2 → RR g M F zF (pc + 3) ls rest σ2) : RR g M F zF pc ls (.ref (ad g a1) :: .ref (ad g a0) :: rest) σ :=
  r_callV (z := zF) (N := mX6_takeAll) (nn := 1) (o1 := none) (sX6_takeAll hf hs0 hs1) hs0 (by decide) (shp_le hs0 (nle rfl)) (ci := 6) rfl rfl tw_3_174 tw_1_2 hl tw_3_172 tw_3_173 ⟨by decide, by decide, rfl⟩ hR rfl hrest hd ⟨Nat.zero_le _, Nat.zero_le _⟩ rfl (fun h => k (h rfl))

theorem dX6_unlikeDots_0 : decode cX6_unlikeDots 0 = .ok (.iconst 0, 1) := by decide +kernel
theorem dX6_unlikeDots_1 : decode cX6_unlikeDots 1 = .ok (.istore_n 2, 1) := by decide +kernel
theorem dX6_unlikeDots_2 : decode cX6_unlikeDots 2 = .ok (.iconst 0, 1) := by decide +kernel
theorem dX6_unlikeDots_3 : decode cX6_unlikeDots 3 = .ok (.istore_n 3, 1) := by decide +kernel
theorem dX6_unlikeDots_4 : decode cX6_unlikeDots 4 = .ok (.iload_n 3, 1) := by decide +kernel
theorem dX6_unlikeDots_5 : decode cX6_unlikeDots 5 = .ok (.aload_n 0, 1) := by decide +kernel
theorem dX6_unlikeDots_6 : decode cX6_unlikeDots 6 = .ok (.getfield 18, 3) := by decide +kernel
theorem dX6_unlikeDots_9 : decode cX6_unlikeDots 9 = .ok (.aload_n 0, 1) := by decide +kernel
theorem dX6_unlikeDots_10 : decode cX6_unlikeDots 10 = .ok (.getfield 22, 3) := by decide +kernel
theorem dX6_unlikeDots_13 : decode cX6_unlikeDots 13 = .ok (.imul, 1) := by decide +kernel
theorem dX6_unlikeDots_14 : decode cX6_unlikeDots 14 = .ok (.if_icmp .ge 27, 3) := by decide +kernel
theorem dX6_unlikeDots_17 : decode cX6_unlikeDots 17 = .ok (.aload_n 0, 1) := by decide +kernel
theorem dX6_unlikeDots_18 : decode cX6_unlikeDots 18 = .ok (.getfield 9, 3) := by decide +kernel
theorem dX6_unlikeDots_21 : decode cX6_unlikeDots 21 = .ok (.iload_n 3, 1) := by decide +kernel
theorem dX6_unlikeDots_22 : decode cX6_unlikeDots 22 = .ok (.iaload, 1) := by decide +kernel
theorem dX6_unlikeDots_23 : decode cX6_unlikeDots 23 = .ok (.aload_n 1, 1) := by decide +kernel
theorem dX6_unlikeDots_24 : decode cX6_unlikeDots 24 = .ok (.getfield 9, 3) := by decide +kernel
theorem dX6_unlikeDots_27 : decode cX6_unlikeDots 27 = .ok (.iload_n 3, 1) := by decide +kernel
theorem dX6_unlikeDots_28 : decode cX6_unlikeDots 28 = .ok (.iaload, 1) := by decide +kernel
theorem dX6_unlikeDots_29 : decode cX6_unlikeDots 29 = .ok (.if_icmp .eq 6, 3) := by decide +kernel
theorem dX6_unlikeDots_32 : decode cX6_unlikeDots 32 = .ok (.iinc 2 1, 3) := by decide +kernel
theorem dX6_unlikeDots_35 : decode cX6_unlikeDots 35 = .ok (.iinc 3 1, 3) := by decide +kernel
theorem dX6_unlikeDots_38 : decode cX6_unlikeDots 38 = .ok (.goto (-34), 3) := by decide +kernel
theorem dX6_unlikeDots_41 : decode cX6_unlikeDots 41 = .ok (.iload_n 2, 1) := by decide +kernel
theorem dX6_unlikeDots_42 : decode cX6_unlikeDots 42 = .ok (.ireturn, 1) := by decide +kernel
def mX6_unlikeDots : MM := (yX6_unlikeDots, cX6_unlikeDots, 4, Option.some Jvm.ClassFile.FieldType.int, { frames := 0, cells := 0, slots := 0, locals := 0 })
def X6_unlikeDots_L4 (σ_ : SS) (o0_ : Nat) (o1_ : Nat)  : Nat → Int32 → Int32 → Option Int32 :=
  lp (fun _ _ => none) fun rec v2_ v3_ =>
    if ((gI σ_ o0_ 0) * (gI σ_ o0_ 1)) ≤ v3_ then (
      some v2_
      ) else (
      grd (inb v3_ 1600) <|
      if (gI σ_ (o0_ + 1) (Int32.toNatClampNeg v3_)) = (gI σ_ (o1_ + 1) (Int32.toNatClampNeg v3_)) then (
        rec v2_ (v3_ + (1 : Int32))
        ) else (
        rec (v2_ + (1 : Int32)) (v3_ + (1 : Int32))
        )
      )

def fX6_unlikeDots (σ0 : SS) (a0 : Nat) (a1 : Nat) : Option Int32 :=
  X6_unlikeDots_L4 σ0 a0 a1
  fuel (0 : Int32) (0 : Int32)

set_option maxRecDepth 20000 in
theorem sX6_unlikeDots_L4 {g : GG} {r : Int32} {σ_ : SS} {σ0 : SS} {o0_ : Nat} {o1_ : Nat}  (hs0_ : shp o0_ = (6, 0)) (hs1_ : shp o1_ = (6, 0))
    (hw_ : WT σ_)
    (h0_ : σ_ = σ0)
    (n : Nat) : ∀ (v2_ : Int32) (v3_ : Int32), X6_unlikeDots_L4 σ_ o0_ o1_ n v2_ v3_ = some r → RR g mX6_unlikeDots (FinR g mX6_unlikeDots (some (.int r)) NF σ0) zF 4 [(0, .ref (ad g o0_)), (1, .ref (ad g o1_)), (2, .int v2_), (3, .int v3_)] [] σ_ := by
  unfold X6_unlikeDots_L4
  refine lp_ind (P := fun (rec : Int32 → Int32 → Option Int32) => ∀ (v2_ : Int32) (v3_ : Int32), rec v2_ v3_ = some r → RR g mX6_unlikeDots (FinR g mX6_unlikeDots (some (.int r)) NF σ0) zF 4 [(0, .ref (ad g o0_)), (1, .ref (ad g o1_)), (2, .int v2_), (3, .int v3_)] [] σ_) ?_ ?_ n
  · intro v2_ v3_ hr; cases hr
  intro rec ih v2_ v3_ hr
  subst h0_
  refine r_iload_n (pc := 4) (j := 3) dX6_unlikeDots_4 rfl rfl ?_
  refine r_aload_n (pc := 5) (j := 0) dX6_unlikeDots_5 rfl rfl ?_
  refine gf6_0 (pc := 6) tw_1_32 hs0_ dX6_unlikeDots_6 ?_
  refine r_aload_n (pc := 9) (j := 0) dX6_unlikeDots_9 rfl rfl ?_
  refine gf6_1 (pc := 10) tw_1_37 hs0_ dX6_unlikeDots_10 ?_
  refine r_imul (pc := 13) dX6_unlikeDots_13 ?_
  refine r_icmp_ge (pc := 14) (tgt := 41) dX6_unlikeDots_14 rfl (fun hc => ?_) (fun hc => ?_)
  · replace hr := ite_t hc hr
    refine r_iload_n (pc := 41) (j := 2) dX6_unlikeDots_41 rfl rfl ?_
    exact l_opi hr (r_iret (pc := 42) (v := v2_) rfl rfl ⟨Nat.le_refl _, Nat.le_refl _⟩ dX6_unlikeDots_42)
  replace hr := ite_f hc hr
  refine r_aload_n (pc := 17) (j := 0) dX6_unlikeDots_17 rfl rfl ?_
  refine gf6_2 (pc := 18) tw_1_39 hw_ hs0_ dX6_unlikeDots_18 ?_
  refine r_iload_n (pc := 21) (j := 3) dX6_unlikeDots_21 rfl rfl ?_
  obtain ⟨h1, hr⟩ := grd_inv hr
  refine x_iald (pc := 22) (k := (Int32.toNatClampNeg v3_)) (sh6_2 hs0_) h1 rfl dX6_unlikeDots_22 ?_
  refine r_aload_n (pc := 23) (j := 1) dX6_unlikeDots_23 rfl rfl ?_
  refine gf6_2 (pc := 24) tw_1_39 hw_ hs1_ dX6_unlikeDots_24 ?_
  refine r_iload_n (pc := 27) (j := 3) dX6_unlikeDots_27 rfl rfl ?_
  refine x_iald (pc := 28) (k := (Int32.toNatClampNeg v3_)) (sh6_2 hs1_) h1 rfl dX6_unlikeDots_28 ?_
  refine r_icmp_eq (pc := 29) (tgt := 35) dX6_unlikeDots_29 rfl (fun hc => ?_) (fun hc => ?_)
  · replace hr := ite_t hc hr
    refine r_iinc (pc := 35) (j := 3) (v := (v3_ + (1 : Int32))) (ls1 := [(3, .int (v3_ + (1 : Int32))), (0, .ref (ad g o0_)), (1, .ref (ad g o1_)), (2, .int v2_)]) dX6_unlikeDots_35 rfl rfl (nle rfl) rfl ?_
    refine r_goto (pc := 38) (tgt := 4) dX6_unlikeDots_38 rfl ?_
    exact r_pick (ls1 := [(0, .ref (ad g o0_)), (1, .ref (ad g o1_)), (2, .int v2_), (3, .int (v3_ + (1 : Int32)))]) [1, 2, 3, 0] rfl (ih v2_ (v3_ + (1 : Int32)) hr)
  replace hr := ite_f hc hr
  refine r_iinc (pc := 32) (j := 2) (v := (v2_ + (1 : Int32))) (ls1 := [(2, .int (v2_ + (1 : Int32))), (0, .ref (ad g o0_)), (1, .ref (ad g o1_)), (3, .int v3_)]) dX6_unlikeDots_32 rfl rfl (nle rfl) rfl ?_
  refine r_iinc (pc := 35) (j := 3) (v := (v3_ + (1 : Int32))) (ls1 := [(3, .int (v3_ + (1 : Int32))), (2, .int (v2_ + (1 : Int32))), (0, .ref (ad g o0_)), (1, .ref (ad g o1_))]) dX6_unlikeDots_35 rfl rfl (nle rfl) rfl ?_
  refine r_goto (pc := 38) (tgt := 4) dX6_unlikeDots_38 rfl ?_
  exact r_pick (ls1 := [(0, .ref (ad g o0_)), (1, .ref (ad g o1_)), (2, .int (v2_ + (1 : Int32))), (3, .int (v3_ + (1 : Int32)))]) [2, 3, 1, 0] rfl (ih (v2_ + (1 : Int32)) (v3_ + (1 : Int32)) hr)

set_option maxRecDepth 20000 in
theorem sX6_unlikeDots {g : GG} {σ0 : SS} {a0 : Nat} {a1 : Nat} {r : Int32} (hr : fX6_unlikeDots σ0 a0 a1 = some r) (hs0 : shp a0 = (6, 0)) (hs1 : shp a1 = (6, 0)) : Ct g mX6_unlikeDots [.ref (ad g a0), .ref (ad g a1)] NF σ0 (some (.int r)) NF σ0 := by
  refine Ct.of (by decide +kernel) (nle rfl) fun hw0 => ?_
  have hw := hw0 rfl
  unfold fX6_unlikeDots at hr
  change RR g mX6_unlikeDots (FinR g mX6_unlikeDots (some (.int r)) NF σ0) zF 0 [(0, .ref (ad g a0)), (1, .ref (ad g a1))] [] σ0
  refine r_iconst (pc := 0) (v := (0 : Int32)) dX6_unlikeDots_0 rfl ?_
  refine r_istore_n (pc := 1) (ls1 := [(2, .int (0 : Int32)), (0, .ref (ad g a0)), (1, .ref (ad g a1))]) dX6_unlikeDots_1 rfl (nle rfl) rfl ?_
  refine r_iconst (pc := 2) (v := (0 : Int32)) dX6_unlikeDots_2 rfl ?_
  refine r_istore_n (pc := 3) (ls1 := [(3, .int (0 : Int32)), (2, .int (0 : Int32)), (0, .ref (ad g a0)), (1, .ref (ad g a1))]) dX6_unlikeDots_3 rfl (nle rfl) rfl ?_
  refine r_pick (ls1 := [(0, .ref (ad g a0)), (1, .ref (ad g a1)), (2, .int (0 : Int32)), (3, .int (0 : Int32))]) [2, 3, 1, 0] rfl ?_
  refine sX6_unlikeDots_L4 hs0 hs1 hw rfl  fuel (0 : Int32) (0 : Int32) hr

theorem kX6_unlikeDots {g : GG} {σ0 : SS} {a0 : Nat} {a1 : Nat} {v : Int32} {M : MM} {F : State → Array Value → List Frame → State → Prop} {pc index : Nat} {ls : List (Nat × Value)} {rest : List Value} (hf : fX6_unlikeDots σ0 a0 a1 = some v) (hs0 : shp a0 = (6, 0)) (hs1 : shp a1 = (6, 0)) (hl : Cond.methodLink M.1.cls index yX6_unlikeDots ∈ lw_gt) (hR : mX6_unlikeDots.2.2.2.2.frames + 1 ≤ M.2.2.2.2.frames ∧ 8 + (mX6_unlikeDots.2.2.1 + 11) + mX6_unlikeDots.2.2.2.2.locals ≤ M.2.2.2.2.locals) (hrest : (rest.map fun v => v.category).sum ≤ 8) (hd : decode M.2.1 pc = .ok (.invokevirtual index, 3)) (k : RR g M F zF (pc + 3) ls (.int v :: rest) σ0) : RR g M F zF pc ls (.ref (ad g a1) :: .ref (ad g a0) :: rest) σ0 :=
  r_callV (z := zF) (N := mX6_unlikeDots) (nn := 1) (o1 := some (.int v)) (sX6_unlikeDots hf hs0 hs1) hs0 (by decide) (shp_le hs0 (nle rfl)) (ci := 6) rfl rfl tw_3_183 tw_1_2 hl tw_3_181 tw_3_182 ⟨by decide, by decide, rfl⟩ hR rfl hrest hd ⟨Nat.zero_le _, Nat.zero_le _⟩ rfl (fun h => k)

theorem dX7_takeSpare_0 : decode cX7_takeSpare 0 = .ok (.aload_n 0, 1) := by decide +kernel
theorem dX7_takeSpare_1 : decode cX7_takeSpare 1 = .ok (.getfield 18, 3) := by decide +kernel
theorem dX7_takeSpare_4 : decode cX7_takeSpare 4 = .ok (.aload_n 0, 1) := by decide +kernel
theorem dX7_takeSpare_5 : decode cX7_takeSpare 5 = .ok (.getfield 22, 3) := by decide +kernel
theorem dX7_takeSpare_8 : decode cX7_takeSpare 8 = .ok (.invokevirtual 406, 3) := by decide +kernel
theorem dX7_takeSpare_11 : decode cX7_takeSpare 11 = .ok (.istore_n 1, 1) := by decide +kernel
theorem dX7_takeSpare_12 : decode cX7_takeSpare 12 = .ok (.aload_n 0, 1) := by decide +kernel
theorem dX7_takeSpare_13 : decode cX7_takeSpare 13 = .ok (.invokevirtual 187, 3) := by decide +kernel
theorem dX7_takeSpare_16 : decode cX7_takeSpare 16 = .ok (.iload_n 1, 1) := by decide +kernel
theorem dX7_takeSpare_17 : decode cX7_takeSpare 17 = .ok (.ireturn, 1) := by decide +kernel
def mX7_takeSpare : MM := (yX7_takeSpare, cX7_takeSpare, 2, Option.some Jvm.ClassFile.FieldType.int, { frames := 1, cells := 0, slots := 0, locals := 23 })
def fX7_takeSpare (σ : SS)  : Option (Int32 × SS) :=
  bnd1 (fX6_unlikeDots σ (gR σ 1 2) (gR σ 1 3)) fun v1 =>
  bnd1 (fX7_swapScans σ) fun σ4 =>
  some (v1, σ4)

set_option maxRecDepth 20000 in
theorem sX7_takeSpare {g : GG} {σ : SS}  {r : Int32 × SS} (hr : fX7_takeSpare σ = some r)  : Ct g mX7_takeSpare [.ref (ad g 1)] NF σ (some (.int r.1)) NF r.2 := by
  refine Ct.of (by decide +kernel) (nle rfl) fun hw0 => ?_
  have hw := hw0 rfl
  unfold fX7_takeSpare at hr
  change RR g mX7_takeSpare (FinR g mX7_takeSpare (some (.int r.1)) NF r.2) zF 0 [(0, .ref (ad g 1))] [] σ
  refine r_aload_n (pc := 0) (j := 0) dX7_takeSpare_0 rfl rfl ?_
  refine gf7_2 (pc := 1) tw_2_111 hw dX7_takeSpare_1 ?_
  refine r_aload_n (pc := 4) (j := 0) dX7_takeSpare_4 rfl rfl ?_
  refine gf7_3 (pc := 5) tw_2_112 hw dX7_takeSpare_5 ?_
  obtain ⟨v1, hv1, hr⟩ := bnd1_inv hr
  refine kX6_unlikeDots (pc := 8) hv1 (wt_sc hw).1 (wt_sp hw).1 tw_3_180 ⟨nle rfl, nle rfl⟩ (nle rfl) dX7_takeSpare_8 ?_
  refine r_istore_n (pc := 11) (ls1 := [(1, .int v1), (0, .ref (ad g 1))]) dX7_takeSpare_11 rfl (nle rfl) rfl ?_
  refine r_aload_n (pc := 12) (j := 1) dX7_takeSpare_12 rfl rfl ?_
  obtain ⟨σ4, eσ4, hr⟩ := bnd1_inv hr
  refine kX7_swapScans (pc := 13) eσ4 tw_3_163 ⟨nle rfl, nle rfl⟩ (nle rfl) dX7_takeSpare_13 fun hσ4 => ?_
  refine r_iload_n (pc := 16) (j := 0) dX7_takeSpare_16 rfl rfl ?_
  exact l_osi hr (r_iret (pc := 17) (v := v1) rfl rfl ⟨Nat.le_refl _, Nat.le_refl _⟩ dX7_takeSpare_17)

theorem kX7_takeSpare {g : GG} {σ : SS}  {v : Int32} {σ2 : SS} {M : MM} {F : State → Array Value → List Frame → State → Prop} {pc index : Nat} {ls : List (Nat × Value)} {rest : List Value} (hf : fX7_takeSpare σ = some (v, σ2))  (hl : Cond.methodLink M.1.cls index yX7_takeSpare ∈ lw_gt) (hR : mX7_takeSpare.2.2.2.2.frames + 1 ≤ M.2.2.2.2.frames ∧ 8 + (mX7_takeSpare.2.2.1 + 11) + mX7_takeSpare.2.2.2.2.locals ≤ M.2.2.2.2.locals) (hrest : (rest.map fun v => v.category).sum ≤ 8) (hd : decode M.2.1 pc = .ok (.invokevirtual index, 3)) (k : WT σ2 → RR g M F zF (pc + 3) ls (.int v :: rest) σ2) : RR g M F zF pc ls (.ref (ad g 1) :: rest) σ :=
  r_callV (z := zF) (N := mX7_takeSpare) (nn := 0) (o1 := some (.int v)) (sX7_takeSpare hf ) (rfl : shp 1 = (7, 0)) (by decide) (shp_le (rfl : shp 1 = (7, 0)) (nle rfl)) (ci := 7) rfl rfl tw_3_179 tw_1_1 hl tw_3_178 tp_18 ⟨by decide, by decide, rfl⟩ hR rfl hrest hd ⟨Nat.zero_le _, Nat.zero_le _⟩ rfl (fun h => k (h rfl))

theorem dX7_copy_0 : decode cX7_copy 0 = .ok (.iload_n 3, 1) := by decide +kernel
theorem dX7_copy_1 : decode cX7_copy 1 = .ok (.iload 4, 2) := by decide +kernel
theorem dX7_copy_3 : decode cX7_copy 3 = .ok (.invokestatic 161, 3) := by decide +kernel
theorem dX7_copy_6 : decode cX7_copy 6 = .ok (.ifCond .eq 29, 3) := by decide +kernel
theorem dX7_copy_9 : decode cX7_copy 9 = .ok (.aload_n 0, 1) := by decide +kernel
theorem dX7_copy_10 : decode cX7_copy 10 = .ok (.getfield 18, 3) := by decide +kernel
theorem dX7_copy_13 : decode cX7_copy 13 = .ok (.iload_n 1, 1) := by decide +kernel
theorem dX7_copy_14 : decode cX7_copy 14 = .ok (.iload_n 2, 1) := by decide +kernel
theorem dX7_copy_15 : decode cX7_copy 15 = .ok (.invokevirtual 164, 3) := by decide +kernel
theorem dX7_copy_18 : decode cX7_copy 18 = .ok (.ifCond .eq 17, 3) := by decide +kernel
theorem dX7_copy_21 : decode cX7_copy 21 = .ok (.aload_n 0, 1) := by decide +kernel
theorem dX7_copy_22 : decode cX7_copy 22 = .ok (.getfield 18, 3) := by decide +kernel
theorem dX7_copy_25 : decode cX7_copy 25 = .ok (.iload 5, 2) := by decide +kernel
theorem dX7_copy_27 : decode cX7_copy 27 = .ok (.iload 6, 2) := by decide +kernel
theorem dX7_copy_29 : decode cX7_copy 29 = .ok (.invokevirtual 164, 3) := by decide +kernel
theorem dX7_copy_32 : decode cX7_copy 32 = .ok (.ifCond .ne 5, 3) := by decide +kernel
theorem dX7_copy_35 : decode cX7_copy 35 = .ok (.iconst (-1), 1) := by decide +kernel
theorem dX7_copy_36 : decode cX7_copy 36 = .ok (.ireturn, 1) := by decide +kernel
theorem dX7_copy_37 : decode cX7_copy 37 = .ok (.aload_n 0, 1) := by decide +kernel
theorem dX7_copy_38 : decode cX7_copy 38 = .ok (.getfield 22, 3) := by decide +kernel
theorem dX7_copy_41 : decode cX7_copy 41 = .ok (.aload_n 0, 1) := by decide +kernel
theorem dX7_copy_42 : decode cX7_copy 42 = .ok (.getfield 18, 3) := by decide +kernel
theorem dX7_copy_45 : decode cX7_copy 45 = .ok (.invokevirtual 190, 3) := by decide +kernel
theorem dX7_copy_48 : decode cX7_copy 48 = .ok (.iload_n 3, 1) := by decide +kernel
theorem dX7_copy_49 : decode cX7_copy 49 = .ok (.aload_n 0, 1) := by decide +kernel
theorem dX7_copy_50 : decode cX7_copy 50 = .ok (.getfield 18, 3) := by decide +kernel
theorem dX7_copy_53 : decode cX7_copy 53 = .ok (.getfield 100, 3) := by decide +kernel
theorem dX7_copy_56 : decode cX7_copy 56 = .ok (.iload_n 1, 1) := by decide +kernel
theorem dX7_copy_57 : decode cX7_copy 57 = .ok (.iload 5, 2) := by decide +kernel
theorem dX7_copy_59 : decode cX7_copy 59 = .ok (.invokestatic 179, 3) := by decide +kernel
theorem dX7_copy_62 : decode cX7_copy 62 = .ok (.isub, 1) := by decide +kernel
theorem dX7_copy_63 : decode cX7_copy 63 = .ok (.invokestatic 167, 3) := by decide +kernel
theorem dX7_copy_66 : decode cX7_copy 66 = .ok (.istore 7, 2) := by decide +kernel
theorem dX7_copy_68 : decode cX7_copy 68 = .ok (.iload 4, 2) := by decide +kernel
theorem dX7_copy_70 : decode cX7_copy 70 = .ok (.aload_n 0, 1) := by decide +kernel
theorem dX7_copy_71 : decode cX7_copy 71 = .ok (.getfield 18, 3) := by decide +kernel
theorem dX7_copy_74 : decode cX7_copy 74 = .ok (.getfield 103, 3) := by decide +kernel
theorem dX7_copy_77 : decode cX7_copy 77 = .ok (.iload_n 2, 1) := by decide +kernel
theorem dX7_copy_78 : decode cX7_copy 78 = .ok (.iload 6, 2) := by decide +kernel
theorem dX7_copy_80 : decode cX7_copy 80 = .ok (.invokestatic 179, 3) := by decide +kernel
theorem dX7_copy_83 : decode cX7_copy 83 = .ok (.isub, 1) := by decide +kernel
theorem dX7_copy_84 : decode cX7_copy 84 = .ok (.invokestatic 167, 3) := by decide +kernel
theorem dX7_copy_87 : decode cX7_copy 87 = .ok (.istore 8, 2) := by decide +kernel
theorem dX7_copy_89 : decode cX7_copy 89 = .ok (.iconst 0, 1) := by decide +kernel
theorem dX7_copy_90 : decode cX7_copy 90 = .ok (.istore 9, 2) := by decide +kernel
theorem dX7_copy_92 : decode cX7_copy 92 = .ok (.iload 9, 2) := by decide +kernel
theorem dX7_copy_94 : decode cX7_copy 94 = .ok (.iload 8, 2) := by decide +kernel
theorem dX7_copy_96 : decode cX7_copy 96 = .ok (.if_icmp .ge 58, 3) := by decide +kernel
theorem dX7_copy_99 : decode cX7_copy 99 = .ok (.iconst 0, 1) := by decide +kernel
theorem dX7_copy_100 : decode cX7_copy 100 = .ok (.istore 10, 2) := by decide +kernel
theorem dX7_copy_102 : decode cX7_copy 102 = .ok (.iload 10, 2) := by decide +kernel
theorem dX7_copy_104 : decode cX7_copy 104 = .ok (.iload 7, 2) := by decide +kernel
theorem dX7_copy_106 : decode cX7_copy 106 = .ok (.if_icmp .ge 42, 3) := by decide +kernel
theorem dX7_copy_109 : decode cX7_copy 109 = .ok (.aload_n 0, 1) := by decide +kernel
theorem dX7_copy_110 : decode cX7_copy 110 = .ok (.getfield 22, 3) := by decide +kernel
theorem dX7_copy_113 : decode cX7_copy 113 = .ok (.iload 5, 2) := by decide +kernel
theorem dX7_copy_115 : decode cX7_copy 115 = .ok (.iload 10, 2) := by decide +kernel
theorem dX7_copy_117 : decode cX7_copy 117 = .ok (.iadd, 1) := by decide +kernel
theorem dX7_copy_118 : decode cX7_copy 118 = .ok (.iload 6, 2) := by decide +kernel
theorem dX7_copy_120 : decode cX7_copy 120 = .ok (.iload 9, 2) := by decide +kernel
theorem dX7_copy_122 : decode cX7_copy 122 = .ok (.iadd, 1) := by decide +kernel
theorem dX7_copy_123 : decode cX7_copy 123 = .ok (.aload_n 0, 1) := by decide +kernel
theorem dX7_copy_124 : decode cX7_copy 124 = .ok (.getfield 18, 3) := by decide +kernel
theorem dX7_copy_127 : decode cX7_copy 127 = .ok (.iload_n 1, 1) := by decide +kernel
theorem dX7_copy_128 : decode cX7_copy 128 = .ok (.iload 10, 2) := by decide +kernel
theorem dX7_copy_130 : decode cX7_copy 130 = .ok (.iadd, 1) := by decide +kernel
theorem dX7_copy_131 : decode cX7_copy 131 = .ok (.iload_n 2, 1) := by decide +kernel
theorem dX7_copy_132 : decode cX7_copy 132 = .ok (.iload 9, 2) := by decide +kernel
theorem dX7_copy_134 : decode cX7_copy 134 = .ok (.iadd, 1) := by decide +kernel
theorem dX7_copy_135 : decode cX7_copy 135 = .ok (.invokevirtual 173, 3) := by decide +kernel
theorem dX7_copy_138 : decode cX7_copy 138 = .ok (.invokevirtual 157, 3) := by decide +kernel
theorem dX7_copy_141 : decode cX7_copy 141 = .ok (.pop, 1) := by decide +kernel
theorem dX7_copy_142 : decode cX7_copy 142 = .ok (.iinc 10 1, 3) := by decide +kernel
theorem dX7_copy_145 : decode cX7_copy 145 = .ok (.goto (-43), 3) := by decide +kernel
theorem dX7_copy_148 : decode cX7_copy 148 = .ok (.iinc 9 1, 3) := by decide +kernel
theorem dX7_copy_151 : decode cX7_copy 151 = .ok (.goto (-59), 3) := by decide +kernel
theorem dX7_copy_154 : decode cX7_copy 154 = .ok (.aload_n 0, 1) := by decide +kernel
theorem dX7_copy_155 : decode cX7_copy 155 = .ok (.invokevirtual 194, 3) := by decide +kernel
theorem dX7_copy_158 : decode cX7_copy 158 = .ok (.ireturn, 1) := by decide +kernel
def mX7_copy : MM := (yX7_copy, cX7_copy, 11, Option.some Jvm.ClassFile.FieldType.int, { frames := 2, cells := 0, slots := 0, locals := 47 })
def X7_copy_L102 (u1_ : Int32) (u2_ : Int32) (u5_ : Int32) (u6_ : Int32) (u7_ : Int32) (u9_ : Int32) (k148 : SS → Option (Int32 × SS)) : Nat → Int32 → SS → Option (Int32 × SS) :=
  lp (fun _ _ => none) fun rec v10_ σ_ =>
    if u7_ ≤ v10_ then (
      k148 σ_
      ) else (
      bnd1 (fX6_at σ_ (gR σ_ 1 2) (u1_ + v10_) (u2_ + u9_)) fun v8 =>
      bnd (fX6_put σ_ (gR σ_ 1 3) (u5_ + v10_) (u6_ + u9_) v8) fun b12 σ14 =>
      rec (v10_ + (1 : Int32)) σ14
      )

def X7_copy_L92 (u1_ : Int32) (u2_ : Int32) (u5_ : Int32) (u6_ : Int32) (u7_ : Int32) (u8_ : Int32)  : Nat → Int32 → SS → Option (Int32 × SS) :=
  lp (fun _ _ => none) fun rec v9_ σ_ =>
    if u8_ ≤ v9_ then (
      bnd (fX7_takeSpare σ_) fun v4 σ7 =>
      some (v4, σ7)
      ) else (
      X7_copy_L102 u1_ u2_ u5_ u6_ u7_ v9_
      (fun σ15 =>
        rec (v9_ + (1 : Int32)) σ15
        )
      fuel (0 : Int32) σ_
      )

def fX7_copy (σ : SS) (a1 : Int32) (a2 : Int32) (a3 : Int32) (a4 : Int32) (a5 : Int32) (a6 : Int32) : Option (Int32 × SS) :=
  if (fX7_isPiece σ a3 a4) = true then (
    if (fX6_has σ (gR σ 1 2) a1 a2) = true then (
      if (fX6_has σ (gR σ 1 2) a5 a6) = true then (
        bnd1 (fX6_takeAll σ (gR σ 1 3) (gR σ 1 2)) fun σ1 =>
        vthen (fJ9_min_7cf53 σ1 a3 ((gI σ1 (gR σ1 1 2) 0) - (fJ9_max_7cf53 σ1 a1 a5))) fun v2 =>
        vthen (fJ9_min_7cf53 σ1 a4 ((gI σ1 (gR σ1 1 2) 1) - (fJ9_max_7cf53 σ1 a2 a6))) fun v3 =>
        X7_copy_L92 a1 a2 a5 a6 v2 v3
        fuel (0 : Int32) σ1
        ) else (
        some ((-1 : Int32), σ)
        )
      ) else (
      some ((-1 : Int32), σ)
      )
    ) else (
    some ((-1 : Int32), σ)
    )

set_option maxRecDepth 20000 in
theorem sX7_copy_L102 {g : GG} {r : Int32 × SS} {u1_ : Int32} {u2_ : Int32} {u5_ : Int32} {u6_ : Int32} {u7_ : Int32} {x8_ : Int32} {u9_ : Int32} {k148 : SS → Option (Int32 × SS)} 
    (hk148 : ∀ (σ_ : SS), k148 σ_ = some r → WT σ_ → RR g mX7_copy (FinR g mX7_copy (some (.int r.1)) NF r.2) zF 148 [(0, .ref (ad g 1)), (1, .int u1_), (2, .int u2_), (5, .int u5_), (6, .int u6_), (7, .int u7_), (8, .int x8_), (9, .int u9_)] [] σ_)
    (n : Nat) : ∀ (v10_ : Int32) (σ_ : SS), X7_copy_L102 u1_ u2_ u5_ u6_ u7_ u9_ k148 n v10_ σ_ = some r → WT σ_ → RR g mX7_copy (FinR g mX7_copy (some (.int r.1)) NF r.2) zF 102 [(0, .ref (ad g 1)), (1, .int u1_), (2, .int u2_), (5, .int u5_), (6, .int u6_), (7, .int u7_), (8, .int x8_), (9, .int u9_), (10, .int v10_)] [] σ_ := by
  unfold X7_copy_L102
  refine lp_ind (P := fun (rec : Int32 → SS → Option (Int32 × SS)) => ∀ (v10_ : Int32) (σ_ : SS), rec v10_ σ_ = some r → WT σ_ → RR g mX7_copy (FinR g mX7_copy (some (.int r.1)) NF r.2) zF 102 [(0, .ref (ad g 1)), (1, .int u1_), (2, .int u2_), (5, .int u5_), (6, .int u6_), (7, .int u7_), (8, .int x8_), (9, .int u9_), (10, .int v10_)] [] σ_) ?_ ?_ n
  · intro v10_ σ_ hr; cases hr
  intro rec ih v10_ σ_ hr hw_
  refine r_iload (pc := 102) (j := 8) dX7_copy_102 rfl ?_
  refine r_iload (pc := 104) (j := 5) dX7_copy_104 rfl ?_
  refine r_icmp_ge (pc := 106) (tgt := 148) dX7_copy_106 rfl (fun hc => ?_) (fun hc => ?_)
  · replace hr := ite_t hc hr
    exact r_pick (ls1 := [(0, .ref (ad g 1)), (1, .int u1_), (2, .int u2_), (5, .int u5_), (6, .int u6_), (7, .int u7_), (8, .int x8_), (9, .int u9_)]) [0, 1, 2, 3, 4, 5, 6, 7] rfl (hk148 σ_ hr hw_)
  replace hr := ite_f hc hr
  refine r_aload_n (pc := 109) (j := 0) dX7_copy_109 rfl rfl ?_
  refine gf7_3 (pc := 110) tw_2_112 hw_ dX7_copy_110 ?_
  refine r_iload (pc := 113) (j := 3) dX7_copy_113 rfl ?_
  refine r_iload (pc := 115) (j := 8) dX7_copy_115 rfl ?_
  refine r_iadd (pc := 117) dX7_copy_117 ?_
  refine r_iload (pc := 118) (j := 4) dX7_copy_118 rfl ?_
  refine r_iload (pc := 120) (j := 7) dX7_copy_120 rfl ?_
  refine r_iadd (pc := 122) dX7_copy_122 ?_
  refine r_aload_n (pc := 123) (j := 0) dX7_copy_123 rfl rfl ?_
  refine gf7_2 (pc := 124) tw_2_111 hw_ dX7_copy_124 ?_
  refine r_iload_n (pc := 127) (j := 1) dX7_copy_127 rfl rfl ?_
  refine r_iload (pc := 128) (j := 8) dX7_copy_128 rfl ?_
  refine r_iadd (pc := 130) dX7_copy_130 ?_
  refine r_iload_n (pc := 131) (j := 2) dX7_copy_131 rfl rfl ?_
  refine r_iload (pc := 132) (j := 7) dX7_copy_132 rfl ?_
  refine r_iadd (pc := 134) dX7_copy_134 ?_
  obtain ⟨v8, hv8, hr⟩ := bnd1_inv hr
  refine kX6_at (pc := 135) hv8 (wt_sc hw_).1 tw_3_133 ⟨nle rfl, nle rfl⟩ (nle rfl) dX7_copy_135 ?_
  obtain ⟨b12, σ14, eσ14, hr⟩ := bnd_inv hr
  refine kX6_put (pc := 138) eσ14 (wt_sp hw_).1 tw_3_112 ⟨nle rfl, nle rfl⟩ (nle rfl) dX7_copy_138 fun hσ14 => ?_
  refine r_pop (pc := 141) dX7_copy_141 rfl ?_
  refine r_iinc (pc := 142) (j := 8) (v := (v10_ + (1 : Int32))) (ls1 := [(10, .int (v10_ + (1 : Int32))), (0, .ref (ad g 1)), (1, .int u1_), (2, .int u2_), (5, .int u5_), (6, .int u6_), (7, .int u7_), (8, .int x8_), (9, .int u9_)]) dX7_copy_142 rfl rfl (nle rfl) rfl ?_
  refine r_goto (pc := 145) (tgt := 102) dX7_copy_145 rfl ?_
  exact r_pick (ls1 := [(0, .ref (ad g 1)), (1, .int u1_), (2, .int u2_), (5, .int u5_), (6, .int u6_), (7, .int u7_), (8, .int x8_), (9, .int u9_), (10, .int (v10_ + (1 : Int32)))]) [1, 2, 3, 4, 5, 6, 7, 8, 0] rfl (ih (v10_ + (1 : Int32)) σ14 hr hσ14)

set_option maxRecDepth 20000 in
theorem sX7_copy_L92 {g : GG} {r : Int32 × SS} {u1_ : Int32} {u2_ : Int32} {u5_ : Int32} {u6_ : Int32} {u7_ : Int32} {u8_ : Int32}  
    (n : Nat) : ∀ (v9_ : Int32) (σ_ : SS), X7_copy_L92 u1_ u2_ u5_ u6_ u7_ u8_ n v9_ σ_ = some r → WT σ_ → RR g mX7_copy (FinR g mX7_copy (some (.int r.1)) NF r.2) zF 92 [(0, .ref (ad g 1)), (1, .int u1_), (2, .int u2_), (5, .int u5_), (6, .int u6_), (7, .int u7_), (8, .int u8_), (9, .int v9_)] [] σ_ := by
  unfold X7_copy_L92
  refine lp_ind (P := fun (rec : Int32 → SS → Option (Int32 × SS)) => ∀ (v9_ : Int32) (σ_ : SS), rec v9_ σ_ = some r → WT σ_ → RR g mX7_copy (FinR g mX7_copy (some (.int r.1)) NF r.2) zF 92 [(0, .ref (ad g 1)), (1, .int u1_), (2, .int u2_), (5, .int u5_), (6, .int u6_), (7, .int u7_), (8, .int u8_), (9, .int v9_)] [] σ_) ?_ ?_ n
  · intro v9_ σ_ hr; cases hr
  intro rec ih v9_ σ_ hr hw_
  refine r_iload (pc := 92) (j := 7) dX7_copy_92 rfl ?_
  refine r_iload (pc := 94) (j := 6) dX7_copy_94 rfl ?_
  refine r_icmp_ge (pc := 96) (tgt := 154) dX7_copy_96 rfl (fun hc => ?_) (fun hc => ?_)
  · replace hr := ite_t hc hr
    refine r_aload_n (pc := 154) (j := 0) dX7_copy_154 rfl rfl ?_
    obtain ⟨v4, σ7, eσ7, hr⟩ := bnd_inv hr
    refine kX7_takeSpare (pc := 155) eσ7 tw_3_176 ⟨nle rfl, nle rfl⟩ (nle rfl) dX7_copy_155 fun hσ7 => ?_
    exact l_osi hr (r_iret (pc := 158) (v := v4) rfl rfl ⟨Nat.le_refl _, Nat.le_refl _⟩ dX7_copy_158)
  replace hr := ite_f hc hr
  refine r_iconst (pc := 99) (v := (0 : Int32)) dX7_copy_99 rfl ?_
  refine r_istore (pc := 100) (ls1 := [(10, .int (0 : Int32)), (0, .ref (ad g 1)), (1, .int u1_), (2, .int u2_), (5, .int u5_), (6, .int u6_), (7, .int u7_), (8, .int u8_), (9, .int v9_)]) dX7_copy_100 (nle rfl) rfl ?_
  refine r_pick (ls1 := [(0, .ref (ad g 1)), (1, .int u1_), (2, .int u2_), (5, .int u5_), (6, .int u6_), (7, .int u7_), (8, .int u8_), (9, .int v9_), (10, .int (0 : Int32))]) [1, 2, 3, 4, 5, 6, 7, 8, 0] rfl ?_
  refine sX7_copy_L102    (fun σ15 hr hσ15 => ?_) fuel (0 : Int32) σ_ hr hw_
  refine r_iinc (pc := 148) (j := 7) (v := (v9_ + (1 : Int32))) (ls1 := [(9, .int (v9_ + (1 : Int32))), (0, .ref (ad g 1)), (1, .int u1_), (2, .int u2_), (5, .int u5_), (6, .int u6_), (7, .int u7_), (8, .int u8_)]) dX7_copy_148 rfl rfl (nle rfl) rfl ?_
  refine r_goto (pc := 151) (tgt := 92) dX7_copy_151 rfl ?_
  exact r_pick (ls1 := [(0, .ref (ad g 1)), (1, .int u1_), (2, .int u2_), (5, .int u5_), (6, .int u6_), (7, .int u7_), (8, .int u8_), (9, .int (v9_ + (1 : Int32)))]) [1, 2, 3, 4, 5, 6, 7, 0] rfl (ih (v9_ + (1 : Int32)) σ15 hr hσ15)

set_option maxRecDepth 20000 in
theorem sX7_copy {g : GG} {σ : SS} {a1 : Int32} {a2 : Int32} {a3 : Int32} {a4 : Int32} {a5 : Int32} {a6 : Int32} {r : Int32 × SS} (hr : fX7_copy σ a1 a2 a3 a4 a5 a6 = some r)  : Ct g mX7_copy [.ref (ad g 1), .int a1, .int a2, .int a3, .int a4, .int a5, .int a6] NF σ (some (.int r.1)) NF r.2 := by
  refine Ct.of (by decide +kernel) (nle rfl) fun hw0 => ?_
  have hw := hw0 rfl
  unfold fX7_copy at hr
  change RR g mX7_copy (FinR g mX7_copy (some (.int r.1)) NF r.2) zF 0 [(0, .ref (ad g 1)), (1, .int a1), (2, .int a2), (3, .int a3), (4, .int a4), (5, .int a5), (6, .int a6)] [] σ
  refine r_iload_n (pc := 0) (j := 3) dX7_copy_0 rfl rfl ?_
  refine r_iload (pc := 1) (j := 4) dX7_copy_1 rfl ?_
  refine kX7_isPiece (pc := 3) (hf := rfl) tw_3_124 ⟨nle rfl, nle rfl⟩ (nle rfl) dX7_copy_3 ?_
  refine r_ifB_eq (pc := 6) (tgt := 35) dX7_copy_6 rfl (fun hc => ?_) (fun hc => ?_)
  · replace hr := ite_f hc hr
    refine r_iconst (pc := 35) (v := (-1 : Int32)) dX7_copy_35 rfl ?_
    exact l_osi hr (r_iret (pc := 36) (v := (-1 : Int32)) rfl rfl ⟨Nat.le_refl _, Nat.le_refl _⟩ dX7_copy_36)
  replace hr := ite_t hc hr
  refine r_aload_n (pc := 9) (j := 0) dX7_copy_9 rfl rfl ?_
  refine gf7_2 (pc := 10) tw_2_111 hw dX7_copy_10 ?_
  refine r_iload_n (pc := 13) (j := 1) dX7_copy_13 rfl rfl ?_
  refine r_iload_n (pc := 14) (j := 2) dX7_copy_14 rfl rfl ?_
  refine kX6_has (pc := 15) (hf := rfl) (wt_sc hw).1 tw_3_127 ⟨nle rfl, nle rfl⟩ (nle rfl) dX7_copy_15 ?_
  refine r_ifB_eq (pc := 18) (tgt := 35) dX7_copy_18 rfl (fun hc => ?_) (fun hc => ?_)
  · replace hr := ite_f hc hr
    refine r_iconst (pc := 35) (v := (-1 : Int32)) dX7_copy_35 rfl ?_
    exact l_osi hr (r_iret (pc := 36) (v := (-1 : Int32)) rfl rfl ⟨Nat.le_refl _, Nat.le_refl _⟩ dX7_copy_36)
  replace hr := ite_t hc hr
  refine r_aload_n (pc := 21) (j := 0) dX7_copy_21 rfl rfl ?_
  refine gf7_2 (pc := 22) tw_2_111 hw dX7_copy_22 ?_
  refine r_iload (pc := 25) (j := 5) dX7_copy_25 rfl ?_
  refine r_iload (pc := 27) (j := 6) dX7_copy_27 rfl ?_
  refine kX6_has (pc := 29) (hf := rfl) (wt_sc hw).1 tw_3_127 ⟨nle rfl, nle rfl⟩ (nle rfl) dX7_copy_29 ?_
  refine r_ifB_ne (pc := 32) (tgt := 37) dX7_copy_32 rfl (fun hc => ?_) (fun hc => ?_)
  · replace hr := ite_t hc hr
    refine r_aload_n (pc := 37) (j := 0) dX7_copy_37 rfl rfl ?_
    refine gf7_3 (pc := 38) tw_2_112 hw dX7_copy_38 ?_
    refine r_aload_n (pc := 41) (j := 0) dX7_copy_41 rfl rfl ?_
    refine gf7_2 (pc := 42) tw_2_111 hw dX7_copy_42 ?_
    obtain ⟨σ1, eσ1, hr⟩ := bnd1_inv hr
    refine kX6_takeAll (pc := 45) eσ1 (wt_sp hw).1 (wt_sc hw).1 tw_3_171 ⟨nle rfl, nle rfl⟩ (nle rfl) dX7_copy_45 fun hσ1 => ?_
    refine r_iload_n (pc := 48) (j := 3) dX7_copy_48 rfl rfl ?_
    refine r_aload_n (pc := 49) (j := 0) dX7_copy_49 rfl rfl ?_
    refine gf7_2 (pc := 50) tw_2_111 hσ1 dX7_copy_50 ?_
    refine gf6_0 (pc := 53) tw_1_35 (wt_sc hσ1).1 dX7_copy_53 ?_
    refine r_iload_n (pc := 56) (j := 1) dX7_copy_56 rfl rfl ?_
    refine r_iload (pc := 57) (j := 5) dX7_copy_57 rfl ?_
    refine kJ9_max_7cf53 (pc := 59) (hf := rfl) tw_3_146 ⟨nle rfl, nle rfl⟩ (nle rfl) dX7_copy_59 ?_
    refine r_isub (pc := 62) dX7_copy_62 ?_
    refine kJ9_min_7cf53 (pc := 63) (hf := rfl) tw_3_128 ⟨nle rfl, nle rfl⟩ (nle rfl) dX7_copy_63 ?_
    refine r_topi fun v2 ev2 => ?_
    replace hr := vthen_inv hr v2 ev2
    refine r_istore (pc := 66) (ls1 := [(7, .int v2), (0, .ref (ad g 1)), (1, .int a1), (2, .int a2), (3, .int a3), (4, .int a4), (5, .int a5), (6, .int a6)]) dX7_copy_66 (nle rfl) rfl ?_
    refine r_iload (pc := 68) (j := 5) dX7_copy_68 rfl ?_
    refine r_aload_n (pc := 70) (j := 1) dX7_copy_70 rfl rfl ?_
    refine gf7_2 (pc := 71) tw_2_111 hσ1 dX7_copy_71 ?_
    refine gf6_1 (pc := 74) tw_1_38 (wt_sc hσ1).1 dX7_copy_74 ?_
    refine r_iload_n (pc := 77) (j := 3) dX7_copy_77 rfl rfl ?_
    refine r_iload (pc := 78) (j := 7) dX7_copy_78 rfl ?_
    refine kJ9_max_7cf53 (pc := 80) (hf := rfl) tw_3_146 ⟨nle rfl, nle rfl⟩ (nle rfl) dX7_copy_80 ?_
    refine r_isub (pc := 83) dX7_copy_83 ?_
    refine kJ9_min_7cf53 (pc := 84) (hf := rfl) tw_3_128 ⟨nle rfl, nle rfl⟩ (nle rfl) dX7_copy_84 ?_
    refine r_topi fun v3 ev3 => ?_
    replace hr := vthen_inv hr v3 ev3
    refine r_istore (pc := 87) (ls1 := [(8, .int v3), (7, .int v2), (0, .ref (ad g 1)), (1, .int a1), (2, .int a2), (3, .int a3), (4, .int a4), (5, .int a5), (6, .int a6)]) dX7_copy_87 (nle rfl) rfl ?_
    refine r_iconst (pc := 89) (v := (0 : Int32)) dX7_copy_89 rfl ?_
    refine r_istore (pc := 90) (ls1 := [(9, .int (0 : Int32)), (8, .int v3), (7, .int v2), (0, .ref (ad g 1)), (1, .int a1), (2, .int a2), (3, .int a3), (4, .int a4), (5, .int a5), (6, .int a6)]) dX7_copy_90 (nle rfl) rfl ?_
    refine r_pick (ls1 := [(0, .ref (ad g 1)), (1, .int a1), (2, .int a2), (5, .int a5), (6, .int a6), (7, .int v2), (8, .int v3), (9, .int (0 : Int32))]) [3, 4, 5, 8, 9, 2, 1, 0] rfl ?_
    refine sX7_copy_L92     fuel (0 : Int32) σ1 hr hσ1
  replace hr := ite_f hc hr
  refine r_iconst (pc := 35) (v := (-1 : Int32)) dX7_copy_35 rfl ?_
  exact l_osi hr (r_iret (pc := 36) (v := (-1 : Int32)) rfl rfl ⟨Nat.le_refl _, Nat.le_refl _⟩ dX7_copy_36)

theorem kX7_copy {g : GG} {σ : SS} {a1 : Int32} {a2 : Int32} {a3 : Int32} {a4 : Int32} {a5 : Int32} {a6 : Int32} {v : Int32} {σ2 : SS} {M : MM} {F : State → Array Value → List Frame → State → Prop} {pc index : Nat} {ls : List (Nat × Value)} {rest : List Value} (hf : fX7_copy σ a1 a2 a3 a4 a5 a6 = some (v, σ2))  (hl : Cond.methodLink M.1.cls index yX7_copy ∈ lw_gt) (hR : mX7_copy.2.2.2.2.frames + 1 ≤ M.2.2.2.2.frames ∧ 8 + (mX7_copy.2.2.1 + 11) + mX7_copy.2.2.2.2.locals ≤ M.2.2.2.2.locals) (hrest : (rest.map fun v => v.category).sum ≤ 8) (hd : decode M.2.1 pc = .ok (.invokevirtual index, 3)) (k : WT σ2 → RR g M F zF (pc + 3) ls (.int v :: rest) σ2) : RR g M F zF pc ls (.int a6 :: .int a5 :: .int a4 :: .int a3 :: .int a2 :: .int a1 :: .ref (ad g 1) :: rest) σ :=
  r_callV (z := zF) (N := mX7_copy) (nn := 6) (o1 := some (.int v)) (sX7_copy hf ) (rfl : shp 1 = (7, 0)) (by decide) (shp_le (rfl : shp 1 = (7, 0)) (nle rfl)) (ci := 7) rfl rfl tw_3_170 tw_1_1 hl tw_3_168 tw_3_169 ⟨by decide, by decide, rfl⟩ hR rfl hrest hd ⟨Nat.zero_le _, Nat.zero_le _⟩ rfl (fun h => k (h rfl))

theorem dX8_others_0 : decode cX8_others 0 = .ok (.iconst 0, 1) := by decide +kernel
theorem dX8_others_1 : decode cX8_others 1 = .ok (.istore_n 1, 1) := by decide +kernel
theorem dX8_others_2 : decode cX8_others 2 = .ok (.iconst 0, 1) := by decide +kernel
theorem dX8_others_3 : decode cX8_others 3 = .ok (.istore_n 2, 1) := by decide +kernel
theorem dX8_others_4 : decode cX8_others 4 = .ok (.iload_n 2, 1) := by decide +kernel
theorem dX8_others_5 : decode cX8_others 5 = .ok (.aload_n 0, 1) := by decide +kernel
theorem dX8_others_6 : decode cX8_others 6 = .ok (.invokevirtual 275, 3) := by decide +kernel
theorem dX8_others_9 : decode cX8_others 9 = .ok (.if_icmp .ge 32, 3) := by decide +kernel
theorem dX8_others_12 : decode cX8_others 12 = .ok (.iload_n 1, 1) := by decide +kernel
theorem dX8_others_13 : decode cX8_others 13 = .ok (.aload_n 0, 1) := by decide +kernel
theorem dX8_others_14 : decode cX8_others 14 = .ok (.getfield 38, 3) := by decide +kernel
theorem dX8_others_17 : decode cX8_others 17 = .ok (.iload_n 2, 1) := by decide +kernel
theorem dX8_others_18 : decode cX8_others 18 = .ok (.iaload, 1) := by decide +kernel
theorem dX8_others_19 : decode cX8_others 19 = .ok (.aload_n 0, 1) := by decide +kernel
theorem dX8_others_20 : decode cX8_others 20 = .ok (.getfield 41, 3) := by decide +kernel
theorem dX8_others_23 : decode cX8_others 23 = .ok (.iload_n 2, 1) := by decide +kernel
theorem dX8_others_24 : decode cX8_others 24 = .ok (.iaload, 1) := by decide +kernel
theorem dX8_others_25 : decode cX8_others 25 = .ok (.if_icmp .ne 7, 3) := by decide +kernel
theorem dX8_others_28 : decode cX8_others 28 = .ok (.iconst 0, 1) := by decide +kernel
theorem dX8_others_29 : decode cX8_others 29 = .ok (.goto 4, 3) := by decide +kernel
theorem dX8_others_32 : decode cX8_others 32 = .ok (.iconst 1, 1) := by decide +kernel
theorem dX8_others_33 : decode cX8_others 33 = .ok (.iadd, 1) := by decide +kernel
theorem dX8_others_34 : decode cX8_others 34 = .ok (.istore_n 1, 1) := by decide +kernel
theorem dX8_others_35 : decode cX8_others 35 = .ok (.iinc 2 1, 3) := by decide +kernel
theorem dX8_others_38 : decode cX8_others 38 = .ok (.goto (-34), 3) := by decide +kernel
theorem dX8_others_41 : decode cX8_others 41 = .ok (.iload_n 1, 1) := by decide +kernel
theorem dX8_others_42 : decode cX8_others 42 = .ok (.ireturn, 1) := by decide +kernel
def mX8_others : MM := (yX8_others, cX8_others, 3, Option.some Jvm.ClassFile.FieldType.int, { frames := 1, cells := 0, slots := 0, locals := 20 })
def X8_others_L4 (σ_ : SS)   : Nat → Int32 → Int32 → Option Int32 :=
  lp (fun _ _ => none) fun rec v1_ v2_ =>
    if (fX8_all σ_) ≤ v2_ then (
      some v1_
      ) else (
      grd (inb v2_ 1600) <|
      if (gI σ_ 83 (Int32.toNatClampNeg v2_)) = (gI σ_ 84 (Int32.toNatClampNeg v2_)) then (
        vthen (v1_ + (0 : Int32)) fun v3 =>
        rec v3 (v2_ + (1 : Int32))
        ) else (
        vthen (v1_ + (1 : Int32)) fun v2 =>
        rec v2 (v2_ + (1 : Int32))
        )
      )

def fX8_others (σ0 : SS)  : Option Int32 :=
  X8_others_L4 σ0
  fuel (0 : Int32) (0 : Int32)

set_option maxRecDepth 20000 in
theorem sX8_others_L4 {g : GG} {r : Int32} {σ_ : SS} {σ0 : SS}   
    (hw_ : WT σ_)
    (h0_ : σ_ = σ0)
    (n : Nat) : ∀ (v1_ : Int32) (v2_ : Int32), X8_others_L4 σ_ n v1_ v2_ = some r → RR g mX8_others (FinR g mX8_others (some (.int r)) NF σ0) zF 4 [(0, .ref (ad g 73)), (1, .int v1_), (2, .int v2_)] [] σ_ := by
  unfold X8_others_L4
  refine lp_ind (P := fun (rec : Int32 → Int32 → Option Int32) => ∀ (v1_ : Int32) (v2_ : Int32), rec v1_ v2_ = some r → RR g mX8_others (FinR g mX8_others (some (.int r)) NF σ0) zF 4 [(0, .ref (ad g 73)), (1, .int v1_), (2, .int v2_)] [] σ_) ?_ ?_ n
  · intro v1_ v2_ hr; cases hr
  intro rec ih v1_ v2_ hr
  subst h0_
  refine r_iload_n (pc := 4) (j := 2) dX8_others_4 rfl rfl ?_
  refine r_aload_n (pc := 5) (j := 0) dX8_others_5 rfl rfl ?_
  refine kX8_all (pc := 6) (hf := rfl) tw_6_215 ⟨nle rfl, nle rfl⟩ (nle rfl) dX8_others_6 ?_
  refine r_icmp_ge (pc := 9) (tgt := 41) dX8_others_9 rfl (fun hc => ?_) (fun hc => ?_)
  · replace hr := ite_t hc hr
    refine r_iload_n (pc := 41) (j := 1) dX8_others_41 rfl rfl ?_
    exact l_opi hr (r_iret (pc := 42) (v := v1_) rfl rfl ⟨Nat.le_refl _, Nat.le_refl _⟩ dX8_others_42)
  replace hr := ite_f hc hr
  refine r_iload_n (pc := 12) (j := 1) dX8_others_12 rfl rfl ?_
  refine r_aload_n (pc := 13) (j := 0) dX8_others_13 rfl rfl ?_
  refine gf8_21 (pc := 14) tw_5_115 hw_ dX8_others_14 ?_
  refine r_iload_n (pc := 17) (j := 2) dX8_others_17 rfl rfl ?_
  obtain ⟨h1, hr⟩ := grd_inv hr
  refine x_iald (pc := 18) (k := (Int32.toNatClampNeg v2_)) rfl h1 rfl dX8_others_18 ?_
  refine r_aload_n (pc := 19) (j := 0) dX8_others_19 rfl rfl ?_
  refine gf8_22 (pc := 20) tw_5_116 hw_ dX8_others_20 ?_
  refine r_iload_n (pc := 23) (j := 2) dX8_others_23 rfl rfl ?_
  refine x_iald (pc := 24) (k := (Int32.toNatClampNeg v2_)) rfl h1 rfl dX8_others_24 ?_
  refine r_icmp_ne (pc := 25) (tgt := 32) dX8_others_25 rfl (fun hc => ?_) (fun hc => ?_)
  · replace hr := ite_f hc hr
    refine r_iconst (pc := 32) (v := (1 : Int32)) dX8_others_32 rfl ?_
    refine r_iadd (pc := 33) dX8_others_33 ?_
    refine r_topi fun v2 ev2 => ?_
    replace hr := vthen_inv hr v2 ev2
    refine r_istore_n (pc := 34) (ls1 := [(1, .int v2), (0, .ref (ad g 73)), (2, .int v2_)]) dX8_others_34 rfl (nle rfl) rfl ?_
    refine r_iinc (pc := 35) (j := 2) (v := (v2_ + (1 : Int32))) (ls1 := [(2, .int (v2_ + (1 : Int32))), (1, .int v2), (0, .ref (ad g 73))]) dX8_others_35 rfl rfl (nle rfl) rfl ?_
    refine r_goto (pc := 38) (tgt := 4) dX8_others_38 rfl ?_
    exact r_pick (ls1 := [(0, .ref (ad g 73)), (1, .int v2), (2, .int (v2_ + (1 : Int32)))]) [2, 1, 0] rfl (ih v2 (v2_ + (1 : Int32)) hr)
  replace hr := ite_t hc hr
  refine r_iconst (pc := 28) (v := (0 : Int32)) dX8_others_28 rfl ?_
  refine r_goto (pc := 29) (tgt := 33) dX8_others_29 rfl ?_
  refine r_iadd (pc := 33) dX8_others_33 ?_
  refine r_topi fun v3 ev3 => ?_
  replace hr := vthen_inv hr v3 ev3
  refine r_istore_n (pc := 34) (ls1 := [(1, .int v3), (0, .ref (ad g 73)), (2, .int v2_)]) dX8_others_34 rfl (nle rfl) rfl ?_
  refine r_iinc (pc := 35) (j := 2) (v := (v2_ + (1 : Int32))) (ls1 := [(2, .int (v2_ + (1 : Int32))), (1, .int v3), (0, .ref (ad g 73))]) dX8_others_35 rfl rfl (nle rfl) rfl ?_
  refine r_goto (pc := 38) (tgt := 4) dX8_others_38 rfl ?_
  exact r_pick (ls1 := [(0, .ref (ad g 73)), (1, .int v3), (2, .int (v2_ + (1 : Int32)))]) [2, 1, 0] rfl (ih v3 (v2_ + (1 : Int32)) hr)

set_option maxRecDepth 20000 in
theorem sX8_others {g : GG} {σ0 : SS}  {r : Int32} (hr : fX8_others σ0 = some r)  : Ct g mX8_others [.ref (ad g 73)] NF σ0 (some (.int r)) NF σ0 := by
  refine Ct.of (by decide +kernel) (nle rfl) fun hw0 => ?_
  have hw := hw0 rfl
  unfold fX8_others at hr
  change RR g mX8_others (FinR g mX8_others (some (.int r)) NF σ0) zF 0 [(0, .ref (ad g 73))] [] σ0
  refine r_iconst (pc := 0) (v := (0 : Int32)) dX8_others_0 rfl ?_
  refine r_istore_n (pc := 1) (ls1 := [(1, .int (0 : Int32)), (0, .ref (ad g 73))]) dX8_others_1 rfl (nle rfl) rfl ?_
  refine r_iconst (pc := 2) (v := (0 : Int32)) dX8_others_2 rfl ?_
  refine r_istore_n (pc := 3) (ls1 := [(2, .int (0 : Int32)), (1, .int (0 : Int32)), (0, .ref (ad g 73))]) dX8_others_3 rfl (nle rfl) rfl ?_
  refine r_pick (ls1 := [(0, .ref (ad g 73)), (1, .int (0 : Int32)), (2, .int (0 : Int32))]) [2, 1, 0] rfl ?_
  refine sX8_others_L4  hw rfl  fuel (0 : Int32) (0 : Int32) hr

theorem kX8_others {g : GG} {σ0 : SS}  {v : Int32} {M : MM} {F : State → Array Value → List Frame → State → Prop} {pc index : Nat} {ls : List (Nat × Value)} {rest : List Value} (hf : fX8_others σ0 = some v)  (hl : Cond.methodLink M.1.cls index yX8_others ∈ lw_gt) (hR : mX8_others.2.2.2.2.frames + 1 ≤ M.2.2.2.2.frames ∧ 8 + (mX8_others.2.2.1 + 11) + mX8_others.2.2.2.2.locals ≤ M.2.2.2.2.locals) (hrest : (rest.map fun v => v.category).sum ≤ 8) (hd : decode M.2.1 pc = .ok (.invokevirtual index, 3)) (k : RR g M F zF (pc + 3) ls (.int v :: rest) σ0) : RR g M F zF pc ls (.ref (ad g 73) :: rest) σ0 :=
  r_callV (z := zF) (N := mX8_others) (nn := 0) (o1 := some (.int v)) (sX8_others hf ) (rfl : shp 73 = (8, 0)) (by decide) (shp_le (rfl : shp 73 = (8, 0)) (nle rfl)) (ci := 8) rfl rfl tw_6_214 tw_1_10 hl tw_6_213 tp_56 ⟨by decide, by decide, rfl⟩ hR rfl hrest hd ⟨Nat.zero_le _, Nat.zero_le _⟩ rfl (fun h => k)

theorem dX8_copy_0 : decode cX8_copy 0 = .ok (.iload_n 3, 1) := by decide +kernel
theorem dX8_copy_1 : decode cX8_copy 1 = .ok (.iconst 1, 1) := by decide +kernel
theorem dX8_copy_2 : decode cX8_copy 2 = .ok (.bipush 40, 2) := by decide +kernel
theorem dX8_copy_4 : decode cX8_copy 4 = .ok (.invokestatic 165, 3) := by decide +kernel
theorem dX8_copy_7 : decode cX8_copy 7 = .ok (.ifCond .eq 34, 3) := by decide +kernel
theorem dX8_copy_10 : decode cX8_copy 10 = .ok (.iload 4, 2) := by decide +kernel
theorem dX8_copy_12 : decode cX8_copy 12 = .ok (.iconst 1, 1) := by decide +kernel
theorem dX8_copy_13 : decode cX8_copy 13 = .ok (.bipush 40, 2) := by decide +kernel
theorem dX8_copy_15 : decode cX8_copy 15 = .ok (.invokestatic 165, 3) := by decide +kernel
theorem dX8_copy_18 : decode cX8_copy 18 = .ok (.ifCond .eq 23, 3) := by decide +kernel
theorem dX8_copy_21 : decode cX8_copy 21 = .ok (.aload_n 0, 1) := by decide +kernel
theorem dX8_copy_22 : decode cX8_copy 22 = .ok (.iload_n 1, 1) := by decide +kernel
theorem dX8_copy_23 : decode cX8_copy 23 = .ok (.iload_n 2, 1) := by decide +kernel
theorem dX8_copy_24 : decode cX8_copy 24 = .ok (.invokevirtual 281, 3) := by decide +kernel
theorem dX8_copy_27 : decode cX8_copy 27 = .ok (.ifCond .eq 14, 3) := by decide +kernel
theorem dX8_copy_30 : decode cX8_copy 30 = .ok (.aload_n 0, 1) := by decide +kernel
theorem dX8_copy_31 : decode cX8_copy 31 = .ok (.iload 5, 2) := by decide +kernel
theorem dX8_copy_33 : decode cX8_copy 33 = .ok (.iload 6, 2) := by decide +kernel
theorem dX8_copy_35 : decode cX8_copy 35 = .ok (.invokevirtual 281, 3) := by decide +kernel
theorem dX8_copy_38 : decode cX8_copy 38 = .ok (.ifCond .ne 5, 3) := by decide +kernel
theorem dX8_copy_41 : decode cX8_copy 41 = .ok (.iconst (-1), 1) := by decide +kernel
theorem dX8_copy_42 : decode cX8_copy 42 = .ok (.ireturn, 1) := by decide +kernel
theorem dX8_copy_43 : decode cX8_copy 43 = .ok (.aload_n 0, 1) := by decide +kernel
theorem dX8_copy_44 : decode cX8_copy 44 = .ok (.invokevirtual 289, 3) := by decide +kernel
theorem dX8_copy_47 : decode cX8_copy 47 = .ok (.iconst 0, 1) := by decide +kernel
theorem dX8_copy_48 : decode cX8_copy 48 = .ok (.istore 7, 2) := by decide +kernel
theorem dX8_copy_50 : decode cX8_copy 50 = .ok (.iload 7, 2) := by decide +kernel
theorem dX8_copy_52 : decode cX8_copy 52 = .ok (.iload 4, 2) := by decide +kernel
theorem dX8_copy_54 : decode cX8_copy 54 = .ok (.if_icmp .ge 96, 3) := by decide +kernel
theorem dX8_copy_57 : decode cX8_copy 57 = .ok (.iconst 0, 1) := by decide +kernel
theorem dX8_copy_58 : decode cX8_copy 58 = .ok (.istore 8, 2) := by decide +kernel
theorem dX8_copy_60 : decode cX8_copy 60 = .ok (.iload 8, 2) := by decide +kernel
theorem dX8_copy_62 : decode cX8_copy 62 = .ok (.iload_n 3, 1) := by decide +kernel
theorem dX8_copy_63 : decode cX8_copy 63 = .ok (.if_icmp .ge 81, 3) := by decide +kernel
theorem dX8_copy_66 : decode cX8_copy 66 = .ok (.aload_n 0, 1) := by decide +kernel
theorem dX8_copy_67 : decode cX8_copy 67 = .ok (.iload_n 1, 1) := by decide +kernel
theorem dX8_copy_68 : decode cX8_copy 68 = .ok (.iload 8, 2) := by decide +kernel
theorem dX8_copy_70 : decode cX8_copy 70 = .ok (.iadd, 1) := by decide +kernel
theorem dX8_copy_71 : decode cX8_copy 71 = .ok (.iload_n 2, 1) := by decide +kernel
theorem dX8_copy_72 : decode cX8_copy 72 = .ok (.iload 7, 2) := by decide +kernel
theorem dX8_copy_74 : decode cX8_copy 74 = .ok (.iadd, 1) := by decide +kernel
theorem dX8_copy_75 : decode cX8_copy 75 = .ok (.invokevirtual 281, 3) := by decide +kernel
theorem dX8_copy_78 : decode cX8_copy 78 = .ok (.ifCond .eq 60, 3) := by decide +kernel
theorem dX8_copy_81 : decode cX8_copy 81 = .ok (.aload_n 0, 1) := by decide +kernel
theorem dX8_copy_82 : decode cX8_copy 82 = .ok (.iload 5, 2) := by decide +kernel
theorem dX8_copy_84 : decode cX8_copy 84 = .ok (.iload 8, 2) := by decide +kernel
theorem dX8_copy_86 : decode cX8_copy 86 = .ok (.iadd, 1) := by decide +kernel
theorem dX8_copy_87 : decode cX8_copy 87 = .ok (.iload 6, 2) := by decide +kernel
theorem dX8_copy_89 : decode cX8_copy 89 = .ok (.iload 7, 2) := by decide +kernel
theorem dX8_copy_91 : decode cX8_copy 91 = .ok (.iadd, 1) := by decide +kernel
theorem dX8_copy_92 : decode cX8_copy 92 = .ok (.invokevirtual 281, 3) := by decide +kernel
theorem dX8_copy_95 : decode cX8_copy 95 = .ok (.ifCond .eq 43, 3) := by decide +kernel
theorem dX8_copy_98 : decode cX8_copy 98 = .ok (.aload_n 0, 1) := by decide +kernel
theorem dX8_copy_99 : decode cX8_copy 99 = .ok (.getfield 38, 3) := by decide +kernel
theorem dX8_copy_102 : decode cX8_copy 102 = .ok (.aload_n 0, 1) := by decide +kernel
theorem dX8_copy_103 : decode cX8_copy 103 = .ok (.getfield 132, 3) := by decide +kernel
theorem dX8_copy_106 : decode cX8_copy 106 = .ok (.iload 6, 2) := by decide +kernel
theorem dX8_copy_108 : decode cX8_copy 108 = .ok (.iload 7, 2) := by decide +kernel
theorem dX8_copy_110 : decode cX8_copy 110 = .ok (.iadd, 1) := by decide +kernel
theorem dX8_copy_111 : decode cX8_copy 111 = .ok (.imul, 1) := by decide +kernel
theorem dX8_copy_112 : decode cX8_copy 112 = .ok (.iload 5, 2) := by decide +kernel
theorem dX8_copy_114 : decode cX8_copy 114 = .ok (.iadd, 1) := by decide +kernel
theorem dX8_copy_115 : decode cX8_copy 115 = .ok (.iload 8, 2) := by decide +kernel
theorem dX8_copy_117 : decode cX8_copy 117 = .ok (.iadd, 1) := by decide +kernel
theorem dX8_copy_118 : decode cX8_copy 118 = .ok (.aload_n 0, 1) := by decide +kernel
theorem dX8_copy_119 : decode cX8_copy 119 = .ok (.getfield 41, 3) := by decide +kernel
theorem dX8_copy_122 : decode cX8_copy 122 = .ok (.aload_n 0, 1) := by decide +kernel
theorem dX8_copy_123 : decode cX8_copy 123 = .ok (.getfield 132, 3) := by decide +kernel
theorem dX8_copy_126 : decode cX8_copy 126 = .ok (.iload_n 2, 1) := by decide +kernel
theorem dX8_copy_127 : decode cX8_copy 127 = .ok (.iload 7, 2) := by decide +kernel
theorem dX8_copy_129 : decode cX8_copy 129 = .ok (.iadd, 1) := by decide +kernel
theorem dX8_copy_130 : decode cX8_copy 130 = .ok (.imul, 1) := by decide +kernel
theorem dX8_copy_131 : decode cX8_copy 131 = .ok (.iload_n 1, 1) := by decide +kernel
theorem dX8_copy_132 : decode cX8_copy 132 = .ok (.iadd, 1) := by decide +kernel
theorem dX8_copy_133 : decode cX8_copy 133 = .ok (.iload 8, 2) := by decide +kernel
theorem dX8_copy_135 : decode cX8_copy 135 = .ok (.iadd, 1) := by decide +kernel
theorem dX8_copy_136 : decode cX8_copy 136 = .ok (.iaload, 1) := by decide +kernel
theorem dX8_copy_137 : decode cX8_copy 137 = .ok (.iastore, 1) := by decide +kernel
theorem dX8_copy_138 : decode cX8_copy 138 = .ok (.iinc 8 1, 3) := by decide +kernel
theorem dX8_copy_141 : decode cX8_copy 141 = .ok (.goto (-81), 3) := by decide +kernel
theorem dX8_copy_144 : decode cX8_copy 144 = .ok (.iinc 7 1, 3) := by decide +kernel
theorem dX8_copy_147 : decode cX8_copy 147 = .ok (.goto (-97), 3) := by decide +kernel
theorem dX8_copy_150 : decode cX8_copy 150 = .ok (.aload_n 0, 1) := by decide +kernel
theorem dX8_copy_151 : decode cX8_copy 151 = .ok (.invokevirtual 295, 3) := by decide +kernel
theorem dX8_copy_154 : decode cX8_copy 154 = .ok (.ireturn, 1) := by decide +kernel
def mX8_copy : MM := (yX8_copy, cX8_copy, 9, Option.some Jvm.ClassFile.FieldType.int, { frames := 2, cells := 0, slots := 0, locals := 44 })
def X8_copy_L60 (u1_ : Int32) (u2_ : Int32) (u3_ : Int32) (u5_ : Int32) (u6_ : Int32) (u7_ : Int32) (k144 : SS → Option (Int32 × SS)) : Nat → Int32 → SS → Option (Int32 × SS) :=
  lp (fun _ _ => none) fun rec v8_ σ_ =>
    if u3_ ≤ v8_ then (
      k144 σ_
      ) else (
      if (fX8_isDot σ_ (u1_ + v8_) (u2_ + u7_)) = true then (
        if (fX8_isDot σ_ (u5_ + v8_) (u6_ + u7_)) = true then (
          grd (inb ((((gI σ_ 73 29) * (u2_ + u7_)) + u1_) + v8_) 1600) <|
          grd (inb ((((gI σ_ 73 29) * (u6_ + u7_)) + u5_) + v8_) 1600) <|
          vthen (sI σ_ 83 (Int32.toNatClampNeg ((((gI σ_ 73 29) * (u6_ + u7_)) + u5_) + v8_)) (gI σ_ 84 (Int32.toNatClampNeg ((((gI σ_ 73 29) * (u2_ + u7_)) + u1_) + v8_)))) fun σ7 =>
          rec (v8_ + (1 : Int32)) σ7
          ) else (
          rec (v8_ + (1 : Int32)) σ_
          )
        ) else (
        rec (v8_ + (1 : Int32)) σ_
        )
      )

def X8_copy_L50 (u1_ : Int32) (u2_ : Int32) (u3_ : Int32) (u4_ : Int32) (u5_ : Int32) (u6_ : Int32)  : Nat → Int32 → SS → Option (Int32 × SS) :=
  lp (fun _ _ => none) fun rec v7_ σ_ =>
    if u4_ ≤ v7_ then (
      bnd1 (fX8_others σ_) fun v2 =>
      some (v2, σ_)
      ) else (
      X8_copy_L60 u1_ u2_ u3_ u5_ u6_ v7_
      (fun σ8 =>
        rec (v7_ + (1 : Int32)) σ8
        )
      fuel (0 : Int32) σ_
      )

def fX8_copy (σ : SS) (a1 : Int32) (a2 : Int32) (a3 : Int32) (a4 : Int32) (a5 : Int32) (a6 : Int32) : Option (Int32 × SS) :=
  if (fX8_in σ a3 (1 : Int32) (40 : Int32)) = true then (
    if (fX8_in σ a4 (1 : Int32) (40 : Int32)) = true then (
      if (fX8_isDot σ a1 a2) = true then (
        if (fX8_isDot σ a5 a6) = true then (
          bnd1 (fX8_puts σ) fun σ1 =>
          X8_copy_L50 a1 a2 a3 a4 a5 a6
          fuel (0 : Int32) σ1
          ) else (
          some ((-1 : Int32), σ)
          )
        ) else (
        some ((-1 : Int32), σ)
        )
      ) else (
      some ((-1 : Int32), σ)
      )
    ) else (
    some ((-1 : Int32), σ)
    )

set_option maxRecDepth 20000 in
theorem sX8_copy_L60 {g : GG} {r : Int32 × SS} {u1_ : Int32} {u2_ : Int32} {u3_ : Int32} {x4_ : Int32} {u5_ : Int32} {u6_ : Int32} {u7_ : Int32} {k144 : SS → Option (Int32 × SS)} 
    (hk144 : ∀ (σ_ : SS), k144 σ_ = some r → WT σ_ → RR g mX8_copy (FinR g mX8_copy (some (.int r.1)) NF r.2) zF 144 [(0, .ref (ad g 73)), (1, .int u1_), (2, .int u2_), (3, .int u3_), (4, .int x4_), (5, .int u5_), (6, .int u6_), (7, .int u7_)] [] σ_)
    (n : Nat) : ∀ (v8_ : Int32) (σ_ : SS), X8_copy_L60 u1_ u2_ u3_ u5_ u6_ u7_ k144 n v8_ σ_ = some r → WT σ_ → RR g mX8_copy (FinR g mX8_copy (some (.int r.1)) NF r.2) zF 60 [(0, .ref (ad g 73)), (1, .int u1_), (2, .int u2_), (3, .int u3_), (4, .int x4_), (5, .int u5_), (6, .int u6_), (7, .int u7_), (8, .int v8_)] [] σ_ := by
  unfold X8_copy_L60
  refine lp_ind (P := fun (rec : Int32 → SS → Option (Int32 × SS)) => ∀ (v8_ : Int32) (σ_ : SS), rec v8_ σ_ = some r → WT σ_ → RR g mX8_copy (FinR g mX8_copy (some (.int r.1)) NF r.2) zF 60 [(0, .ref (ad g 73)), (1, .int u1_), (2, .int u2_), (3, .int u3_), (4, .int x4_), (5, .int u5_), (6, .int u6_), (7, .int u7_), (8, .int v8_)] [] σ_) ?_ ?_ n
  · intro v8_ σ_ hr; cases hr
  intro rec ih v8_ σ_ hr hw_
  refine r_iload (pc := 60) (j := 8) dX8_copy_60 rfl ?_
  refine r_iload_n (pc := 62) (j := 3) dX8_copy_62 rfl rfl ?_
  refine r_icmp_ge (pc := 63) (tgt := 144) dX8_copy_63 rfl (fun hc => ?_) (fun hc => ?_)
  · replace hr := ite_t hc hr
    exact r_pick (ls1 := [(0, .ref (ad g 73)), (1, .int u1_), (2, .int u2_), (3, .int u3_), (4, .int x4_), (5, .int u5_), (6, .int u6_), (7, .int u7_)]) [0, 1, 2, 3, 4, 5, 6, 7] rfl (hk144 σ_ hr hw_)
  replace hr := ite_f hc hr
  refine r_aload_n (pc := 66) (j := 0) dX8_copy_66 rfl rfl ?_
  refine r_iload_n (pc := 67) (j := 1) dX8_copy_67 rfl rfl ?_
  refine r_iload (pc := 68) (j := 8) dX8_copy_68 rfl ?_
  refine r_iadd (pc := 70) dX8_copy_70 ?_
  refine r_iload_n (pc := 71) (j := 2) dX8_copy_71 rfl rfl ?_
  refine r_iload (pc := 72) (j := 7) dX8_copy_72 rfl ?_
  refine r_iadd (pc := 74) dX8_copy_74 ?_
  refine kX8_isDot (pc := 75) (hf := rfl) tw_6_173 ⟨nle rfl, nle rfl⟩ (nle rfl) dX8_copy_75 ?_
  refine r_ifB_eq (pc := 78) (tgt := 138) dX8_copy_78 rfl (fun hc => ?_) (fun hc => ?_)
  · replace hr := ite_f hc hr
    refine r_iinc (pc := 138) (j := 8) (v := (v8_ + (1 : Int32))) (ls1 := [(8, .int (v8_ + (1 : Int32))), (0, .ref (ad g 73)), (1, .int u1_), (2, .int u2_), (3, .int u3_), (4, .int x4_), (5, .int u5_), (6, .int u6_), (7, .int u7_)]) dX8_copy_138 rfl rfl (nle rfl) rfl ?_
    refine r_goto (pc := 141) (tgt := 60) dX8_copy_141 rfl ?_
    exact r_pick (ls1 := [(0, .ref (ad g 73)), (1, .int u1_), (2, .int u2_), (3, .int u3_), (4, .int x4_), (5, .int u5_), (6, .int u6_), (7, .int u7_), (8, .int (v8_ + (1 : Int32)))]) [1, 2, 3, 4, 5, 6, 7, 8, 0] rfl (ih (v8_ + (1 : Int32)) σ_ hr hw_)
  replace hr := ite_t hc hr
  refine r_aload_n (pc := 81) (j := 0) dX8_copy_81 rfl rfl ?_
  refine r_iload (pc := 82) (j := 5) dX8_copy_82 rfl ?_
  refine r_iload (pc := 84) (j := 8) dX8_copy_84 rfl ?_
  refine r_iadd (pc := 86) dX8_copy_86 ?_
  refine r_iload (pc := 87) (j := 6) dX8_copy_87 rfl ?_
  refine r_iload (pc := 89) (j := 7) dX8_copy_89 rfl ?_
  refine r_iadd (pc := 91) dX8_copy_91 ?_
  refine kX8_isDot (pc := 92) (hf := rfl) tw_6_173 ⟨nle rfl, nle rfl⟩ (nle rfl) dX8_copy_92 ?_
  refine r_ifB_eq (pc := 95) (tgt := 138) dX8_copy_95 rfl (fun hc => ?_) (fun hc => ?_)
  · replace hr := ite_f hc hr
    refine r_iinc (pc := 138) (j := 8) (v := (v8_ + (1 : Int32))) (ls1 := [(8, .int (v8_ + (1 : Int32))), (0, .ref (ad g 73)), (1, .int u1_), (2, .int u2_), (3, .int u3_), (4, .int x4_), (5, .int u5_), (6, .int u6_), (7, .int u7_)]) dX8_copy_138 rfl rfl (nle rfl) rfl ?_
    refine r_goto (pc := 141) (tgt := 60) dX8_copy_141 rfl ?_
    exact r_pick (ls1 := [(0, .ref (ad g 73)), (1, .int u1_), (2, .int u2_), (3, .int u3_), (4, .int x4_), (5, .int u5_), (6, .int u6_), (7, .int u7_), (8, .int (v8_ + (1 : Int32)))]) [1, 2, 3, 4, 5, 6, 7, 8, 0] rfl (ih (v8_ + (1 : Int32)) σ_ hr hw_)
  replace hr := ite_t hc hr
  refine r_aload_n (pc := 98) (j := 0) dX8_copy_98 rfl rfl ?_
  refine gf8_21 (pc := 99) tw_5_115 hw_ dX8_copy_99 ?_
  refine r_aload_n (pc := 102) (j := 0) dX8_copy_102 rfl rfl ?_
  refine gf8_29 (pc := 103) tw_5_123 rfl dX8_copy_103 ?_
  refine r_iload (pc := 106) (j := 6) dX8_copy_106 rfl ?_
  refine r_iload (pc := 108) (j := 7) dX8_copy_108 rfl ?_
  refine r_iadd (pc := 110) dX8_copy_110 ?_
  refine r_imul (pc := 111) dX8_copy_111 ?_
  refine r_iload (pc := 112) (j := 5) dX8_copy_112 rfl ?_
  refine r_iadd (pc := 114) dX8_copy_114 ?_
  refine r_iload (pc := 115) (j := 8) dX8_copy_115 rfl ?_
  refine r_iadd (pc := 117) dX8_copy_117 ?_
  refine r_aload_n (pc := 118) (j := 0) dX8_copy_118 rfl rfl ?_
  refine gf8_22 (pc := 119) tw_5_116 hw_ dX8_copy_119 ?_
  refine r_aload_n (pc := 122) (j := 0) dX8_copy_122 rfl rfl ?_
  refine gf8_29 (pc := 123) tw_5_123 rfl dX8_copy_123 ?_
  refine r_iload_n (pc := 126) (j := 2) dX8_copy_126 rfl rfl ?_
  refine r_iload (pc := 127) (j := 7) dX8_copy_127 rfl ?_
  refine r_iadd (pc := 129) dX8_copy_129 ?_
  refine r_imul (pc := 130) dX8_copy_130 ?_
  refine r_iload_n (pc := 131) (j := 1) dX8_copy_131 rfl rfl ?_
  refine r_iadd (pc := 132) dX8_copy_132 ?_
  refine r_iload (pc := 133) (j := 8) dX8_copy_133 rfl ?_
  refine r_iadd (pc := 135) dX8_copy_135 ?_
  obtain ⟨h5, hr⟩ := grd_inv hr
  refine x_iald (pc := 136) (k := (Int32.toNatClampNeg ((((gI σ_ 73 29) * (u2_ + u7_)) + u1_) + v8_))) rfl h5 rfl dX8_copy_136 ?_
  obtain ⟨h6, hr⟩ := grd_inv hr
  refine x_iast (pc := 137) (j := (Int32.toNatClampNeg ((((gI σ_ 73 29) * (u6_ + u7_)) + u5_) + v8_))) rfl h6 rfl dX8_copy_137 fun σ7 eσ7 => ?_
  replace hr := vthen_inv hr σ7 eσ7
  have hσ7 := wtI eσ7 hw_
  refine r_iinc (pc := 138) (j := 8) (v := (v8_ + (1 : Int32))) (ls1 := [(8, .int (v8_ + (1 : Int32))), (0, .ref (ad g 73)), (1, .int u1_), (2, .int u2_), (3, .int u3_), (4, .int x4_), (5, .int u5_), (6, .int u6_), (7, .int u7_)]) dX8_copy_138 rfl rfl (nle rfl) rfl ?_
  refine r_goto (pc := 141) (tgt := 60) dX8_copy_141 rfl ?_
  exact r_pick (ls1 := [(0, .ref (ad g 73)), (1, .int u1_), (2, .int u2_), (3, .int u3_), (4, .int x4_), (5, .int u5_), (6, .int u6_), (7, .int u7_), (8, .int (v8_ + (1 : Int32)))]) [1, 2, 3, 4, 5, 6, 7, 8, 0] rfl (ih (v8_ + (1 : Int32)) σ7 hr hσ7)

set_option maxRecDepth 20000 in
theorem sX8_copy_L50 {g : GG} {r : Int32 × SS} {u1_ : Int32} {u2_ : Int32} {u3_ : Int32} {u4_ : Int32} {u5_ : Int32} {u6_ : Int32}  
    (n : Nat) : ∀ (v7_ : Int32) (σ_ : SS), X8_copy_L50 u1_ u2_ u3_ u4_ u5_ u6_ n v7_ σ_ = some r → WT σ_ → RR g mX8_copy (FinR g mX8_copy (some (.int r.1)) NF r.2) zF 50 [(0, .ref (ad g 73)), (1, .int u1_), (2, .int u2_), (3, .int u3_), (4, .int u4_), (5, .int u5_), (6, .int u6_), (7, .int v7_)] [] σ_ := by
  unfold X8_copy_L50
  refine lp_ind (P := fun (rec : Int32 → SS → Option (Int32 × SS)) => ∀ (v7_ : Int32) (σ_ : SS), rec v7_ σ_ = some r → WT σ_ → RR g mX8_copy (FinR g mX8_copy (some (.int r.1)) NF r.2) zF 50 [(0, .ref (ad g 73)), (1, .int u1_), (2, .int u2_), (3, .int u3_), (4, .int u4_), (5, .int u5_), (6, .int u6_), (7, .int v7_)] [] σ_) ?_ ?_ n
  · intro v7_ σ_ hr; cases hr
  intro rec ih v7_ σ_ hr hw_
  refine r_iload (pc := 50) (j := 7) dX8_copy_50 rfl ?_
  refine r_iload (pc := 52) (j := 4) dX8_copy_52 rfl ?_
  refine r_icmp_ge (pc := 54) (tgt := 150) dX8_copy_54 rfl (fun hc => ?_) (fun hc => ?_)
  · replace hr := ite_t hc hr
    refine r_aload_n (pc := 150) (j := 0) dX8_copy_150 rfl rfl ?_
    obtain ⟨v2, hv2, hr⟩ := bnd1_inv hr
    refine kX8_others (pc := 151) hv2 tw_6_211 ⟨nle rfl, nle rfl⟩ (nle rfl) dX8_copy_151 ?_
    exact l_osi hr (r_iret (pc := 154) (v := v2) rfl rfl ⟨Nat.le_refl _, Nat.le_refl _⟩ dX8_copy_154)
  replace hr := ite_f hc hr
  refine r_iconst (pc := 57) (v := (0 : Int32)) dX8_copy_57 rfl ?_
  refine r_istore (pc := 58) (ls1 := [(8, .int (0 : Int32)), (0, .ref (ad g 73)), (1, .int u1_), (2, .int u2_), (3, .int u3_), (4, .int u4_), (5, .int u5_), (6, .int u6_), (7, .int v7_)]) dX8_copy_58 (nle rfl) rfl ?_
  refine r_pick (ls1 := [(0, .ref (ad g 73)), (1, .int u1_), (2, .int u2_), (3, .int u3_), (4, .int u4_), (5, .int u5_), (6, .int u6_), (7, .int v7_), (8, .int (0 : Int32))]) [1, 2, 3, 4, 5, 6, 7, 8, 0] rfl ?_
  refine sX8_copy_L60    (fun σ8 hr hσ8 => ?_) fuel (0 : Int32) σ_ hr hw_
  refine r_iinc (pc := 144) (j := 7) (v := (v7_ + (1 : Int32))) (ls1 := [(7, .int (v7_ + (1 : Int32))), (0, .ref (ad g 73)), (1, .int u1_), (2, .int u2_), (3, .int u3_), (4, .int u4_), (5, .int u5_), (6, .int u6_)]) dX8_copy_144 rfl rfl (nle rfl) rfl ?_
  refine r_goto (pc := 147) (tgt := 50) dX8_copy_147 rfl ?_
  exact r_pick (ls1 := [(0, .ref (ad g 73)), (1, .int u1_), (2, .int u2_), (3, .int u3_), (4, .int u4_), (5, .int u5_), (6, .int u6_), (7, .int (v7_ + (1 : Int32)))]) [1, 2, 3, 4, 5, 6, 7, 0] rfl (ih (v7_ + (1 : Int32)) σ8 hr hσ8)

set_option maxRecDepth 20000 in
theorem sX8_copy {g : GG} {σ : SS} {a1 : Int32} {a2 : Int32} {a3 : Int32} {a4 : Int32} {a5 : Int32} {a6 : Int32} {r : Int32 × SS} (hr : fX8_copy σ a1 a2 a3 a4 a5 a6 = some r)  : Ct g mX8_copy [.ref (ad g 73), .int a1, .int a2, .int a3, .int a4, .int a5, .int a6] NF σ (some (.int r.1)) NF r.2 := by
  refine Ct.of (by decide +kernel) (nle rfl) fun hw0 => ?_
  have hw := hw0 rfl
  unfold fX8_copy at hr
  change RR g mX8_copy (FinR g mX8_copy (some (.int r.1)) NF r.2) zF 0 [(0, .ref (ad g 73)), (1, .int a1), (2, .int a2), (3, .int a3), (4, .int a4), (5, .int a5), (6, .int a6)] [] σ
  refine r_iload_n (pc := 0) (j := 3) dX8_copy_0 rfl rfl ?_
  refine r_iconst (pc := 1) (v := (1 : Int32)) dX8_copy_1 rfl ?_
  refine r_bipush (pc := 2) (v := (40 : Int32)) dX8_copy_2 rfl ?_
  refine kX8_in (pc := 4) (hf := rfl) tw_6_65 ⟨nle rfl, nle rfl⟩ (nle rfl) dX8_copy_4 ?_
  refine r_ifB_eq (pc := 7) (tgt := 41) dX8_copy_7 rfl (fun hc => ?_) (fun hc => ?_)
  · replace hr := ite_f hc hr
    refine r_iconst (pc := 41) (v := (-1 : Int32)) dX8_copy_41 rfl ?_
    exact l_osi hr (r_iret (pc := 42) (v := (-1 : Int32)) rfl rfl ⟨Nat.le_refl _, Nat.le_refl _⟩ dX8_copy_42)
  replace hr := ite_t hc hr
  refine r_iload (pc := 10) (j := 4) dX8_copy_10 rfl ?_
  refine r_iconst (pc := 12) (v := (1 : Int32)) dX8_copy_12 rfl ?_
  refine r_bipush (pc := 13) (v := (40 : Int32)) dX8_copy_13 rfl ?_
  refine kX8_in (pc := 15) (hf := rfl) tw_6_65 ⟨nle rfl, nle rfl⟩ (nle rfl) dX8_copy_15 ?_
  refine r_ifB_eq (pc := 18) (tgt := 41) dX8_copy_18 rfl (fun hc => ?_) (fun hc => ?_)
  · replace hr := ite_f hc hr
    refine r_iconst (pc := 41) (v := (-1 : Int32)) dX8_copy_41 rfl ?_
    exact l_osi hr (r_iret (pc := 42) (v := (-1 : Int32)) rfl rfl ⟨Nat.le_refl _, Nat.le_refl _⟩ dX8_copy_42)
  replace hr := ite_t hc hr
  refine r_aload_n (pc := 21) (j := 0) dX8_copy_21 rfl rfl ?_
  refine r_iload_n (pc := 22) (j := 1) dX8_copy_22 rfl rfl ?_
  refine r_iload_n (pc := 23) (j := 2) dX8_copy_23 rfl rfl ?_
  refine kX8_isDot (pc := 24) (hf := rfl) tw_6_173 ⟨nle rfl, nle rfl⟩ (nle rfl) dX8_copy_24 ?_
  refine r_ifB_eq (pc := 27) (tgt := 41) dX8_copy_27 rfl (fun hc => ?_) (fun hc => ?_)
  · replace hr := ite_f hc hr
    refine r_iconst (pc := 41) (v := (-1 : Int32)) dX8_copy_41 rfl ?_
    exact l_osi hr (r_iret (pc := 42) (v := (-1 : Int32)) rfl rfl ⟨Nat.le_refl _, Nat.le_refl _⟩ dX8_copy_42)
  replace hr := ite_t hc hr
  refine r_aload_n (pc := 30) (j := 0) dX8_copy_30 rfl rfl ?_
  refine r_iload (pc := 31) (j := 5) dX8_copy_31 rfl ?_
  refine r_iload (pc := 33) (j := 6) dX8_copy_33 rfl ?_
  refine kX8_isDot (pc := 35) (hf := rfl) tw_6_173 ⟨nle rfl, nle rfl⟩ (nle rfl) dX8_copy_35 ?_
  refine r_ifB_ne (pc := 38) (tgt := 43) dX8_copy_38 rfl (fun hc => ?_) (fun hc => ?_)
  · replace hr := ite_t hc hr
    refine r_aload_n (pc := 43) (j := 0) dX8_copy_43 rfl rfl ?_
    obtain ⟨σ1, eσ1, hr⟩ := bnd1_inv hr
    refine kX8_puts (pc := 44) eσ1 tw_6_203 ⟨nle rfl, nle rfl⟩ (nle rfl) dX8_copy_44 fun hσ1 => ?_
    refine r_iconst (pc := 47) (v := (0 : Int32)) dX8_copy_47 rfl ?_
    refine r_istore (pc := 48) (ls1 := [(7, .int (0 : Int32)), (0, .ref (ad g 73)), (1, .int a1), (2, .int a2), (3, .int a3), (4, .int a4), (5, .int a5), (6, .int a6)]) dX8_copy_48 (nle rfl) rfl ?_
    refine r_pick (ls1 := [(0, .ref (ad g 73)), (1, .int a1), (2, .int a2), (3, .int a3), (4, .int a4), (5, .int a5), (6, .int a6), (7, .int (0 : Int32))]) [1, 2, 3, 4, 5, 6, 7, 0] rfl ?_
    refine sX8_copy_L50     fuel (0 : Int32) σ1 hr hσ1
  replace hr := ite_f hc hr
  refine r_iconst (pc := 41) (v := (-1 : Int32)) dX8_copy_41 rfl ?_
  exact l_osi hr (r_iret (pc := 42) (v := (-1 : Int32)) rfl rfl ⟨Nat.le_refl _, Nat.le_refl _⟩ dX8_copy_42)

theorem kX8_copy {g : GG} {σ : SS} {a1 : Int32} {a2 : Int32} {a3 : Int32} {a4 : Int32} {a5 : Int32} {a6 : Int32} {v : Int32} {σ2 : SS} {M : MM} {F : State → Array Value → List Frame → State → Prop} {pc index : Nat} {ls : List (Nat × Value)} {rest : List Value} (hf : fX8_copy σ a1 a2 a3 a4 a5 a6 = some (v, σ2))  (hl : Cond.methodLink M.1.cls index yX8_copy ∈ lw_gt) (hR : mX8_copy.2.2.2.2.frames + 1 ≤ M.2.2.2.2.frames ∧ 8 + (mX8_copy.2.2.1 + 11) + mX8_copy.2.2.2.2.locals ≤ M.2.2.2.2.locals) (hrest : (rest.map fun v => v.category).sum ≤ 8) (hd : decode M.2.1 pc = .ok (.invokevirtual index, 3)) (k : WT σ2 → RR g M F zF (pc + 3) ls (.int v :: rest) σ2) : RR g M F zF pc ls (.int a6 :: .int a5 :: .int a4 :: .int a3 :: .int a2 :: .int a1 :: .ref (ad g 73) :: rest) σ :=
  r_callV (z := zF) (N := mX8_copy) (nn := 6) (o1 := some (.int v)) (sX8_copy hf ) (rfl : shp 73 = (8, 0)) (by decide) (shp_le (rfl : shp 73 = (8, 0)) (nle rfl)) (ci := 8) rfl rfl tw_6_210 tw_1_10 hl tw_6_208 tw_6_209 ⟨by decide, by decide, rfl⟩ hR rfl hrest hd ⟨Nat.zero_le _, Nat.zero_le _⟩ rfl (fun h => k (h rfl))

theorem dX6_takeShifted_0 : decode cX6_takeShifted 0 = .ok (.aload_n 0, 1) := by decide +kernel
theorem dX6_takeShifted_1 : decode cX6_takeShifted 1 = .ok (.aload_n 1, 1) := by decide +kernel
theorem dX6_takeShifted_2 : decode cX6_takeShifted 2 = .ok (.getfield 18, 3) := by decide +kernel
theorem dX6_takeShifted_5 : decode cX6_takeShifted 5 = .ok (.putfield 18, 3) := by decide +kernel
theorem dX6_takeShifted_8 : decode cX6_takeShifted 8 = .ok (.aload_n 0, 1) := by decide +kernel
theorem dX6_takeShifted_9 : decode cX6_takeShifted 9 = .ok (.aload_n 1, 1) := by decide +kernel
theorem dX6_takeShifted_10 : decode cX6_takeShifted 10 = .ok (.getfield 22, 3) := by decide +kernel
theorem dX6_takeShifted_13 : decode cX6_takeShifted 13 = .ok (.putfield 22, 3) := by decide +kernel
theorem dX6_takeShifted_16 : decode cX6_takeShifted 16 = .ok (.iconst 0, 1) := by decide +kernel
theorem dX6_takeShifted_17 : decode cX6_takeShifted 17 = .ok (.istore 4, 2) := by decide +kernel
theorem dX6_takeShifted_19 : decode cX6_takeShifted 19 = .ok (.iload 4, 2) := by decide +kernel
theorem dX6_takeShifted_21 : decode cX6_takeShifted 21 = .ok (.aload_n 0, 1) := by decide +kernel
theorem dX6_takeShifted_22 : decode cX6_takeShifted 22 = .ok (.getfield 22, 3) := by decide +kernel
theorem dX6_takeShifted_25 : decode cX6_takeShifted 25 = .ok (.if_icmp .ge 48, 3) := by decide +kernel
theorem dX6_takeShifted_28 : decode cX6_takeShifted 28 = .ok (.iconst 0, 1) := by decide +kernel
theorem dX6_takeShifted_29 : decode cX6_takeShifted 29 = .ok (.istore 5, 2) := by decide +kernel
theorem dX6_takeShifted_31 : decode cX6_takeShifted 31 = .ok (.iload 5, 2) := by decide +kernel
theorem dX6_takeShifted_33 : decode cX6_takeShifted 33 = .ok (.aload_n 0, 1) := by decide +kernel
theorem dX6_takeShifted_34 : decode cX6_takeShifted 34 = .ok (.getfield 18, 3) := by decide +kernel
theorem dX6_takeShifted_37 : decode cX6_takeShifted 37 = .ok (.if_icmp .ge 30, 3) := by decide +kernel
theorem dX6_takeShifted_40 : decode cX6_takeShifted 40 = .ok (.aload_n 0, 1) := by decide +kernel
theorem dX6_takeShifted_41 : decode cX6_takeShifted 41 = .ok (.iload 5, 2) := by decide +kernel
theorem dX6_takeShifted_43 : decode cX6_takeShifted 43 = .ok (.iload 4, 2) := by decide +kernel
theorem dX6_takeShifted_45 : decode cX6_takeShifted 45 = .ok (.aload_n 1, 1) := by decide +kernel
theorem dX6_takeShifted_46 : decode cX6_takeShifted 46 = .ok (.iload 5, 2) := by decide +kernel
theorem dX6_takeShifted_48 : decode cX6_takeShifted 48 = .ok (.iload_n 2, 1) := by decide +kernel
theorem dX6_takeShifted_49 : decode cX6_takeShifted 49 = .ok (.isub, 1) := by decide +kernel
theorem dX6_takeShifted_50 : decode cX6_takeShifted 50 = .ok (.iload 4, 2) := by decide +kernel
theorem dX6_takeShifted_52 : decode cX6_takeShifted 52 = .ok (.iload_n 3, 1) := by decide +kernel
theorem dX6_takeShifted_53 : decode cX6_takeShifted 53 = .ok (.isub, 1) := by decide +kernel
theorem dX6_takeShifted_54 : decode cX6_takeShifted 54 = .ok (.invokevirtual 45, 3) := by decide +kernel
theorem dX6_takeShifted_57 : decode cX6_takeShifted 57 = .ok (.invokevirtual 35, 3) := by decide +kernel
theorem dX6_takeShifted_60 : decode cX6_takeShifted 60 = .ok (.pop, 1) := by decide +kernel
theorem dX6_takeShifted_61 : decode cX6_takeShifted 61 = .ok (.iinc 5 1, 3) := by decide +kernel
theorem dX6_takeShifted_64 : decode cX6_takeShifted 64 = .ok (.goto (-33), 3) := by decide +kernel
theorem dX6_takeShifted_67 : decode cX6_takeShifted 67 = .ok (.iinc 4 1, 3) := by decide +kernel
theorem dX6_takeShifted_70 : decode cX6_takeShifted 70 = .ok (.goto (-51), 3) := by decide +kernel
theorem dX6_takeShifted_73 : decode cX6_takeShifted 73 = .ok (.return_, 1) := by decide +kernel
def mX6_takeShifted : MM := (yX6_takeShifted, cX6_takeShifted, 6, none, { frames := 2, cells := 0, slots := 0, locals := 47 })
def X6_takeShifted_L31 (o0_ : Nat) (o1_ : Nat) (u2_ : Int32) (u3_ : Int32) (u4_ : Int32) (k67 : SS → Option SS) : Nat → Int32 → SS → Option SS :=
  lp (fun _ _ => none) fun rec v5_ σ_ =>
    if (gI σ_ o0_ 0) ≤ v5_ then (
      k67 σ_
      ) else (
      bnd1 (fX6_at σ_ o1_ (v5_ - u2_) (u4_ - u3_)) fun v3 =>
      bnd (fX6_put σ_ o0_ v5_ u4_ v3) fun b7 σ9 =>
      rec (v5_ + (1 : Int32)) σ9
      )

def X6_takeShifted_L19 (o0_ : Nat) (o1_ : Nat) (u2_ : Int32) (u3_ : Int32)  : Nat → Int32 → SS → Option SS :=
  lp (fun _ _ => none) fun rec v4_ σ_ =>
    if (gI σ_ o0_ 1) ≤ v4_ then (
      some σ_
      ) else (
      X6_takeShifted_L31 o0_ o1_ u2_ u3_ v4_
      (fun σ10 =>
        rec (v4_ + (1 : Int32)) σ10
        )
      fuel (0 : Int32) σ_
      )

def fX6_takeShifted (σ : SS) (a0 : Nat) (a1 : Nat) (a2 : Int32) (a3 : Int32) : Option SS :=
  vthen (sI σ a0 0 (gI σ a1 0)) fun σ1 =>
  vthen (sI σ1 a0 1 (gI σ1 a1 1)) fun σ2 =>
  X6_takeShifted_L19 a0 a1 a2 a3
  fuel (0 : Int32) σ2

set_option maxRecDepth 20000 in
theorem sX6_takeShifted_L31 {g : GG} {r : SS} {o0_ : Nat} {o1_ : Nat} {u2_ : Int32} {u3_ : Int32} {u4_ : Int32} {k67 : SS → Option SS} (hs0_ : shp o0_ = (6, 0)) (hs1_ : shp o1_ = (6, 0))
    (hk67 : ∀ (σ_ : SS), k67 σ_ = some r → WT σ_ → RR g mX6_takeShifted (FinR g mX6_takeShifted none NF r) zF 67 [(0, .ref (ad g o0_)), (1, .ref (ad g o1_)), (2, .int u2_), (3, .int u3_), (4, .int u4_)] [] σ_)
    (n : Nat) : ∀ (v5_ : Int32) (σ_ : SS), X6_takeShifted_L31 o0_ o1_ u2_ u3_ u4_ k67 n v5_ σ_ = some r → WT σ_ → RR g mX6_takeShifted (FinR g mX6_takeShifted none NF r) zF 31 [(0, .ref (ad g o0_)), (1, .ref (ad g o1_)), (2, .int u2_), (3, .int u3_), (4, .int u4_), (5, .int v5_)] [] σ_ := by
  unfold X6_takeShifted_L31
  refine lp_ind (P := fun (rec : Int32 → SS → Option SS) => ∀ (v5_ : Int32) (σ_ : SS), rec v5_ σ_ = some r → WT σ_ → RR g mX6_takeShifted (FinR g mX6_takeShifted none NF r) zF 31 [(0, .ref (ad g o0_)), (1, .ref (ad g o1_)), (2, .int u2_), (3, .int u3_), (4, .int u4_), (5, .int v5_)] [] σ_) ?_ ?_ n
  · intro v5_ σ_ hr; cases hr
  intro rec ih v5_ σ_ hr hw_
  refine r_iload (pc := 31) (j := 5) dX6_takeShifted_31 rfl ?_
  refine r_aload_n (pc := 33) (j := 0) dX6_takeShifted_33 rfl rfl ?_
  refine gf6_0 (pc := 34) tw_1_32 hs0_ dX6_takeShifted_34 ?_
  refine r_icmp_ge (pc := 37) (tgt := 67) dX6_takeShifted_37 rfl (fun hc => ?_) (fun hc => ?_)
  · replace hr := ite_t hc hr
    exact r_pick (ls1 := [(0, .ref (ad g o0_)), (1, .ref (ad g o1_)), (2, .int u2_), (3, .int u3_), (4, .int u4_)]) [0, 1, 2, 3, 4] rfl (hk67 σ_ hr hw_)
  replace hr := ite_f hc hr
  refine r_aload_n (pc := 40) (j := 0) dX6_takeShifted_40 rfl rfl ?_
  refine r_iload (pc := 41) (j := 5) dX6_takeShifted_41 rfl ?_
  refine r_iload (pc := 43) (j := 4) dX6_takeShifted_43 rfl ?_
  refine r_aload_n (pc := 45) (j := 1) dX6_takeShifted_45 rfl rfl ?_
  refine r_iload (pc := 46) (j := 5) dX6_takeShifted_46 rfl ?_
  refine r_iload_n (pc := 48) (j := 2) dX6_takeShifted_48 rfl rfl ?_
  refine r_isub (pc := 49) dX6_takeShifted_49 ?_
  refine r_iload (pc := 50) (j := 4) dX6_takeShifted_50 rfl ?_
  refine r_iload_n (pc := 52) (j := 3) dX6_takeShifted_52 rfl rfl ?_
  refine r_isub (pc := 53) dX6_takeShifted_53 ?_
  obtain ⟨v3, hv3, hr⟩ := bnd1_inv hr
  refine kX6_at (pc := 54) hv3 hs1_ tw_3_161 ⟨nle rfl, nle rfl⟩ (nle rfl) dX6_takeShifted_54 ?_
  obtain ⟨b7, σ9, eσ9, hr⟩ := bnd_inv hr
  refine kX6_put (pc := 57) eσ9 hs0_ tw_3_162 ⟨nle rfl, nle rfl⟩ (nle rfl) dX6_takeShifted_57 fun hσ9 => ?_
  refine r_pop (pc := 60) dX6_takeShifted_60 rfl ?_
  refine r_iinc (pc := 61) (j := 5) (v := (v5_ + (1 : Int32))) (ls1 := [(5, .int (v5_ + (1 : Int32))), (0, .ref (ad g o0_)), (1, .ref (ad g o1_)), (2, .int u2_), (3, .int u3_), (4, .int u4_)]) dX6_takeShifted_61 rfl rfl (nle rfl) rfl ?_
  refine r_goto (pc := 64) (tgt := 31) dX6_takeShifted_64 rfl ?_
  exact r_pick (ls1 := [(0, .ref (ad g o0_)), (1, .ref (ad g o1_)), (2, .int u2_), (3, .int u3_), (4, .int u4_), (5, .int (v5_ + (1 : Int32)))]) [1, 2, 3, 4, 5, 0] rfl (ih (v5_ + (1 : Int32)) σ9 hr hσ9)

set_option maxRecDepth 20000 in
theorem sX6_takeShifted_L19 {g : GG} {r : SS} {o0_ : Nat} {o1_ : Nat} {u2_ : Int32} {u3_ : Int32}  (hs0_ : shp o0_ = (6, 0)) (hs1_ : shp o1_ = (6, 0))
    (n : Nat) : ∀ (v4_ : Int32) (σ_ : SS), X6_takeShifted_L19 o0_ o1_ u2_ u3_ n v4_ σ_ = some r → WT σ_ → RR g mX6_takeShifted (FinR g mX6_takeShifted none NF r) zF 19 [(0, .ref (ad g o0_)), (1, .ref (ad g o1_)), (2, .int u2_), (3, .int u3_), (4, .int v4_)] [] σ_ := by
  unfold X6_takeShifted_L19
  refine lp_ind (P := fun (rec : Int32 → SS → Option SS) => ∀ (v4_ : Int32) (σ_ : SS), rec v4_ σ_ = some r → WT σ_ → RR g mX6_takeShifted (FinR g mX6_takeShifted none NF r) zF 19 [(0, .ref (ad g o0_)), (1, .ref (ad g o1_)), (2, .int u2_), (3, .int u3_), (4, .int v4_)] [] σ_) ?_ ?_ n
  · intro v4_ σ_ hr; cases hr
  intro rec ih v4_ σ_ hr hw_
  refine r_iload (pc := 19) (j := 4) dX6_takeShifted_19 rfl ?_
  refine r_aload_n (pc := 21) (j := 0) dX6_takeShifted_21 rfl rfl ?_
  refine gf6_1 (pc := 22) tw_1_37 hs0_ dX6_takeShifted_22 ?_
  refine r_icmp_ge (pc := 25) (tgt := 73) dX6_takeShifted_25 rfl (fun hc => ?_) (fun hc => ?_)
  · replace hr := ite_t hc hr
    exact l_ov hr (r_vret (pc := 73) rfl rfl ⟨Nat.le_refl _, Nat.le_refl _⟩ dX6_takeShifted_73)
  replace hr := ite_f hc hr
  refine r_iconst (pc := 28) (v := (0 : Int32)) dX6_takeShifted_28 rfl ?_
  refine r_istore (pc := 29) (ls1 := [(5, .int (0 : Int32)), (0, .ref (ad g o0_)), (1, .ref (ad g o1_)), (2, .int u2_), (3, .int u3_), (4, .int v4_)]) dX6_takeShifted_29 (nle rfl) rfl ?_
  refine r_pick (ls1 := [(0, .ref (ad g o0_)), (1, .ref (ad g o1_)), (2, .int u2_), (3, .int u3_), (4, .int v4_), (5, .int (0 : Int32))]) [1, 2, 3, 4, 5, 0] rfl ?_
  refine sX6_takeShifted_L31 hs0_ hs1_   (fun σ10 hr hσ10 => ?_) fuel (0 : Int32) σ_ hr hw_
  refine r_iinc (pc := 67) (j := 4) (v := (v4_ + (1 : Int32))) (ls1 := [(4, .int (v4_ + (1 : Int32))), (0, .ref (ad g o0_)), (1, .ref (ad g o1_)), (2, .int u2_), (3, .int u3_)]) dX6_takeShifted_67 rfl rfl (nle rfl) rfl ?_
  refine r_goto (pc := 70) (tgt := 19) dX6_takeShifted_70 rfl ?_
  exact r_pick (ls1 := [(0, .ref (ad g o0_)), (1, .ref (ad g o1_)), (2, .int u2_), (3, .int u3_), (4, .int (v4_ + (1 : Int32)))]) [1, 2, 3, 4, 0] rfl (ih (v4_ + (1 : Int32)) σ10 hr hσ10)

set_option maxRecDepth 20000 in
theorem sX6_takeShifted {g : GG} {σ : SS} {a0 : Nat} {a1 : Nat} {a2 : Int32} {a3 : Int32} {r : SS} (hr : fX6_takeShifted σ a0 a1 a2 a3 = some r) (hs0 : shp a0 = (6, 0)) (hs1 : shp a1 = (6, 0)) : Ct g mX6_takeShifted [.ref (ad g a0), .ref (ad g a1), .int a2, .int a3] NF σ none NF r := by
  refine Ct.of (by decide +kernel) (nle rfl) fun hw0 => ?_
  have hw := hw0 rfl
  unfold fX6_takeShifted at hr
  change RR g mX6_takeShifted (FinR g mX6_takeShifted none NF r) zF 0 [(0, .ref (ad g a0)), (1, .ref (ad g a1)), (2, .int a2), (3, .int a3)] [] σ
  refine r_aload_n (pc := 0) (j := 0) dX6_takeShifted_0 rfl rfl ?_
  refine r_aload_n (pc := 1) (j := 1) dX6_takeShifted_1 rfl rfl ?_
  refine gf6_0 (pc := 2) tw_1_32 hs1 dX6_takeShifted_2 ?_
  refine pf6_0 (pc := 5) tw_1_32 hs0 dX6_takeShifted_5 fun σ1 eσ1 => ?_
  replace hr := vthen_inv hr σ1 eσ1
  have hσ1 := wtI eσ1 hw
  refine r_aload_n (pc := 8) (j := 0) dX6_takeShifted_8 rfl rfl ?_
  refine r_aload_n (pc := 9) (j := 1) dX6_takeShifted_9 rfl rfl ?_
  refine gf6_1 (pc := 10) tw_1_37 hs1 dX6_takeShifted_10 ?_
  refine pf6_1 (pc := 13) tw_1_37 hs0 dX6_takeShifted_13 fun σ2 eσ2 => ?_
  replace hr := vthen_inv hr σ2 eσ2
  have hσ2 := wtI eσ2 hσ1
  refine r_iconst (pc := 16) (v := (0 : Int32)) dX6_takeShifted_16 rfl ?_
  refine r_istore (pc := 17) (ls1 := [(4, .int (0 : Int32)), (0, .ref (ad g a0)), (1, .ref (ad g a1)), (2, .int a2), (3, .int a3)]) dX6_takeShifted_17 (nle rfl) rfl ?_
  refine r_pick (ls1 := [(0, .ref (ad g a0)), (1, .ref (ad g a1)), (2, .int a2), (3, .int a3), (4, .int (0 : Int32))]) [1, 2, 3, 4, 0] rfl ?_
  refine sX6_takeShifted_L19 hs0 hs1    fuel (0 : Int32) σ2 hr hσ2

theorem kX6_takeShifted {g : GG} {σ : SS} {a0 : Nat} {a1 : Nat} {a2 : Int32} {a3 : Int32} {σ2 : SS} {M : MM} {F : State → Array Value → List Frame → State → Prop} {pc index : Nat} {ls : List (Nat × Value)} {rest : List Value} (hf : fX6_takeShifted σ a0 a1 a2 a3 = some σ2) (hs0 : shp a0 = (6, 0)) (hs1 : shp a1 = (6, 0)) (hl : Cond.methodLink M.1.cls index yX6_takeShifted ∈ lw_gt) (hR : mX6_takeShifted.2.2.2.2.frames + 1 ≤ M.2.2.2.2.frames ∧ 8 + (mX6_takeShifted.2.2.1 + 11) + mX6_takeShifted.2.2.2.2.locals ≤ M.2.2.2.2.locals) (hrest : (rest.map fun v => v.category).sum ≤ 8) (hd : decode M.2.1 pc = .ok (.invokevirtual index, 3)) (k : WT σ2 → RR g M F zF (pc + 3) ls rest σ2) : RR g M F zF pc ls (.int a3 :: .int a2 :: .ref (ad g a1) :: .ref (ad g a0) :: rest) σ :=
  r_callV (z := zF) (N := mX6_takeShifted) (nn := 3) (o1 := none) (sX6_takeShifted hf hs0 hs1) hs0 (by decide) (shp_le hs0 (nle rfl)) (ci := 6) rfl rfl tw_3_191 tw_1_2 hl tw_3_189 tw_3_190 ⟨by decide, by decide, rfl⟩ hR rfl hrest hd ⟨Nat.zero_le _, Nat.zero_le _⟩ rfl (fun h => k (h rfl))

theorem dX7_shift_0 : decode cX7_shift 0 = .ok (.iload_n 1, 1) := by decide +kernel
theorem dX7_shift_1 : decode cX7_shift 1 = .ok (.bipush (-40), 2) := by decide +kernel
theorem dX7_shift_3 : decode cX7_shift 3 = .ok (.if_icmp .lt 21, 3) := by decide +kernel
theorem dX7_shift_6 : decode cX7_shift 6 = .ok (.iload_n 1, 1) := by decide +kernel
theorem dX7_shift_7 : decode cX7_shift 7 = .ok (.bipush 40, 2) := by decide +kernel
theorem dX7_shift_9 : decode cX7_shift 9 = .ok (.if_icmp .gt 15, 3) := by decide +kernel
theorem dX7_shift_12 : decode cX7_shift 12 = .ok (.iload_n 2, 1) := by decide +kernel
theorem dX7_shift_13 : decode cX7_shift 13 = .ok (.bipush (-40), 2) := by decide +kernel
theorem dX7_shift_15 : decode cX7_shift 15 = .ok (.if_icmp .lt 9, 3) := by decide +kernel
theorem dX7_shift_18 : decode cX7_shift 18 = .ok (.iload_n 2, 1) := by decide +kernel
theorem dX7_shift_19 : decode cX7_shift 19 = .ok (.bipush 40, 2) := by decide +kernel
theorem dX7_shift_21 : decode cX7_shift 21 = .ok (.if_icmp .le 5, 3) := by decide +kernel
theorem dX7_shift_24 : decode cX7_shift 24 = .ok (.iconst (-1), 1) := by decide +kernel
theorem dX7_shift_25 : decode cX7_shift 25 = .ok (.ireturn, 1) := by decide +kernel
theorem dX7_shift_26 : decode cX7_shift 26 = .ok (.aload_n 0, 1) := by decide +kernel
theorem dX7_shift_27 : decode cX7_shift 27 = .ok (.getfield 22, 3) := by decide +kernel
theorem dX7_shift_30 : decode cX7_shift 30 = .ok (.aload_n 0, 1) := by decide +kernel
theorem dX7_shift_31 : decode cX7_shift 31 = .ok (.getfield 18, 3) := by decide +kernel
theorem dX7_shift_34 : decode cX7_shift 34 = .ok (.iload_n 1, 1) := by decide +kernel
theorem dX7_shift_35 : decode cX7_shift 35 = .ok (.iload_n 2, 1) := by decide +kernel
theorem dX7_shift_36 : decode cX7_shift 36 = .ok (.invokevirtual 198, 3) := by decide +kernel
theorem dX7_shift_39 : decode cX7_shift 39 = .ok (.aload_n 0, 1) := by decide +kernel
theorem dX7_shift_40 : decode cX7_shift 40 = .ok (.invokevirtual 194, 3) := by decide +kernel
theorem dX7_shift_43 : decode cX7_shift 43 = .ok (.ireturn, 1) := by decide +kernel
def mX7_shift : MM := (yX7_shift, cX7_shift, 3, Option.some Jvm.ClassFile.FieldType.int, { frames := 3, cells := 0, slots := 0, locals := 72 })
def fX7_shift (σ : SS) (a1 : Int32) (a2 : Int32) : Option (Int32 × SS) :=
  if a1 < (-40 : Int32) then (
    some ((-1 : Int32), σ)
    ) else (
    if (40 : Int32) < a1 then (
      some ((-1 : Int32), σ)
      ) else (
      if a2 < (-40 : Int32) then (
        some ((-1 : Int32), σ)
        ) else (
        if a2 ≤ (40 : Int32) then (
          bnd1 (fX6_takeShifted σ (gR σ 1 3) (gR σ 1 2) a1 a2) fun σ1 =>
          bnd (fX7_takeSpare σ1) fun v2 σ5 =>
          some (v2, σ5)
          ) else (
          some ((-1 : Int32), σ)
          )
        )
      )
    )

set_option maxRecDepth 20000 in
theorem sX7_shift {g : GG} {σ : SS} {a1 : Int32} {a2 : Int32} {r : Int32 × SS} (hr : fX7_shift σ a1 a2 = some r)  : Ct g mX7_shift [.ref (ad g 1), .int a1, .int a2] NF σ (some (.int r.1)) NF r.2 := by
  refine Ct.of (by decide +kernel) (nle rfl) fun hw0 => ?_
  have hw := hw0 rfl
  unfold fX7_shift at hr
  change RR g mX7_shift (FinR g mX7_shift (some (.int r.1)) NF r.2) zF 0 [(0, .ref (ad g 1)), (1, .int a1), (2, .int a2)] [] σ
  refine r_iload_n (pc := 0) (j := 1) dX7_shift_0 rfl rfl ?_
  refine r_bipush (pc := 1) (v := (-40 : Int32)) dX7_shift_1 rfl ?_
  refine r_icmp_lt (pc := 3) (tgt := 24) dX7_shift_3 rfl (fun hc => ?_) (fun hc => ?_)
  · replace hr := ite_t hc hr
    refine r_iconst (pc := 24) (v := (-1 : Int32)) dX7_shift_24 rfl ?_
    exact l_osi hr (r_iret (pc := 25) (v := (-1 : Int32)) rfl rfl ⟨Nat.le_refl _, Nat.le_refl _⟩ dX7_shift_25)
  replace hr := ite_f hc hr
  refine r_iload_n (pc := 6) (j := 1) dX7_shift_6 rfl rfl ?_
  refine r_bipush (pc := 7) (v := (40 : Int32)) dX7_shift_7 rfl ?_
  refine r_icmp_gt (pc := 9) (tgt := 24) dX7_shift_9 rfl (fun hc => ?_) (fun hc => ?_)
  · replace hr := ite_t hc hr
    refine r_iconst (pc := 24) (v := (-1 : Int32)) dX7_shift_24 rfl ?_
    exact l_osi hr (r_iret (pc := 25) (v := (-1 : Int32)) rfl rfl ⟨Nat.le_refl _, Nat.le_refl _⟩ dX7_shift_25)
  replace hr := ite_f hc hr
  refine r_iload_n (pc := 12) (j := 2) dX7_shift_12 rfl rfl ?_
  refine r_bipush (pc := 13) (v := (-40 : Int32)) dX7_shift_13 rfl ?_
  refine r_icmp_lt (pc := 15) (tgt := 24) dX7_shift_15 rfl (fun hc => ?_) (fun hc => ?_)
  · replace hr := ite_t hc hr
    refine r_iconst (pc := 24) (v := (-1 : Int32)) dX7_shift_24 rfl ?_
    exact l_osi hr (r_iret (pc := 25) (v := (-1 : Int32)) rfl rfl ⟨Nat.le_refl _, Nat.le_refl _⟩ dX7_shift_25)
  replace hr := ite_f hc hr
  refine r_iload_n (pc := 18) (j := 2) dX7_shift_18 rfl rfl ?_
  refine r_bipush (pc := 19) (v := (40 : Int32)) dX7_shift_19 rfl ?_
  refine r_icmp_le (pc := 21) (tgt := 26) dX7_shift_21 rfl (fun hc => ?_) (fun hc => ?_)
  · replace hr := ite_t hc hr
    refine r_aload_n (pc := 26) (j := 0) dX7_shift_26 rfl rfl ?_
    refine gf7_3 (pc := 27) tw_2_112 hw dX7_shift_27 ?_
    refine r_aload_n (pc := 30) (j := 0) dX7_shift_30 rfl rfl ?_
    refine gf7_2 (pc := 31) tw_2_111 hw dX7_shift_31 ?_
    refine r_iload_n (pc := 34) (j := 1) dX7_shift_34 rfl rfl ?_
    refine r_iload_n (pc := 35) (j := 2) dX7_shift_35 rfl rfl ?_
    obtain ⟨σ1, eσ1, hr⟩ := bnd1_inv hr
    refine kX6_takeShifted (pc := 36) eσ1 (wt_sp hw).1 (wt_sc hw).1 tw_3_188 ⟨nle rfl, nle rfl⟩ (nle rfl) dX7_shift_36 fun hσ1 => ?_
    refine r_aload_n (pc := 39) (j := 0) dX7_shift_39 rfl rfl ?_
    obtain ⟨v2, σ5, eσ5, hr⟩ := bnd_inv hr
    refine kX7_takeSpare (pc := 40) eσ5 tw_3_176 ⟨nle rfl, nle rfl⟩ (nle rfl) dX7_shift_40 fun hσ5 => ?_
    exact l_osi hr (r_iret (pc := 43) (v := v2) rfl rfl ⟨Nat.le_refl _, Nat.le_refl _⟩ dX7_shift_43)
  replace hr := ite_f hc hr
  refine r_iconst (pc := 24) (v := (-1 : Int32)) dX7_shift_24 rfl ?_
  exact l_osi hr (r_iret (pc := 25) (v := (-1 : Int32)) rfl rfl ⟨Nat.le_refl _, Nat.le_refl _⟩ dX7_shift_25)

theorem kX7_shift {g : GG} {σ : SS} {a1 : Int32} {a2 : Int32} {v : Int32} {σ2 : SS} {M : MM} {F : State → Array Value → List Frame → State → Prop} {pc index : Nat} {ls : List (Nat × Value)} {rest : List Value} (hf : fX7_shift σ a1 a2 = some (v, σ2))  (hl : Cond.methodLink M.1.cls index yX7_shift ∈ lw_gt) (hR : mX7_shift.2.2.2.2.frames + 1 ≤ M.2.2.2.2.frames ∧ 8 + (mX7_shift.2.2.1 + 11) + mX7_shift.2.2.2.2.locals ≤ M.2.2.2.2.locals) (hrest : (rest.map fun v => v.category).sum ≤ 8) (hd : decode M.2.1 pc = .ok (.invokevirtual index, 3)) (k : WT σ2 → RR g M F zF (pc + 3) ls (.int v :: rest) σ2) : RR g M F zF pc ls (.int a2 :: .int a1 :: .ref (ad g 1) :: rest) σ :=
  r_callV (z := zF) (N := mX7_shift) (nn := 2) (o1 := some (.int v)) (sX7_shift hf ) (rfl : shp 1 = (7, 0)) (by decide) (shp_le (rfl : shp 1 = (7, 0)) (nle rfl)) (ci := 7) rfl rfl tw_3_187 tw_1_1 hl tw_3_185 tw_3_186 ⟨by decide, by decide, rfl⟩ hR rfl hrest hd ⟨Nat.zero_le _, Nat.zero_le _⟩ rfl (fun h => k (h rfl))

theorem dX8_shift_0 : decode cX8_shift 0 = .ok (.iload_n 1, 1) := by decide +kernel
theorem dX8_shift_1 : decode cX8_shift 1 = .ok (.bipush (-40), 2) := by decide +kernel
theorem dX8_shift_3 : decode cX8_shift 3 = .ok (.bipush 40, 2) := by decide +kernel
theorem dX8_shift_5 : decode cX8_shift 5 = .ok (.invokestatic 165, 3) := by decide +kernel
theorem dX8_shift_8 : decode cX8_shift 8 = .ok (.ifCond .eq 14, 3) := by decide +kernel
theorem dX8_shift_11 : decode cX8_shift 11 = .ok (.iload_n 2, 1) := by decide +kernel
theorem dX8_shift_12 : decode cX8_shift 12 = .ok (.bipush (-40), 2) := by decide +kernel
theorem dX8_shift_14 : decode cX8_shift 14 = .ok (.bipush 40, 2) := by decide +kernel
theorem dX8_shift_16 : decode cX8_shift 16 = .ok (.invokestatic 165, 3) := by decide +kernel
theorem dX8_shift_19 : decode cX8_shift 19 = .ok (.ifCond .ne 5, 3) := by decide +kernel
theorem dX8_shift_22 : decode cX8_shift 22 = .ok (.iconst (-1), 1) := by decide +kernel
theorem dX8_shift_23 : decode cX8_shift 23 = .ok (.ireturn, 1) := by decide +kernel
theorem dX8_shift_24 : decode cX8_shift 24 = .ok (.aload_n 0, 1) := by decide +kernel
theorem dX8_shift_25 : decode cX8_shift 25 = .ok (.invokevirtual 289, 3) := by decide +kernel
theorem dX8_shift_28 : decode cX8_shift 28 = .ok (.iconst 0, 1) := by decide +kernel
theorem dX8_shift_29 : decode cX8_shift 29 = .ok (.istore_n 3, 1) := by decide +kernel
theorem dX8_shift_30 : decode cX8_shift 30 = .ok (.iload_n 3, 1) := by decide +kernel
theorem dX8_shift_31 : decode cX8_shift 31 = .ok (.aload_n 0, 1) := by decide +kernel
theorem dX8_shift_32 : decode cX8_shift 32 = .ok (.getfield 136, 3) := by decide +kernel
theorem dX8_shift_35 : decode cX8_shift 35 = .ok (.if_icmp .ge 77, 3) := by decide +kernel
theorem dX8_shift_38 : decode cX8_shift 38 = .ok (.iconst 0, 1) := by decide +kernel
theorem dX8_shift_39 : decode cX8_shift 39 = .ok (.istore 4, 2) := by decide +kernel
theorem dX8_shift_41 : decode cX8_shift 41 = .ok (.iload 4, 2) := by decide +kernel
theorem dX8_shift_43 : decode cX8_shift 43 = .ok (.aload_n 0, 1) := by decide +kernel
theorem dX8_shift_44 : decode cX8_shift 44 = .ok (.getfield 132, 3) := by decide +kernel
theorem dX8_shift_47 : decode cX8_shift 47 = .ok (.if_icmp .ge 59, 3) := by decide +kernel
theorem dX8_shift_50 : decode cX8_shift 50 = .ok (.aload_n 0, 1) := by decide +kernel
theorem dX8_shift_51 : decode cX8_shift 51 = .ok (.getfield 38, 3) := by decide +kernel
theorem dX8_shift_54 : decode cX8_shift 54 = .ok (.aload_n 0, 1) := by decide +kernel
theorem dX8_shift_55 : decode cX8_shift 55 = .ok (.getfield 132, 3) := by decide +kernel
theorem dX8_shift_58 : decode cX8_shift 58 = .ok (.iload_n 3, 1) := by decide +kernel
theorem dX8_shift_59 : decode cX8_shift 59 = .ok (.imul, 1) := by decide +kernel
theorem dX8_shift_60 : decode cX8_shift 60 = .ok (.iload 4, 2) := by decide +kernel
theorem dX8_shift_62 : decode cX8_shift 62 = .ok (.iadd, 1) := by decide +kernel
theorem dX8_shift_63 : decode cX8_shift 63 = .ok (.aload_n 0, 1) := by decide +kernel
theorem dX8_shift_64 : decode cX8_shift 64 = .ok (.iload 4, 2) := by decide +kernel
theorem dX8_shift_66 : decode cX8_shift 66 = .ok (.iload_n 1, 1) := by decide +kernel
theorem dX8_shift_67 : decode cX8_shift 67 = .ok (.isub, 1) := by decide +kernel
theorem dX8_shift_68 : decode cX8_shift 68 = .ok (.iload_n 3, 1) := by decide +kernel
theorem dX8_shift_69 : decode cX8_shift 69 = .ok (.iload_n 2, 1) := by decide +kernel
theorem dX8_shift_70 : decode cX8_shift 70 = .ok (.isub, 1) := by decide +kernel
theorem dX8_shift_71 : decode cX8_shift 71 = .ok (.invokevirtual 281, 3) := by decide +kernel
theorem dX8_shift_74 : decode cX8_shift 74 = .ok (.ifCond .eq 24, 3) := by decide +kernel
theorem dX8_shift_77 : decode cX8_shift 77 = .ok (.aload_n 0, 1) := by decide +kernel
theorem dX8_shift_78 : decode cX8_shift 78 = .ok (.getfield 41, 3) := by decide +kernel
theorem dX8_shift_81 : decode cX8_shift 81 = .ok (.aload_n 0, 1) := by decide +kernel
theorem dX8_shift_82 : decode cX8_shift 82 = .ok (.getfield 132, 3) := by decide +kernel
theorem dX8_shift_85 : decode cX8_shift 85 = .ok (.iload_n 3, 1) := by decide +kernel
theorem dX8_shift_86 : decode cX8_shift 86 = .ok (.iload_n 2, 1) := by decide +kernel
theorem dX8_shift_87 : decode cX8_shift 87 = .ok (.isub, 1) := by decide +kernel
theorem dX8_shift_88 : decode cX8_shift 88 = .ok (.imul, 1) := by decide +kernel
theorem dX8_shift_89 : decode cX8_shift 89 = .ok (.iload 4, 2) := by decide +kernel
theorem dX8_shift_91 : decode cX8_shift 91 = .ok (.iadd, 1) := by decide +kernel
theorem dX8_shift_92 : decode cX8_shift 92 = .ok (.iload_n 1, 1) := by decide +kernel
theorem dX8_shift_93 : decode cX8_shift 93 = .ok (.isub, 1) := by decide +kernel
theorem dX8_shift_94 : decode cX8_shift 94 = .ok (.iaload, 1) := by decide +kernel
theorem dX8_shift_95 : decode cX8_shift 95 = .ok (.goto 4, 3) := by decide +kernel
theorem dX8_shift_98 : decode cX8_shift 98 = .ok (.iconst 0, 1) := by decide +kernel
theorem dX8_shift_99 : decode cX8_shift 99 = .ok (.iastore, 1) := by decide +kernel
theorem dX8_shift_100 : decode cX8_shift 100 = .ok (.iinc 4 1, 3) := by decide +kernel
theorem dX8_shift_103 : decode cX8_shift 103 = .ok (.goto (-62), 3) := by decide +kernel
theorem dX8_shift_106 : decode cX8_shift 106 = .ok (.iinc 3 1, 3) := by decide +kernel
theorem dX8_shift_109 : decode cX8_shift 109 = .ok (.goto (-79), 3) := by decide +kernel
theorem dX8_shift_112 : decode cX8_shift 112 = .ok (.aload_n 0, 1) := by decide +kernel
theorem dX8_shift_113 : decode cX8_shift 113 = .ok (.invokevirtual 295, 3) := by decide +kernel
theorem dX8_shift_116 : decode cX8_shift 116 = .ok (.ireturn, 1) := by decide +kernel
def mX8_shift : MM := (yX8_shift, cX8_shift, 5, Option.some Jvm.ClassFile.FieldType.int, { frames := 2, cells := 0, slots := 0, locals := 44 })
def X8_shift_L41 (u1_ : Int32) (u2_ : Int32) (u3_ : Int32) (k106 : SS → Option (Int32 × SS)) : Nat → Int32 → SS → Option (Int32 × SS) :=
  lp (fun _ _ => none) fun rec v4_ σ_ =>
    if (gI σ_ 73 29) ≤ v4_ then (
      k106 σ_
      ) else (
      vthen (fun (s5 : Int32) =>
        grd (inb (((gI σ_ 73 29) * u3_) + v4_) 1600) <|
        vthen (sI σ_ 83 (Int32.toNatClampNeg (((gI σ_ 73 29) * u3_) + v4_)) s5) fun σ7 =>
        rec (v4_ + (1 : Int32)) σ7
        ) fun j99 =>
      if (fX8_isDot σ_ (v4_ - u1_) (u3_ - u2_)) = true then (
        grd (inb ((((gI σ_ 73 29) * (u3_ - u2_)) + v4_) - u1_) 1600) <|
        j99 (gI σ_ 84 (Int32.toNatClampNeg ((((gI σ_ 73 29) * (u3_ - u2_)) + v4_) - u1_)))
        ) else (
        j99 (0 : Int32)
        )
      )

def X8_shift_L30 (u1_ : Int32) (u2_ : Int32)  : Nat → Int32 → SS → Option (Int32 × SS) :=
  lp (fun _ _ => none) fun rec v3_ σ_ =>
    if (gI σ_ 73 30) ≤ v3_ then (
      bnd1 (fX8_others σ_) fun v2 =>
      some (v2, σ_)
      ) else (
      X8_shift_L41 u1_ u2_ v3_
      (fun σ9 =>
        rec (v3_ + (1 : Int32)) σ9
        )
      fuel (0 : Int32) σ_
      )

def fX8_shift (σ : SS) (a1 : Int32) (a2 : Int32) : Option (Int32 × SS) :=
  if (fX8_in σ a1 (-40 : Int32) (40 : Int32)) = true then (
    if (fX8_in σ a2 (-40 : Int32) (40 : Int32)) = true then (
      bnd1 (fX8_puts σ) fun σ1 =>
      X8_shift_L30 a1 a2
      fuel (0 : Int32) σ1
      ) else (
      some ((-1 : Int32), σ)
      )
    ) else (
    some ((-1 : Int32), σ)
    )

set_option maxRecDepth 20000 in
theorem sX8_shift_L41 {g : GG} {r : Int32 × SS} {u1_ : Int32} {u2_ : Int32} {u3_ : Int32} {k106 : SS → Option (Int32 × SS)} 
    (hk106 : ∀ (σ_ : SS), k106 σ_ = some r → WT σ_ → RR g mX8_shift (FinR g mX8_shift (some (.int r.1)) NF r.2) zF 106 [(0, .ref (ad g 73)), (1, .int u1_), (2, .int u2_), (3, .int u3_)] [] σ_)
    (n : Nat) : ∀ (v4_ : Int32) (σ_ : SS), X8_shift_L41 u1_ u2_ u3_ k106 n v4_ σ_ = some r → WT σ_ → RR g mX8_shift (FinR g mX8_shift (some (.int r.1)) NF r.2) zF 41 [(0, .ref (ad g 73)), (1, .int u1_), (2, .int u2_), (3, .int u3_), (4, .int v4_)] [] σ_ := by
  unfold X8_shift_L41
  refine lp_ind (P := fun (rec : Int32 → SS → Option (Int32 × SS)) => ∀ (v4_ : Int32) (σ_ : SS), rec v4_ σ_ = some r → WT σ_ → RR g mX8_shift (FinR g mX8_shift (some (.int r.1)) NF r.2) zF 41 [(0, .ref (ad g 73)), (1, .int u1_), (2, .int u2_), (3, .int u3_), (4, .int v4_)] [] σ_) ?_ ?_ n
  · intro v4_ σ_ hr; cases hr
  intro rec ih v4_ σ_ hr hw_
  refine r_iload (pc := 41) (j := 4) dX8_shift_41 rfl ?_
  refine r_aload_n (pc := 43) (j := 0) dX8_shift_43 rfl rfl ?_
  refine gf8_29 (pc := 44) tw_5_123 rfl dX8_shift_44 ?_
  refine r_icmp_ge (pc := 47) (tgt := 106) dX8_shift_47 rfl (fun hc => ?_) (fun hc => ?_)
  · replace hr := ite_t hc hr
    exact r_pick (ls1 := [(0, .ref (ad g 73)), (1, .int u1_), (2, .int u2_), (3, .int u3_)]) [0, 1, 2, 3] rfl (hk106 σ_ hr hw_)
  replace hr := ite_f hc hr
  refine r_aload_n (pc := 50) (j := 0) dX8_shift_50 rfl rfl ?_
  refine gf8_21 (pc := 51) tw_5_115 hw_ dX8_shift_51 ?_
  refine r_aload_n (pc := 54) (j := 0) dX8_shift_54 rfl rfl ?_
  refine gf8_29 (pc := 55) tw_5_123 rfl dX8_shift_55 ?_
  refine r_iload_n (pc := 58) (j := 3) dX8_shift_58 rfl rfl ?_
  refine r_imul (pc := 59) dX8_shift_59 ?_
  refine r_iload (pc := 60) (j := 4) dX8_shift_60 rfl ?_
  refine r_iadd (pc := 62) dX8_shift_62 ?_
  refine r_aload_n (pc := 63) (j := 0) dX8_shift_63 rfl rfl ?_
  refine r_iload (pc := 64) (j := 4) dX8_shift_64 rfl ?_
  refine r_iload_n (pc := 66) (j := 1) dX8_shift_66 rfl rfl ?_
  refine r_isub (pc := 67) dX8_shift_67 ?_
  refine r_iload_n (pc := 68) (j := 3) dX8_shift_68 rfl rfl ?_
  refine r_iload_n (pc := 69) (j := 2) dX8_shift_69 rfl rfl ?_
  refine r_isub (pc := 70) dX8_shift_70 ?_
  refine kX8_isDot (pc := 71) (hf := rfl) tw_6_173 ⟨nle rfl, nle rfl⟩ (nle rfl) dX8_shift_71 ?_
  obtain ⟨j99, ej99, hr⟩ := vth_ex hr
  have hj99 : ∀ (s5 : Int32), j99 s5 = some r → RR g mX8_shift (FinR g mX8_shift (some (.int r.1)) NF r.2) zF 99 [(0, .ref (ad g 73)), (1, .int u1_), (2, .int u2_), (3, .int u3_), (4, .int v4_)] [.int s5, .int (((gI σ_ 73 29) * u3_) + v4_), .ref (ad g 83)] σ_ := by
    intro s5 hr
    replace hr := (congrFun ej99 s5).symm.trans hr
    obtain ⟨h6, hr⟩ := grd_inv hr
    refine x_iast (pc := 99) (j := (Int32.toNatClampNeg (((gI σ_ 73 29) * u3_) + v4_))) rfl h6 rfl dX8_shift_99 fun σ7 eσ7 => ?_
    replace hr := vthen_inv hr σ7 eσ7
    have hσ7 := wtI eσ7 hw_
    refine r_iinc (pc := 100) (j := 4) (v := (v4_ + (1 : Int32))) (ls1 := [(4, .int (v4_ + (1 : Int32))), (0, .ref (ad g 73)), (1, .int u1_), (2, .int u2_), (3, .int u3_)]) dX8_shift_100 rfl rfl (nle rfl) rfl ?_
    refine r_goto (pc := 103) (tgt := 41) dX8_shift_103 rfl ?_
    exact r_pick (ls1 := [(0, .ref (ad g 73)), (1, .int u1_), (2, .int u2_), (3, .int u3_), (4, .int (v4_ + (1 : Int32)))]) [1, 2, 3, 4, 0] rfl (ih (v4_ + (1 : Int32)) σ7 hr hσ7)
  refine r_ifB_eq (pc := 74) (tgt := 98) dX8_shift_74 rfl (fun hc => ?_) (fun hc => ?_)
  · replace hr := ite_f hc hr
    refine r_iconst (pc := 98) (v := (0 : Int32)) dX8_shift_98 rfl ?_
    exact r_pick (ls1 := [(0, .ref (ad g 73)), (1, .int u1_), (2, .int u2_), (3, .int u3_), (4, .int v4_)]) [0, 1, 2, 3, 4] rfl (hj99 (0 : Int32) hr)
  replace hr := ite_t hc hr
  refine r_aload_n (pc := 77) (j := 0) dX8_shift_77 rfl rfl ?_
  refine gf8_22 (pc := 78) tw_5_116 hw_ dX8_shift_78 ?_
  refine r_aload_n (pc := 81) (j := 0) dX8_shift_81 rfl rfl ?_
  refine gf8_29 (pc := 82) tw_5_123 rfl dX8_shift_82 ?_
  refine r_iload_n (pc := 85) (j := 3) dX8_shift_85 rfl rfl ?_
  refine r_iload_n (pc := 86) (j := 2) dX8_shift_86 rfl rfl ?_
  refine r_isub (pc := 87) dX8_shift_87 ?_
  refine r_imul (pc := 88) dX8_shift_88 ?_
  refine r_iload (pc := 89) (j := 4) dX8_shift_89 rfl ?_
  refine r_iadd (pc := 91) dX8_shift_91 ?_
  refine r_iload_n (pc := 92) (j := 1) dX8_shift_92 rfl rfl ?_
  refine r_isub (pc := 93) dX8_shift_93 ?_
  obtain ⟨h8, hr⟩ := grd_inv hr
  refine x_iald (pc := 94) (k := (Int32.toNatClampNeg ((((gI σ_ 73 29) * (u3_ - u2_)) + v4_) - u1_))) rfl h8 rfl dX8_shift_94 ?_
  refine r_goto (pc := 95) (tgt := 99) dX8_shift_95 rfl ?_
  exact r_pick (ls1 := [(0, .ref (ad g 73)), (1, .int u1_), (2, .int u2_), (3, .int u3_), (4, .int v4_)]) [0, 1, 2, 3, 4] rfl (hj99 (gI σ_ 84 (Int32.toNatClampNeg ((((gI σ_ 73 29) * (u3_ - u2_)) + v4_) - u1_))) hr)

set_option maxRecDepth 20000 in
theorem sX8_shift_L30 {g : GG} {r : Int32 × SS} {u1_ : Int32} {u2_ : Int32}  
    (n : Nat) : ∀ (v3_ : Int32) (σ_ : SS), X8_shift_L30 u1_ u2_ n v3_ σ_ = some r → WT σ_ → RR g mX8_shift (FinR g mX8_shift (some (.int r.1)) NF r.2) zF 30 [(0, .ref (ad g 73)), (1, .int u1_), (2, .int u2_), (3, .int v3_)] [] σ_ := by
  unfold X8_shift_L30
  refine lp_ind (P := fun (rec : Int32 → SS → Option (Int32 × SS)) => ∀ (v3_ : Int32) (σ_ : SS), rec v3_ σ_ = some r → WT σ_ → RR g mX8_shift (FinR g mX8_shift (some (.int r.1)) NF r.2) zF 30 [(0, .ref (ad g 73)), (1, .int u1_), (2, .int u2_), (3, .int v3_)] [] σ_) ?_ ?_ n
  · intro v3_ σ_ hr; cases hr
  intro rec ih v3_ σ_ hr hw_
  refine r_iload_n (pc := 30) (j := 3) dX8_shift_30 rfl rfl ?_
  refine r_aload_n (pc := 31) (j := 0) dX8_shift_31 rfl rfl ?_
  refine gf8_30 (pc := 32) tw_5_124 rfl dX8_shift_32 ?_
  refine r_icmp_ge (pc := 35) (tgt := 112) dX8_shift_35 rfl (fun hc => ?_) (fun hc => ?_)
  · replace hr := ite_t hc hr
    refine r_aload_n (pc := 112) (j := 0) dX8_shift_112 rfl rfl ?_
    obtain ⟨v2, hv2, hr⟩ := bnd1_inv hr
    refine kX8_others (pc := 113) hv2 tw_6_211 ⟨nle rfl, nle rfl⟩ (nle rfl) dX8_shift_113 ?_
    exact l_osi hr (r_iret (pc := 116) (v := v2) rfl rfl ⟨Nat.le_refl _, Nat.le_refl _⟩ dX8_shift_116)
  replace hr := ite_f hc hr
  refine r_iconst (pc := 38) (v := (0 : Int32)) dX8_shift_38 rfl ?_
  refine r_istore (pc := 39) (ls1 := [(4, .int (0 : Int32)), (0, .ref (ad g 73)), (1, .int u1_), (2, .int u2_), (3, .int v3_)]) dX8_shift_39 (nle rfl) rfl ?_
  refine r_pick (ls1 := [(0, .ref (ad g 73)), (1, .int u1_), (2, .int u2_), (3, .int v3_), (4, .int (0 : Int32))]) [1, 2, 3, 4, 0] rfl ?_
  refine sX8_shift_L41    (fun σ9 hr hσ9 => ?_) fuel (0 : Int32) σ_ hr hw_
  refine r_iinc (pc := 106) (j := 3) (v := (v3_ + (1 : Int32))) (ls1 := [(3, .int (v3_ + (1 : Int32))), (0, .ref (ad g 73)), (1, .int u1_), (2, .int u2_)]) dX8_shift_106 rfl rfl (nle rfl) rfl ?_
  refine r_goto (pc := 109) (tgt := 30) dX8_shift_109 rfl ?_
  exact r_pick (ls1 := [(0, .ref (ad g 73)), (1, .int u1_), (2, .int u2_), (3, .int (v3_ + (1 : Int32)))]) [1, 2, 3, 0] rfl (ih (v3_ + (1 : Int32)) σ9 hr hσ9)

set_option maxRecDepth 20000 in
theorem sX8_shift {g : GG} {σ : SS} {a1 : Int32} {a2 : Int32} {r : Int32 × SS} (hr : fX8_shift σ a1 a2 = some r)  : Ct g mX8_shift [.ref (ad g 73), .int a1, .int a2] NF σ (some (.int r.1)) NF r.2 := by
  refine Ct.of (by decide +kernel) (nle rfl) fun hw0 => ?_
  have hw := hw0 rfl
  unfold fX8_shift at hr
  change RR g mX8_shift (FinR g mX8_shift (some (.int r.1)) NF r.2) zF 0 [(0, .ref (ad g 73)), (1, .int a1), (2, .int a2)] [] σ
  refine r_iload_n (pc := 0) (j := 1) dX8_shift_0 rfl rfl ?_
  refine r_bipush (pc := 1) (v := (-40 : Int32)) dX8_shift_1 rfl ?_
  refine r_bipush (pc := 3) (v := (40 : Int32)) dX8_shift_3 rfl ?_
  refine kX8_in (pc := 5) (hf := rfl) tw_6_65 ⟨nle rfl, nle rfl⟩ (nle rfl) dX8_shift_5 ?_
  refine r_ifB_eq (pc := 8) (tgt := 22) dX8_shift_8 rfl (fun hc => ?_) (fun hc => ?_)
  · replace hr := ite_f hc hr
    refine r_iconst (pc := 22) (v := (-1 : Int32)) dX8_shift_22 rfl ?_
    exact l_osi hr (r_iret (pc := 23) (v := (-1 : Int32)) rfl rfl ⟨Nat.le_refl _, Nat.le_refl _⟩ dX8_shift_23)
  replace hr := ite_t hc hr
  refine r_iload_n (pc := 11) (j := 2) dX8_shift_11 rfl rfl ?_
  refine r_bipush (pc := 12) (v := (-40 : Int32)) dX8_shift_12 rfl ?_
  refine r_bipush (pc := 14) (v := (40 : Int32)) dX8_shift_14 rfl ?_
  refine kX8_in (pc := 16) (hf := rfl) tw_6_65 ⟨nle rfl, nle rfl⟩ (nle rfl) dX8_shift_16 ?_
  refine r_ifB_ne (pc := 19) (tgt := 24) dX8_shift_19 rfl (fun hc => ?_) (fun hc => ?_)
  · replace hr := ite_t hc hr
    refine r_aload_n (pc := 24) (j := 0) dX8_shift_24 rfl rfl ?_
    obtain ⟨σ1, eσ1, hr⟩ := bnd1_inv hr
    refine kX8_puts (pc := 25) eσ1 tw_6_203 ⟨nle rfl, nle rfl⟩ (nle rfl) dX8_shift_25 fun hσ1 => ?_
    refine r_iconst (pc := 28) (v := (0 : Int32)) dX8_shift_28 rfl ?_
    refine r_istore_n (pc := 29) (ls1 := [(3, .int (0 : Int32)), (0, .ref (ad g 73)), (1, .int a1), (2, .int a2)]) dX8_shift_29 rfl (nle rfl) rfl ?_
    refine r_pick (ls1 := [(0, .ref (ad g 73)), (1, .int a1), (2, .int a2), (3, .int (0 : Int32))]) [1, 2, 3, 0] rfl ?_
    refine sX8_shift_L30     fuel (0 : Int32) σ1 hr hσ1
  replace hr := ite_f hc hr
  refine r_iconst (pc := 22) (v := (-1 : Int32)) dX8_shift_22 rfl ?_
  exact l_osi hr (r_iret (pc := 23) (v := (-1 : Int32)) rfl rfl ⟨Nat.le_refl _, Nat.le_refl _⟩ dX8_shift_23)

theorem kX8_shift {g : GG} {σ : SS} {a1 : Int32} {a2 : Int32} {v : Int32} {σ2 : SS} {M : MM} {F : State → Array Value → List Frame → State → Prop} {pc index : Nat} {ls : List (Nat × Value)} {rest : List Value} (hf : fX8_shift σ a1 a2 = some (v, σ2))  (hl : Cond.methodLink M.1.cls index yX8_shift ∈ lw_gt) (hR : mX8_shift.2.2.2.2.frames + 1 ≤ M.2.2.2.2.frames ∧ 8 + (mX8_shift.2.2.1 + 11) + mX8_shift.2.2.2.2.locals ≤ M.2.2.2.2.locals) (hrest : (rest.map fun v => v.category).sum ≤ 8) (hd : decode M.2.1 pc = .ok (.invokevirtual index, 3)) (k : WT σ2 → RR g M F zF (pc + 3) ls (.int v :: rest) σ2) : RR g M F zF pc ls (.int a2 :: .int a1 :: .ref (ad g 73) :: rest) σ :=
  r_callV (z := zF) (N := mX8_shift) (nn := 2) (o1 := some (.int v)) (sX8_shift hf ) (rfl : shp 73 = (8, 0)) (by decide) (shp_le (rfl : shp 73 = (8, 0)) (nle rfl)) (ci := 8) rfl rfl tw_6_222 tw_1_10 hl tw_6_220 tw_6_221 ⟨by decide, by decide, rfl⟩ hR rfl hrest hd ⟨Nat.zero_le _, Nat.zero_le _⟩ rfl (fun h => k (h rfl))

theorem dX6_takeStretched_0 : decode cX6_takeStretched 0 = .ok (.aload_n 0, 1) := by decide +kernel
theorem dX6_takeStretched_1 : decode cX6_takeStretched 1 = .ok (.aload_n 1, 1) := by decide +kernel
theorem dX6_takeStretched_2 : decode cX6_takeStretched 2 = .ok (.invokevirtual 49, 3) := by decide +kernel
theorem dX6_takeStretched_5 : decode cX6_takeStretched 5 = .ok (.bipush 9, 2) := by decide +kernel
theorem dX6_takeStretched_7 : decode cX6_takeStretched 7 = .ok (.istore_n 2, 1) := by decide +kernel
theorem dX6_takeStretched_8 : decode cX6_takeStretched 8 = .ok (.iconst 0, 1) := by decide +kernel
theorem dX6_takeStretched_9 : decode cX6_takeStretched 9 = .ok (.istore_n 3, 1) := by decide +kernel
theorem dX6_takeStretched_10 : decode cX6_takeStretched 10 = .ok (.iconst 0, 1) := by decide +kernel
theorem dX6_takeStretched_11 : decode cX6_takeStretched 11 = .ok (.istore 4, 2) := by decide +kernel
theorem dX6_takeStretched_13 : decode cX6_takeStretched 13 = .ok (.iload 4, 2) := by decide +kernel
theorem dX6_takeStretched_15 : decode cX6_takeStretched 15 = .ok (.aload_n 0, 1) := by decide +kernel
theorem dX6_takeStretched_16 : decode cX6_takeStretched 16 = .ok (.getfield 18, 3) := by decide +kernel
theorem dX6_takeStretched_19 : decode cX6_takeStretched 19 = .ok (.aload_n 0, 1) := by decide +kernel
theorem dX6_takeStretched_20 : decode cX6_takeStretched 20 = .ok (.getfield 22, 3) := by decide +kernel
theorem dX6_takeStretched_23 : decode cX6_takeStretched 23 = .ok (.imul, 1) := by decide +kernel
theorem dX6_takeStretched_24 : decode cX6_takeStretched 24 = .ok (.if_icmp .ge 33, 3) := by decide +kernel
theorem dX6_takeStretched_27 : decode cX6_takeStretched 27 = .ok (.iload_n 2, 1) := by decide +kernel
theorem dX6_takeStretched_28 : decode cX6_takeStretched 28 = .ok (.aload_n 0, 1) := by decide +kernel
theorem dX6_takeStretched_29 : decode cX6_takeStretched 29 = .ok (.getfield 9, 3) := by decide +kernel
theorem dX6_takeStretched_32 : decode cX6_takeStretched 32 = .ok (.iload 4, 2) := by decide +kernel
theorem dX6_takeStretched_34 : decode cX6_takeStretched 34 = .ok (.iaload, 1) := by decide +kernel
theorem dX6_takeStretched_35 : decode cX6_takeStretched 35 = .ok (.invokestatic 53, 3) := by decide +kernel
theorem dX6_takeStretched_38 : decode cX6_takeStretched 38 = .ok (.istore_n 2, 1) := by decide +kernel
theorem dX6_takeStretched_39 : decode cX6_takeStretched 39 = .ok (.iload_n 3, 1) := by decide +kernel
theorem dX6_takeStretched_40 : decode cX6_takeStretched 40 = .ok (.aload_n 0, 1) := by decide +kernel
theorem dX6_takeStretched_41 : decode cX6_takeStretched 41 = .ok (.getfield 9, 3) := by decide +kernel
theorem dX6_takeStretched_44 : decode cX6_takeStretched 44 = .ok (.iload 4, 2) := by decide +kernel
theorem dX6_takeStretched_46 : decode cX6_takeStretched 46 = .ok (.iaload, 1) := by decide +kernel
theorem dX6_takeStretched_47 : decode cX6_takeStretched 47 = .ok (.invokestatic 58, 3) := by decide +kernel
theorem dX6_takeStretched_50 : decode cX6_takeStretched 50 = .ok (.istore_n 3, 1) := by decide +kernel
theorem dX6_takeStretched_51 : decode cX6_takeStretched 51 = .ok (.iinc 4 1, 3) := by decide +kernel
theorem dX6_takeStretched_54 : decode cX6_takeStretched 54 = .ok (.goto (-41), 3) := by decide +kernel
theorem dX6_takeStretched_57 : decode cX6_takeStretched 57 = .ok (.iload_n 3, 1) := by decide +kernel
theorem dX6_takeStretched_58 : decode cX6_takeStretched 58 = .ok (.iload_n 2, 1) := by decide +kernel
theorem dX6_takeStretched_59 : decode cX6_takeStretched 59 = .ok (.isub, 1) := by decide +kernel
theorem dX6_takeStretched_60 : decode cX6_takeStretched 60 = .ok (.istore 4, 2) := by decide +kernel
theorem dX6_takeStretched_62 : decode cX6_takeStretched 62 = .ok (.iload 4, 2) := by decide +kernel
theorem dX6_takeStretched_64 : decode cX6_takeStretched 64 = .ok (.ifCond .le 48, 3) := by decide +kernel
theorem dX6_takeStretched_67 : decode cX6_takeStretched 67 = .ok (.iconst 0, 1) := by decide +kernel
theorem dX6_takeStretched_68 : decode cX6_takeStretched 68 = .ok (.istore 5, 2) := by decide +kernel
theorem dX6_takeStretched_70 : decode cX6_takeStretched 70 = .ok (.iload 5, 2) := by decide +kernel
theorem dX6_takeStretched_72 : decode cX6_takeStretched 72 = .ok (.aload_n 0, 1) := by decide +kernel
theorem dX6_takeStretched_73 : decode cX6_takeStretched 73 = .ok (.getfield 18, 3) := by decide +kernel
theorem dX6_takeStretched_76 : decode cX6_takeStretched 76 = .ok (.aload_n 0, 1) := by decide +kernel
theorem dX6_takeStretched_77 : decode cX6_takeStretched 77 = .ok (.getfield 22, 3) := by decide +kernel
theorem dX6_takeStretched_80 : decode cX6_takeStretched 80 = .ok (.imul, 1) := by decide +kernel
theorem dX6_takeStretched_81 : decode cX6_takeStretched 81 = .ok (.if_icmp .ge 31, 3) := by decide +kernel
theorem dX6_takeStretched_84 : decode cX6_takeStretched 84 = .ok (.aload_n 0, 1) := by decide +kernel
theorem dX6_takeStretched_85 : decode cX6_takeStretched 85 = .ok (.getfield 9, 3) := by decide +kernel
theorem dX6_takeStretched_88 : decode cX6_takeStretched 88 = .ok (.iload 5, 2) := by decide +kernel
theorem dX6_takeStretched_90 : decode cX6_takeStretched 90 = .ok (.aload_n 0, 1) := by decide +kernel
theorem dX6_takeStretched_91 : decode cX6_takeStretched 91 = .ok (.getfield 9, 3) := by decide +kernel
theorem dX6_takeStretched_94 : decode cX6_takeStretched 94 = .ok (.iload 5, 2) := by decide +kernel
theorem dX6_takeStretched_96 : decode cX6_takeStretched 96 = .ok (.iaload, 1) := by decide +kernel
theorem dX6_takeStretched_97 : decode cX6_takeStretched 97 = .ok (.iload_n 2, 1) := by decide +kernel
theorem dX6_takeStretched_98 : decode cX6_takeStretched 98 = .ok (.isub, 1) := by decide +kernel
theorem dX6_takeStretched_99 : decode cX6_takeStretched 99 = .ok (.bipush 9, 2) := by decide +kernel
theorem dX6_takeStretched_101 : decode cX6_takeStretched 101 = .ok (.imul, 1) := by decide +kernel
theorem dX6_takeStretched_102 : decode cX6_takeStretched 102 = .ok (.iload 4, 2) := by decide +kernel
theorem dX6_takeStretched_104 : decode cX6_takeStretched 104 = .ok (.idiv, 1) := by decide +kernel
theorem dX6_takeStretched_105 : decode cX6_takeStretched 105 = .ok (.iastore, 1) := by decide +kernel
theorem dX6_takeStretched_106 : decode cX6_takeStretched 106 = .ok (.iinc 5 1, 3) := by decide +kernel
theorem dX6_takeStretched_109 : decode cX6_takeStretched 109 = .ok (.goto (-39), 3) := by decide +kernel
theorem dX6_takeStretched_112 : decode cX6_takeStretched 112 = .ok (.return_, 1) := by decide +kernel
def mX6_takeStretched : MM := (yX6_takeStretched, cX6_takeStretched, 6, none, { frames := 2, cells := 0, slots := 0, locals := 47 })
def X6_takeStretched_L13 (σ_ : SS) (o0_ : Nat) (k57 : Int32 → Int32 → Option SS) : Nat → Int32 → Int32 → Int32 → Option SS :=
  lp (fun _ _ _ => none) fun rec v2_ v3_ v4_ =>
    if ((gI σ_ o0_ 0) * (gI σ_ o0_ 1)) ≤ v4_ then (
      k57 v2_ v3_
      ) else (
      grd (inb v4_ 1600) <|
      vthen (fJ9_min_7cf53 σ_ v2_ (gI σ_ (o0_ + 1) (Int32.toNatClampNeg v4_))) fun v3 =>
      vthen (fJ9_max_7cf53 σ_ v3_ (gI σ_ (o0_ + 1) (Int32.toNatClampNeg v4_))) fun v4 =>
      rec v3 v4 (v4_ + (1 : Int32))
      )

def X6_takeStretched_L70 (o0_ : Nat) (u2_ : Int32) (u4_ : Int32)  : Nat → Int32 → SS → Option SS :=
  lp (fun _ _ => none) fun rec v5_ σ_ =>
    if ((gI σ_ o0_ 0) * (gI σ_ o0_ 1)) ≤ v5_ then (
      some σ_
      ) else (
      grd (inb v5_ 1600) <|
      grd (nz u4_) <|
      vthen (sI σ_ (o0_ + 1) (Int32.toNatClampNeg v5_) ((((gI σ_ (o0_ + 1) (Int32.toNatClampNeg v5_)) - u2_) * (9 : Int32)) / u4_)) fun σ10 =>
      rec (v5_ + (1 : Int32)) σ10
      )

def fX6_takeStretched (σ : SS) (a0 : Nat) (a1 : Nat) : Option SS :=
  bnd1 (fX6_takeAll σ a0 a1) fun σ1 =>
  X6_takeStretched_L13 σ1 a0
  (fun v5 v6 =>
    vthen (v6 - v5) fun v7 =>
    if v7 ≤ 0 then (
      some σ1
      ) else (
      X6_takeStretched_L70 a0 v5 v7
      fuel (0 : Int32) σ1
      )
    )
  fuel (9 : Int32) (0 : Int32) (0 : Int32)

set_option maxRecDepth 20000 in
theorem sX6_takeStretched_L13 {g : GG} {r : SS} {σ_ : SS} {o0_ : Nat} {k57 : Int32 → Int32 → Option SS} (hs0_ : shp o0_ = (6, 0))
    (hw_ : WT σ_)
    (hk57 : ∀ (y2 : Int32) (y3 : Int32), k57 y2 y3 = some r → RR g mX6_takeStretched (FinR g mX6_takeStretched none NF r) zF 57 [(0, .ref (ad g o0_)), (2, .int y2), (3, .int y3)] [] σ_)
    (n : Nat) : ∀ (v2_ : Int32) (v3_ : Int32) (v4_ : Int32), X6_takeStretched_L13 σ_ o0_ k57 n v2_ v3_ v4_ = some r → RR g mX6_takeStretched (FinR g mX6_takeStretched none NF r) zF 13 [(0, .ref (ad g o0_)), (2, .int v2_), (3, .int v3_), (4, .int v4_)] [] σ_ := by
  unfold X6_takeStretched_L13
  refine lp_ind (P := fun (rec : Int32 → Int32 → Int32 → Option SS) => ∀ (v2_ : Int32) (v3_ : Int32) (v4_ : Int32), rec v2_ v3_ v4_ = some r → RR g mX6_takeStretched (FinR g mX6_takeStretched none NF r) zF 13 [(0, .ref (ad g o0_)), (2, .int v2_), (3, .int v3_), (4, .int v4_)] [] σ_) ?_ ?_ n
  · intro v2_ v3_ v4_ hr; cases hr
  intro rec ih v2_ v3_ v4_ hr
  refine r_iload (pc := 13) (j := 3) dX6_takeStretched_13 rfl ?_
  refine r_aload_n (pc := 15) (j := 0) dX6_takeStretched_15 rfl rfl ?_
  refine gf6_0 (pc := 16) tw_1_32 hs0_ dX6_takeStretched_16 ?_
  refine r_aload_n (pc := 19) (j := 0) dX6_takeStretched_19 rfl rfl ?_
  refine gf6_1 (pc := 20) tw_1_37 hs0_ dX6_takeStretched_20 ?_
  refine r_imul (pc := 23) dX6_takeStretched_23 ?_
  refine r_icmp_ge (pc := 24) (tgt := 57) dX6_takeStretched_24 rfl (fun hc => ?_) (fun hc => ?_)
  · replace hr := ite_t hc hr
    exact r_pick (ls1 := [(0, .ref (ad g o0_)), (2, .int v2_), (3, .int v3_)]) [0, 1, 2] rfl (hk57 v2_ v3_ hr)
  replace hr := ite_f hc hr
  refine r_iload_n (pc := 27) (j := 1) dX6_takeStretched_27 rfl rfl ?_
  refine r_aload_n (pc := 28) (j := 0) dX6_takeStretched_28 rfl rfl ?_
  refine gf6_2 (pc := 29) tw_1_39 hw_ hs0_ dX6_takeStretched_29 ?_
  refine r_iload (pc := 32) (j := 3) dX6_takeStretched_32 rfl ?_
  obtain ⟨h2, hr⟩ := grd_inv hr
  refine x_iald (pc := 34) (k := (Int32.toNatClampNeg v4_)) (sh6_2 hs0_) h2 rfl dX6_takeStretched_34 ?_
  refine kJ9_min_7cf53 (pc := 35) (hf := rfl) tw_3_201 ⟨nle rfl, nle rfl⟩ (nle rfl) dX6_takeStretched_35 ?_
  refine r_topi fun v3 ev3 => ?_
  replace hr := vthen_inv hr v3 ev3
  refine r_istore_n (pc := 38) (ls1 := [(2, .int v3), (0, .ref (ad g o0_)), (3, .int v3_), (4, .int v4_)]) dX6_takeStretched_38 rfl (nle rfl) rfl ?_
  refine r_iload_n (pc := 39) (j := 2) dX6_takeStretched_39 rfl rfl ?_
  refine r_aload_n (pc := 40) (j := 1) dX6_takeStretched_40 rfl rfl ?_
  refine gf6_2 (pc := 41) tw_1_39 hw_ hs0_ dX6_takeStretched_41 ?_
  refine r_iload (pc := 44) (j := 3) dX6_takeStretched_44 rfl ?_
  refine x_iald (pc := 46) (k := (Int32.toNatClampNeg v4_)) (sh6_2 hs0_) h2 rfl dX6_takeStretched_46 ?_
  refine kJ9_max_7cf53 (pc := 47) (hf := rfl) tw_3_202 ⟨nle rfl, nle rfl⟩ (nle rfl) dX6_takeStretched_47 ?_
  refine r_topi fun v4 ev4 => ?_
  replace hr := vthen_inv hr v4 ev4
  refine r_istore_n (pc := 50) (ls1 := [(3, .int v4), (2, .int v3), (0, .ref (ad g o0_)), (4, .int v4_)]) dX6_takeStretched_50 rfl (nle rfl) rfl ?_
  refine r_iinc (pc := 51) (j := 3) (v := (v4_ + (1 : Int32))) (ls1 := [(4, .int (v4_ + (1 : Int32))), (3, .int v4), (2, .int v3), (0, .ref (ad g o0_))]) dX6_takeStretched_51 rfl rfl (nle rfl) rfl ?_
  refine r_goto (pc := 54) (tgt := 13) dX6_takeStretched_54 rfl ?_
  exact r_pick (ls1 := [(0, .ref (ad g o0_)), (2, .int v3), (3, .int v4), (4, .int (v4_ + (1 : Int32)))]) [3, 2, 1, 0] rfl (ih v3 v4 (v4_ + (1 : Int32)) hr)

set_option maxRecDepth 20000 in
theorem sX6_takeStretched_L70 {g : GG} {r : SS} {o0_ : Nat} {u2_ : Int32} {u4_ : Int32}  (hs0_ : shp o0_ = (6, 0))
    (n : Nat) : ∀ (v5_ : Int32) (σ_ : SS), X6_takeStretched_L70 o0_ u2_ u4_ n v5_ σ_ = some r → WT σ_ → RR g mX6_takeStretched (FinR g mX6_takeStretched none NF r) zF 70 [(0, .ref (ad g o0_)), (2, .int u2_), (4, .int u4_), (5, .int v5_)] [] σ_ := by
  unfold X6_takeStretched_L70
  refine lp_ind (P := fun (rec : Int32 → SS → Option SS) => ∀ (v5_ : Int32) (σ_ : SS), rec v5_ σ_ = some r → WT σ_ → RR g mX6_takeStretched (FinR g mX6_takeStretched none NF r) zF 70 [(0, .ref (ad g o0_)), (2, .int u2_), (4, .int u4_), (5, .int v5_)] [] σ_) ?_ ?_ n
  · intro v5_ σ_ hr; cases hr
  intro rec ih v5_ σ_ hr hw_
  refine r_iload (pc := 70) (j := 3) dX6_takeStretched_70 rfl ?_
  refine r_aload_n (pc := 72) (j := 0) dX6_takeStretched_72 rfl rfl ?_
  refine gf6_0 (pc := 73) tw_1_32 hs0_ dX6_takeStretched_73 ?_
  refine r_aload_n (pc := 76) (j := 0) dX6_takeStretched_76 rfl rfl ?_
  refine gf6_1 (pc := 77) tw_1_37 hs0_ dX6_takeStretched_77 ?_
  refine r_imul (pc := 80) dX6_takeStretched_80 ?_
  refine r_icmp_ge (pc := 81) (tgt := 112) dX6_takeStretched_81 rfl (fun hc => ?_) (fun hc => ?_)
  · replace hr := ite_t hc hr
    exact l_ov hr (r_vret (pc := 112) rfl rfl ⟨Nat.le_refl _, Nat.le_refl _⟩ dX6_takeStretched_112)
  replace hr := ite_f hc hr
  refine r_aload_n (pc := 84) (j := 0) dX6_takeStretched_84 rfl rfl ?_
  refine gf6_2 (pc := 85) tw_1_39 hw_ hs0_ dX6_takeStretched_85 ?_
  refine r_iload (pc := 88) (j := 3) dX6_takeStretched_88 rfl ?_
  refine r_aload_n (pc := 90) (j := 0) dX6_takeStretched_90 rfl rfl ?_
  refine gf6_2 (pc := 91) tw_1_39 hw_ hs0_ dX6_takeStretched_91 ?_
  refine r_iload (pc := 94) (j := 3) dX6_takeStretched_94 rfl ?_
  obtain ⟨h8, hr⟩ := grd_inv hr
  refine x_iald (pc := 96) (k := (Int32.toNatClampNeg v5_)) (sh6_2 hs0_) h8 rfl dX6_takeStretched_96 ?_
  refine r_iload_n (pc := 97) (j := 1) dX6_takeStretched_97 rfl rfl ?_
  refine r_isub (pc := 98) dX6_takeStretched_98 ?_
  refine r_bipush (pc := 99) (v := (9 : Int32)) dX6_takeStretched_99 rfl ?_
  refine r_imul (pc := 101) dX6_takeStretched_101 ?_
  refine r_iload (pc := 102) (j := 2) dX6_takeStretched_102 rfl ?_
  obtain ⟨h9, hr⟩ := grd_inv hr
  refine r_idiv (pc := 104) dX6_takeStretched_104 (nz_ne h9) ?_
  refine x_iast (pc := 105) (j := (Int32.toNatClampNeg v5_)) (sh6_2 hs0_) h8 rfl dX6_takeStretched_105 fun σ10 eσ10 => ?_
  replace hr := vthen_inv hr σ10 eσ10
  have hσ10 := wtI eσ10 hw_
  refine r_iinc (pc := 106) (j := 3) (v := (v5_ + (1 : Int32))) (ls1 := [(5, .int (v5_ + (1 : Int32))), (0, .ref (ad g o0_)), (2, .int u2_), (4, .int u4_)]) dX6_takeStretched_106 rfl rfl (nle rfl) rfl ?_
  refine r_goto (pc := 109) (tgt := 70) dX6_takeStretched_109 rfl ?_
  exact r_pick (ls1 := [(0, .ref (ad g o0_)), (2, .int u2_), (4, .int u4_), (5, .int (v5_ + (1 : Int32)))]) [1, 2, 3, 0] rfl (ih (v5_ + (1 : Int32)) σ10 hr hσ10)

set_option maxRecDepth 20000 in
theorem sX6_takeStretched {g : GG} {σ : SS} {a0 : Nat} {a1 : Nat} {r : SS} (hr : fX6_takeStretched σ a0 a1 = some r) (hs0 : shp a0 = (6, 0)) (hs1 : shp a1 = (6, 0)) : Ct g mX6_takeStretched [.ref (ad g a0), .ref (ad g a1)] NF σ none NF r := by
  refine Ct.of (by decide +kernel) (nle rfl) fun hw0 => ?_
  have hw := hw0 rfl
  unfold fX6_takeStretched at hr
  change RR g mX6_takeStretched (FinR g mX6_takeStretched none NF r) zF 0 [(0, .ref (ad g a0)), (1, .ref (ad g a1))] [] σ
  refine r_aload_n (pc := 0) (j := 0) dX6_takeStretched_0 rfl rfl ?_
  refine r_aload_n (pc := 1) (j := 1) dX6_takeStretched_1 rfl rfl ?_
  obtain ⟨σ1, eσ1, hr⟩ := bnd1_inv hr
  refine kX6_takeAll (pc := 2) eσ1 hs0 hs1 tw_3_200 ⟨nle rfl, nle rfl⟩ (nle rfl) dX6_takeStretched_2 fun hσ1 => ?_
  refine r_bipush (pc := 5) (v := (9 : Int32)) dX6_takeStretched_5 rfl ?_
  refine r_istore_n (pc := 7) (ls1 := [(2, .int (9 : Int32)), (0, .ref (ad g a0)), (1, .ref (ad g a1))]) dX6_takeStretched_7 rfl (nle rfl) rfl ?_
  refine r_iconst (pc := 8) (v := (0 : Int32)) dX6_takeStretched_8 rfl ?_
  refine r_istore_n (pc := 9) (ls1 := [(3, .int (0 : Int32)), (2, .int (9 : Int32)), (0, .ref (ad g a0)), (1, .ref (ad g a1))]) dX6_takeStretched_9 rfl (nle rfl) rfl ?_
  refine r_iconst (pc := 10) (v := (0 : Int32)) dX6_takeStretched_10 rfl ?_
  refine r_istore (pc := 11) (ls1 := [(4, .int (0 : Int32)), (3, .int (0 : Int32)), (2, .int (9 : Int32)), (0, .ref (ad g a0)), (1, .ref (ad g a1))]) dX6_takeStretched_11 (nle rfl) rfl ?_
  refine r_pick (ls1 := [(0, .ref (ad g a0)), (2, .int (9 : Int32)), (3, .int (0 : Int32)), (4, .int (0 : Int32))]) [3, 2, 1, 0] rfl ?_
  refine sX6_takeStretched_L13 hs0 hσ1  (fun v5 v6 hr => ?_) fuel (9 : Int32) (0 : Int32) (0 : Int32) hr
  refine r_iload_n (pc := 57) (j := 2) dX6_takeStretched_57 rfl rfl ?_
  refine r_iload_n (pc := 58) (j := 1) dX6_takeStretched_58 rfl rfl ?_
  refine r_isub (pc := 59) dX6_takeStretched_59 ?_
  refine r_topi fun v7 ev7 => ?_
  replace hr := vthen_inv hr v7 ev7
  refine r_istore (pc := 60) (ls1 := [(4, .int v7), (0, .ref (ad g a0)), (2, .int v5), (3, .int v6)]) dX6_takeStretched_60 (nle rfl) rfl ?_
  refine r_iload (pc := 62) (j := 0) dX6_takeStretched_62 rfl ?_
  refine r_if_le (pc := 64) (tgt := 112) dX6_takeStretched_64 rfl (fun hc => ?_) (fun hc => ?_)
  · replace hr := ite_t hc hr
    exact l_ov hr (r_vret (pc := 112) rfl rfl ⟨Nat.le_refl _, Nat.le_refl _⟩ dX6_takeStretched_112)
  replace hr := ite_f hc hr
  refine r_iconst (pc := 67) (v := (0 : Int32)) dX6_takeStretched_67 rfl ?_
  refine r_istore (pc := 68) (ls1 := [(5, .int (0 : Int32)), (4, .int v7), (0, .ref (ad g a0)), (2, .int v5), (3, .int v6)]) dX6_takeStretched_68 (nle rfl) rfl ?_
  refine r_pick (ls1 := [(0, .ref (ad g a0)), (2, .int v5), (4, .int v7), (5, .int (0 : Int32))]) [2, 3, 1, 0] rfl ?_
  refine sX6_takeStretched_L70 hs0    fuel (0 : Int32) σ1 hr hσ1

theorem kX6_takeStretched {g : GG} {σ : SS} {a0 : Nat} {a1 : Nat} {σ2 : SS} {M : MM} {F : State → Array Value → List Frame → State → Prop} {pc index : Nat} {ls : List (Nat × Value)} {rest : List Value} (hf : fX6_takeStretched σ a0 a1 = some σ2) (hs0 : shp a0 = (6, 0)) (hs1 : shp a1 = (6, 0)) (hl : Cond.methodLink M.1.cls index yX6_takeStretched ∈ lw_gt) (hR : mX6_takeStretched.2.2.2.2.frames + 1 ≤ M.2.2.2.2.frames ∧ 8 + (mX6_takeStretched.2.2.1 + 11) + mX6_takeStretched.2.2.2.2.locals ≤ M.2.2.2.2.locals) (hrest : (rest.map fun v => v.category).sum ≤ 8) (hd : decode M.2.1 pc = .ok (.invokevirtual index, 3)) (k : WT σ2 → RR g M F zF (pc + 3) ls rest σ2) : RR g M F zF pc ls (.ref (ad g a1) :: .ref (ad g a0) :: rest) σ :=
  r_callV (z := zF) (N := mX6_takeStretched) (nn := 1) (o1 := none) (sX6_takeStretched hf hs0 hs1) hs0 (by decide) (shp_le hs0 (nle rfl)) (ci := 6) rfl rfl tw_3_199 tw_1_2 hl tw_3_197 tw_3_198 ⟨by decide, by decide, rfl⟩ hR rfl hrest hd ⟨Nat.zero_le _, Nat.zero_le _⟩ rfl (fun h => k (h rfl))

theorem dX7_stretch_0 : decode cX7_stretch 0 = .ok (.aload_n 0, 1) := by decide +kernel
theorem dX7_stretch_1 : decode cX7_stretch 1 = .ok (.getfield 22, 3) := by decide +kernel
theorem dX7_stretch_4 : decode cX7_stretch 4 = .ok (.aload_n 0, 1) := by decide +kernel
theorem dX7_stretch_5 : decode cX7_stretch 5 = .ok (.getfield 18, 3) := by decide +kernel
theorem dX7_stretch_8 : decode cX7_stretch 8 = .ok (.invokevirtual 202, 3) := by decide +kernel
theorem dX7_stretch_11 : decode cX7_stretch 11 = .ok (.aload_n 0, 1) := by decide +kernel
theorem dX7_stretch_12 : decode cX7_stretch 12 = .ok (.invokevirtual 194, 3) := by decide +kernel
theorem dX7_stretch_15 : decode cX7_stretch 15 = .ok (.ireturn, 1) := by decide +kernel
def mX7_stretch : MM := (yX7_stretch, cX7_stretch, 1, Option.some Jvm.ClassFile.FieldType.int, { frames := 3, cells := 0, slots := 0, locals := 72 })
def fX7_stretch (σ : SS)  : Option (Int32 × SS) :=
  bnd1 (fX6_takeStretched σ (gR σ 1 3) (gR σ 1 2)) fun σ1 =>
  bnd (fX7_takeSpare σ1) fun v2 σ5 =>
  some (v2, σ5)

set_option maxRecDepth 20000 in
theorem sX7_stretch {g : GG} {σ : SS}  {r : Int32 × SS} (hr : fX7_stretch σ = some r)  : Ct g mX7_stretch [.ref (ad g 1)] NF σ (some (.int r.1)) NF r.2 := by
  refine Ct.of (by decide +kernel) (nle rfl) fun hw0 => ?_
  have hw := hw0 rfl
  unfold fX7_stretch at hr
  change RR g mX7_stretch (FinR g mX7_stretch (some (.int r.1)) NF r.2) zF 0 [(0, .ref (ad g 1))] [] σ
  refine r_aload_n (pc := 0) (j := 0) dX7_stretch_0 rfl rfl ?_
  refine gf7_3 (pc := 1) tw_2_112 hw dX7_stretch_1 ?_
  refine r_aload_n (pc := 4) (j := 0) dX7_stretch_4 rfl rfl ?_
  refine gf7_2 (pc := 5) tw_2_111 hw dX7_stretch_5 ?_
  obtain ⟨σ1, eσ1, hr⟩ := bnd1_inv hr
  refine kX6_takeStretched (pc := 8) eσ1 (wt_sp hw).1 (wt_sc hw).1 tw_3_196 ⟨nle rfl, nle rfl⟩ (nle rfl) dX7_stretch_8 fun hσ1 => ?_
  refine r_aload_n (pc := 11) (j := 0) dX7_stretch_11 rfl rfl ?_
  obtain ⟨v2, σ5, eσ5, hr⟩ := bnd_inv hr
  refine kX7_takeSpare (pc := 12) eσ5 tw_3_176 ⟨nle rfl, nle rfl⟩ (nle rfl) dX7_stretch_12 fun hσ5 => ?_
  exact l_osi hr (r_iret (pc := 15) (v := v2) rfl rfl ⟨Nat.le_refl _, Nat.le_refl _⟩ dX7_stretch_15)

theorem kX7_stretch {g : GG} {σ : SS}  {v : Int32} {σ2 : SS} {M : MM} {F : State → Array Value → List Frame → State → Prop} {pc index : Nat} {ls : List (Nat × Value)} {rest : List Value} (hf : fX7_stretch σ = some (v, σ2))  (hl : Cond.methodLink M.1.cls index yX7_stretch ∈ lw_gt) (hR : mX7_stretch.2.2.2.2.frames + 1 ≤ M.2.2.2.2.frames ∧ 8 + (mX7_stretch.2.2.1 + 11) + mX7_stretch.2.2.2.2.locals ≤ M.2.2.2.2.locals) (hrest : (rest.map fun v => v.category).sum ≤ 8) (hd : decode M.2.1 pc = .ok (.invokevirtual index, 3)) (k : WT σ2 → RR g M F zF (pc + 3) ls (.int v :: rest) σ2) : RR g M F zF pc ls (.ref (ad g 1) :: rest) σ :=
  r_callV (z := zF) (N := mX7_stretch) (nn := 0) (o1 := some (.int v)) (sX7_stretch hf ) (rfl : shp 1 = (7, 0)) (by decide) (shp_le (rfl : shp 1 = (7, 0)) (nle rfl)) (ci := 7) rfl rfl tw_3_195 tw_1_1 hl tw_3_193 tw_3_194 ⟨by decide, by decide, rfl⟩ hR rfl hrest hd ⟨Nat.zero_le _, Nat.zero_le _⟩ rfl (fun h => k (h rfl))

theorem dX8_stretch_0 : decode cX8_stretch 0 = .ok (.aload_n 0, 1) := by decide +kernel
theorem dX8_stretch_1 : decode cX8_stretch 1 = .ok (.invokevirtual 289, 3) := by decide +kernel
theorem dX8_stretch_4 : decode cX8_stretch 4 = .ok (.bipush 9, 2) := by decide +kernel
theorem dX8_stretch_6 : decode cX8_stretch 6 = .ok (.istore_n 1, 1) := by decide +kernel
theorem dX8_stretch_7 : decode cX8_stretch 7 = .ok (.iconst 0, 1) := by decide +kernel
theorem dX8_stretch_8 : decode cX8_stretch 8 = .ok (.istore_n 2, 1) := by decide +kernel
theorem dX8_stretch_9 : decode cX8_stretch 9 = .ok (.iconst 0, 1) := by decide +kernel
theorem dX8_stretch_10 : decode cX8_stretch 10 = .ok (.istore_n 3, 1) := by decide +kernel
theorem dX8_stretch_11 : decode cX8_stretch 11 = .ok (.iload_n 3, 1) := by decide +kernel
theorem dX8_stretch_12 : decode cX8_stretch 12 = .ok (.aload_n 0, 1) := by decide +kernel
theorem dX8_stretch_13 : decode cX8_stretch 13 = .ok (.invokevirtual 275, 3) := by decide +kernel
theorem dX8_stretch_16 : decode cX8_stretch 16 = .ok (.if_icmp .ge 51, 3) := by decide +kernel
theorem dX8_stretch_19 : decode cX8_stretch 19 = .ok (.aload_n 0, 1) := by decide +kernel
theorem dX8_stretch_20 : decode cX8_stretch 20 = .ok (.getfield 38, 3) := by decide +kernel
theorem dX8_stretch_23 : decode cX8_stretch 23 = .ok (.iload_n 3, 1) := by decide +kernel
theorem dX8_stretch_24 : decode cX8_stretch 24 = .ok (.iaload, 1) := by decide +kernel
theorem dX8_stretch_25 : decode cX8_stretch 25 = .ok (.iload_n 1, 1) := by decide +kernel
theorem dX8_stretch_26 : decode cX8_stretch 26 = .ok (.if_icmp .ge 12, 3) := by decide +kernel
theorem dX8_stretch_29 : decode cX8_stretch 29 = .ok (.aload_n 0, 1) := by decide +kernel
theorem dX8_stretch_30 : decode cX8_stretch 30 = .ok (.getfield 38, 3) := by decide +kernel
theorem dX8_stretch_33 : decode cX8_stretch 33 = .ok (.iload_n 3, 1) := by decide +kernel
theorem dX8_stretch_34 : decode cX8_stretch 34 = .ok (.iaload, 1) := by decide +kernel
theorem dX8_stretch_35 : decode cX8_stretch 35 = .ok (.goto 4, 3) := by decide +kernel
theorem dX8_stretch_38 : decode cX8_stretch 38 = .ok (.iload_n 1, 1) := by decide +kernel
theorem dX8_stretch_39 : decode cX8_stretch 39 = .ok (.istore_n 1, 1) := by decide +kernel
theorem dX8_stretch_40 : decode cX8_stretch 40 = .ok (.aload_n 0, 1) := by decide +kernel
theorem dX8_stretch_41 : decode cX8_stretch 41 = .ok (.getfield 38, 3) := by decide +kernel
theorem dX8_stretch_44 : decode cX8_stretch 44 = .ok (.iload_n 3, 1) := by decide +kernel
theorem dX8_stretch_45 : decode cX8_stretch 45 = .ok (.iaload, 1) := by decide +kernel
theorem dX8_stretch_46 : decode cX8_stretch 46 = .ok (.iload_n 2, 1) := by decide +kernel
theorem dX8_stretch_47 : decode cX8_stretch 47 = .ok (.if_icmp .le 12, 3) := by decide +kernel
theorem dX8_stretch_50 : decode cX8_stretch 50 = .ok (.aload_n 0, 1) := by decide +kernel
theorem dX8_stretch_51 : decode cX8_stretch 51 = .ok (.getfield 38, 3) := by decide +kernel
theorem dX8_stretch_54 : decode cX8_stretch 54 = .ok (.iload_n 3, 1) := by decide +kernel
theorem dX8_stretch_55 : decode cX8_stretch 55 = .ok (.iaload, 1) := by decide +kernel
theorem dX8_stretch_56 : decode cX8_stretch 56 = .ok (.goto 4, 3) := by decide +kernel
theorem dX8_stretch_59 : decode cX8_stretch 59 = .ok (.iload_n 2, 1) := by decide +kernel
theorem dX8_stretch_60 : decode cX8_stretch 60 = .ok (.istore_n 2, 1) := by decide +kernel
theorem dX8_stretch_61 : decode cX8_stretch 61 = .ok (.iinc 3 1, 3) := by decide +kernel
theorem dX8_stretch_64 : decode cX8_stretch 64 = .ok (.goto (-53), 3) := by decide +kernel
theorem dX8_stretch_67 : decode cX8_stretch 67 = .ok (.iconst 0, 1) := by decide +kernel
theorem dX8_stretch_68 : decode cX8_stretch 68 = .ok (.istore_n 3, 1) := by decide +kernel
theorem dX8_stretch_69 : decode cX8_stretch 69 = .ok (.iload_n 3, 1) := by decide +kernel
theorem dX8_stretch_70 : decode cX8_stretch 70 = .ok (.aload_n 0, 1) := by decide +kernel
theorem dX8_stretch_71 : decode cX8_stretch 71 = .ok (.invokevirtual 275, 3) := by decide +kernel
theorem dX8_stretch_74 : decode cX8_stretch 74 = .ok (.if_icmp .ge 35, 3) := by decide +kernel
theorem dX8_stretch_77 : decode cX8_stretch 77 = .ok (.iload_n 2, 1) := by decide +kernel
theorem dX8_stretch_78 : decode cX8_stretch 78 = .ok (.iload_n 1, 1) := by decide +kernel
theorem dX8_stretch_79 : decode cX8_stretch 79 = .ok (.if_icmp .le 30, 3) := by decide +kernel
theorem dX8_stretch_82 : decode cX8_stretch 82 = .ok (.aload_n 0, 1) := by decide +kernel
theorem dX8_stretch_83 : decode cX8_stretch 83 = .ok (.getfield 38, 3) := by decide +kernel
theorem dX8_stretch_86 : decode cX8_stretch 86 = .ok (.iload_n 3, 1) := by decide +kernel
theorem dX8_stretch_87 : decode cX8_stretch 87 = .ok (.aload_n 0, 1) := by decide +kernel
theorem dX8_stretch_88 : decode cX8_stretch 88 = .ok (.getfield 38, 3) := by decide +kernel
theorem dX8_stretch_91 : decode cX8_stretch 91 = .ok (.iload_n 3, 1) := by decide +kernel
theorem dX8_stretch_92 : decode cX8_stretch 92 = .ok (.iaload, 1) := by decide +kernel
theorem dX8_stretch_93 : decode cX8_stretch 93 = .ok (.iload_n 1, 1) := by decide +kernel
theorem dX8_stretch_94 : decode cX8_stretch 94 = .ok (.isub, 1) := by decide +kernel
theorem dX8_stretch_95 : decode cX8_stretch 95 = .ok (.bipush 9, 2) := by decide +kernel
theorem dX8_stretch_97 : decode cX8_stretch 97 = .ok (.imul, 1) := by decide +kernel
theorem dX8_stretch_98 : decode cX8_stretch 98 = .ok (.iload_n 2, 1) := by decide +kernel
theorem dX8_stretch_99 : decode cX8_stretch 99 = .ok (.iload_n 1, 1) := by decide +kernel
theorem dX8_stretch_100 : decode cX8_stretch 100 = .ok (.isub, 1) := by decide +kernel
theorem dX8_stretch_101 : decode cX8_stretch 101 = .ok (.idiv, 1) := by decide +kernel
theorem dX8_stretch_102 : decode cX8_stretch 102 = .ok (.iastore, 1) := by decide +kernel
theorem dX8_stretch_103 : decode cX8_stretch 103 = .ok (.iinc 3 1, 3) := by decide +kernel
theorem dX8_stretch_106 : decode cX8_stretch 106 = .ok (.goto (-37), 3) := by decide +kernel
theorem dX8_stretch_109 : decode cX8_stretch 109 = .ok (.aload_n 0, 1) := by decide +kernel
theorem dX8_stretch_110 : decode cX8_stretch 110 = .ok (.invokevirtual 295, 3) := by decide +kernel
theorem dX8_stretch_113 : decode cX8_stretch 113 = .ok (.ireturn, 1) := by decide +kernel
def mX8_stretch : MM := (yX8_stretch, cX8_stretch, 4, Option.some Jvm.ClassFile.FieldType.int, { frames := 2, cells := 0, slots := 0, locals := 42 })
def X8_stretch_L11 (σ_ : SS)  (k67 : Int32 → Int32 → Option (Int32 × SS)) : Nat → Int32 → Int32 → Int32 → Option (Int32 × SS) :=
  lp (fun _ _ _ => none) fun rec v1_ v2_ v3_ =>
    if (fX8_all σ_) ≤ v3_ then (
      k67 v1_ v2_
      ) else (
      grd (inb v3_ 1600) <|
      vthen (fun (s3 : Int32) =>
        if (gI σ_ 83 (Int32.toNatClampNeg v3_)) ≤ v2_ then (
          rec s3 v2_ (v3_ + (1 : Int32))
          ) else (
          vthen (gI σ_ 83 (Int32.toNatClampNeg v3_)) fun v4 =>
          rec s3 v4 (v3_ + (1 : Int32))
          )
        ) fun j39 =>
      if v1_ ≤ (gI σ_ 83 (Int32.toNatClampNeg v3_)) then (
        j39 v1_
        ) else (
        j39 (gI σ_ 83 (Int32.toNatClampNeg v3_))
        )
      )

def X8_stretch_L69 (u1_ : Int32) (u2_ : Int32)  : Nat → Int32 → SS → Option (Int32 × SS) :=
  lp (fun _ _ => none) fun rec v3_ σ_ =>
    vthen (fun  (σ7 : SS) =>
      bnd1 (fX8_others σ7) fun v8 =>
      some (v8, σ7)
      ) fun j109 =>
    if (fX8_all σ_) ≤ v3_ then (
      j109 σ_
      ) else (
      if u2_ ≤ u1_ then (
        j109 σ_
        ) else (
        grd (inb v3_ 1600) <|
        grd (nz (u2_ - u1_)) <|
        vthen (sI σ_ 83 (Int32.toNatClampNeg v3_) ((((gI σ_ 83 (Int32.toNatClampNeg v3_)) - u1_) * (9 : Int32)) / (u2_ - u1_))) fun σ13 =>
        rec (v3_ + (1 : Int32)) σ13
        )
      )

def fX8_stretch (σ : SS)  : Option (Int32 × SS) :=
  bnd1 (fX8_puts σ) fun σ1 =>
  X8_stretch_L11 σ1
  (fun v5 v6 =>
    X8_stretch_L69 v5 v6
    fuel (0 : Int32) σ1
    )
  fuel (9 : Int32) (0 : Int32) (0 : Int32)

set_option maxRecDepth 20000 in
theorem sX8_stretch_L11 {g : GG} {r : Int32 × SS} {σ_ : SS}  {k67 : Int32 → Int32 → Option (Int32 × SS)} 
    (hw_ : WT σ_)
    (hk67 : ∀ (y1 : Int32) (y2 : Int32), k67 y1 y2 = some r → RR g mX8_stretch (FinR g mX8_stretch (some (.int r.1)) NF r.2) zF 67 [(0, .ref (ad g 73)), (1, .int y1), (2, .int y2)] [] σ_)
    (n : Nat) : ∀ (v1_ : Int32) (v2_ : Int32) (v3_ : Int32), X8_stretch_L11 σ_ k67 n v1_ v2_ v3_ = some r → RR g mX8_stretch (FinR g mX8_stretch (some (.int r.1)) NF r.2) zF 11 [(0, .ref (ad g 73)), (1, .int v1_), (2, .int v2_), (3, .int v3_)] [] σ_ := by
  unfold X8_stretch_L11
  refine lp_ind (P := fun (rec : Int32 → Int32 → Int32 → Option (Int32 × SS)) => ∀ (v1_ : Int32) (v2_ : Int32) (v3_ : Int32), rec v1_ v2_ v3_ = some r → RR g mX8_stretch (FinR g mX8_stretch (some (.int r.1)) NF r.2) zF 11 [(0, .ref (ad g 73)), (1, .int v1_), (2, .int v2_), (3, .int v3_)] [] σ_) ?_ ?_ n
  · intro v1_ v2_ v3_ hr; cases hr
  intro rec ih v1_ v2_ v3_ hr
  refine r_iload_n (pc := 11) (j := 3) dX8_stretch_11 rfl rfl ?_
  refine r_aload_n (pc := 12) (j := 0) dX8_stretch_12 rfl rfl ?_
  refine kX8_all (pc := 13) (hf := rfl) tw_6_215 ⟨nle rfl, nle rfl⟩ (nle rfl) dX8_stretch_13 ?_
  refine r_icmp_ge (pc := 16) (tgt := 67) dX8_stretch_16 rfl (fun hc => ?_) (fun hc => ?_)
  · replace hr := ite_t hc hr
    exact r_pick (ls1 := [(0, .ref (ad g 73)), (1, .int v1_), (2, .int v2_)]) [0, 1, 2] rfl (hk67 v1_ v2_ hr)
  replace hr := ite_f hc hr
  refine r_aload_n (pc := 19) (j := 0) dX8_stretch_19 rfl rfl ?_
  refine gf8_21 (pc := 20) tw_5_115 hw_ dX8_stretch_20 ?_
  refine r_iload_n (pc := 23) (j := 3) dX8_stretch_23 rfl rfl ?_
  obtain ⟨h2, hr⟩ := grd_inv hr
  refine x_iald (pc := 24) (k := (Int32.toNatClampNeg v3_)) rfl h2 rfl dX8_stretch_24 ?_
  refine r_iload_n (pc := 25) (j := 1) dX8_stretch_25 rfl rfl ?_
  obtain ⟨j39, ej39, hr⟩ := vth_ex hr
  have hj39 : ∀ (s3 : Int32), j39 s3 = some r → RR g mX8_stretch (FinR g mX8_stretch (some (.int r.1)) NF r.2) zF 39 [(0, .ref (ad g 73)), (2, .int v2_), (3, .int v3_)] [.int s3] σ_ := by
    intro s3 hr
    replace hr := (congrFun ej39 s3).symm.trans hr
    refine r_istore_n (pc := 39) (ls1 := [(1, .int s3), (0, .ref (ad g 73)), (2, .int v2_), (3, .int v3_)]) dX8_stretch_39 rfl (nle rfl) rfl ?_
    refine r_aload_n (pc := 40) (j := 1) dX8_stretch_40 rfl rfl ?_
    refine gf8_21 (pc := 41) tw_5_115 hw_ dX8_stretch_41 ?_
    refine r_iload_n (pc := 44) (j := 3) dX8_stretch_44 rfl rfl ?_
    refine x_iald (pc := 45) (k := (Int32.toNatClampNeg v3_)) rfl h2 rfl dX8_stretch_45 ?_
    refine r_iload_n (pc := 46) (j := 2) dX8_stretch_46 rfl rfl ?_
    refine r_icmp_le (pc := 47) (tgt := 59) dX8_stretch_47 rfl (fun hc => ?_) (fun hc => ?_)
    · replace hr := ite_t hc hr
      refine r_iload_n (pc := 59) (j := 2) dX8_stretch_59 rfl rfl ?_
      refine r_istore_n (pc := 60) (ls1 := [(2, .int v2_), (1, .int s3), (0, .ref (ad g 73)), (3, .int v3_)]) dX8_stretch_60 rfl (nle rfl) rfl ?_
      refine r_iinc (pc := 61) (j := 3) (v := (v3_ + (1 : Int32))) (ls1 := [(3, .int (v3_ + (1 : Int32))), (2, .int v2_), (1, .int s3), (0, .ref (ad g 73))]) dX8_stretch_61 rfl rfl (nle rfl) rfl ?_
      refine r_goto (pc := 64) (tgt := 11) dX8_stretch_64 rfl ?_
      exact r_pick (ls1 := [(0, .ref (ad g 73)), (1, .int s3), (2, .int v2_), (3, .int (v3_ + (1 : Int32)))]) [3, 2, 1, 0] rfl (ih s3 v2_ (v3_ + (1 : Int32)) hr)
    replace hr := ite_f hc hr
    refine r_aload_n (pc := 50) (j := 1) dX8_stretch_50 rfl rfl ?_
    refine gf8_21 (pc := 51) tw_5_115 hw_ dX8_stretch_51 ?_
    refine r_iload_n (pc := 54) (j := 3) dX8_stretch_54 rfl rfl ?_
    refine x_iald (pc := 55) (k := (Int32.toNatClampNeg v3_)) rfl h2 rfl dX8_stretch_55 ?_
    refine r_goto (pc := 56) (tgt := 60) dX8_stretch_56 rfl ?_
    refine r_topi fun v4 ev4 => ?_
    replace hr := vthen_inv hr v4 ev4
    refine r_istore_n (pc := 60) (ls1 := [(2, .int v4), (1, .int s3), (0, .ref (ad g 73)), (3, .int v3_)]) dX8_stretch_60 rfl (nle rfl) rfl ?_
    refine r_iinc (pc := 61) (j := 3) (v := (v3_ + (1 : Int32))) (ls1 := [(3, .int (v3_ + (1 : Int32))), (2, .int v4), (1, .int s3), (0, .ref (ad g 73))]) dX8_stretch_61 rfl rfl (nle rfl) rfl ?_
    refine r_goto (pc := 64) (tgt := 11) dX8_stretch_64 rfl ?_
    exact r_pick (ls1 := [(0, .ref (ad g 73)), (1, .int s3), (2, .int v4), (3, .int (v3_ + (1 : Int32)))]) [3, 2, 1, 0] rfl (ih s3 v4 (v3_ + (1 : Int32)) hr)
  refine r_icmp_ge (pc := 26) (tgt := 38) dX8_stretch_26 rfl (fun hc => ?_) (fun hc => ?_)
  · replace hr := ite_t hc hr
    refine r_iload_n (pc := 38) (j := 1) dX8_stretch_38 rfl rfl ?_
    exact r_pick (ls1 := [(0, .ref (ad g 73)), (2, .int v2_), (3, .int v3_)]) [0, 2, 3] rfl (hj39 v1_ hr)
  replace hr := ite_f hc hr
  refine r_aload_n (pc := 29) (j := 0) dX8_stretch_29 rfl rfl ?_
  refine gf8_21 (pc := 30) tw_5_115 hw_ dX8_stretch_30 ?_
  refine r_iload_n (pc := 33) (j := 3) dX8_stretch_33 rfl rfl ?_
  refine x_iald (pc := 34) (k := (Int32.toNatClampNeg v3_)) rfl h2 rfl dX8_stretch_34 ?_
  refine r_goto (pc := 35) (tgt := 39) dX8_stretch_35 rfl ?_
  exact r_pick (ls1 := [(0, .ref (ad g 73)), (2, .int v2_), (3, .int v3_)]) [0, 2, 3] rfl (hj39 (gI σ_ 83 (Int32.toNatClampNeg v3_)) hr)

set_option maxRecDepth 20000 in
theorem sX8_stretch_L69 {g : GG} {r : Int32 × SS} {u1_ : Int32} {u2_ : Int32}  
    (n : Nat) : ∀ (v3_ : Int32) (σ_ : SS), X8_stretch_L69 u1_ u2_ n v3_ σ_ = some r → WT σ_ → RR g mX8_stretch (FinR g mX8_stretch (some (.int r.1)) NF r.2) zF 69 [(0, .ref (ad g 73)), (1, .int u1_), (2, .int u2_), (3, .int v3_)] [] σ_ := by
  unfold X8_stretch_L69
  refine lp_ind (P := fun (rec : Int32 → SS → Option (Int32 × SS)) => ∀ (v3_ : Int32) (σ_ : SS), rec v3_ σ_ = some r → WT σ_ → RR g mX8_stretch (FinR g mX8_stretch (some (.int r.1)) NF r.2) zF 69 [(0, .ref (ad g 73)), (1, .int u1_), (2, .int u2_), (3, .int v3_)] [] σ_) ?_ ?_ n
  · intro v3_ σ_ hr; cases hr
  intro rec ih v3_ σ_ hr hw_
  refine r_iload_n (pc := 69) (j := 3) dX8_stretch_69 rfl rfl ?_
  refine r_aload_n (pc := 70) (j := 0) dX8_stretch_70 rfl rfl ?_
  refine kX8_all (pc := 71) (hf := rfl) tw_6_215 ⟨nle rfl, nle rfl⟩ (nle rfl) dX8_stretch_71 ?_
  obtain ⟨j109, ej109, hr⟩ := vth_ex hr
  have hj109 : ∀ (σ7 : SS), j109 σ7 = some r → WT σ7 → RR g mX8_stretch (FinR g mX8_stretch (some (.int r.1)) NF r.2) zF 109 [(0, .ref (ad g 73))] [] σ7 := by
    intro σ7 hr hσ7
    replace hr := (congrFun ej109 σ7).symm.trans hr
    refine r_aload_n (pc := 109) (j := 0) dX8_stretch_109 rfl rfl ?_
    obtain ⟨v8, hv8, hr⟩ := bnd1_inv hr
    refine kX8_others (pc := 110) hv8 tw_6_211 ⟨nle rfl, nle rfl⟩ (nle rfl) dX8_stretch_110 ?_
    exact l_osi hr (r_iret (pc := 113) (v := v8) rfl rfl ⟨Nat.le_refl _, Nat.le_refl _⟩ dX8_stretch_113)
  refine r_icmp_ge (pc := 74) (tgt := 109) dX8_stretch_74 rfl (fun hc => ?_) (fun hc => ?_)
  · replace hr := ite_t hc hr
    exact r_pick (ls1 := [(0, .ref (ad g 73))]) [0] rfl (hj109 σ_ hr hw_)
  replace hr := ite_f hc hr
  refine r_iload_n (pc := 77) (j := 2) dX8_stretch_77 rfl rfl ?_
  refine r_iload_n (pc := 78) (j := 1) dX8_stretch_78 rfl rfl ?_
  refine r_icmp_le (pc := 79) (tgt := 109) dX8_stretch_79 rfl (fun hc => ?_) (fun hc => ?_)
  · replace hr := ite_t hc hr
    exact r_pick (ls1 := [(0, .ref (ad g 73))]) [0] rfl (hj109 σ_ hr hw_)
  replace hr := ite_f hc hr
  refine r_aload_n (pc := 82) (j := 0) dX8_stretch_82 rfl rfl ?_
  refine gf8_21 (pc := 83) tw_5_115 hw_ dX8_stretch_83 ?_
  refine r_iload_n (pc := 86) (j := 3) dX8_stretch_86 rfl rfl ?_
  refine r_aload_n (pc := 87) (j := 0) dX8_stretch_87 rfl rfl ?_
  refine gf8_21 (pc := 88) tw_5_115 hw_ dX8_stretch_88 ?_
  refine r_iload_n (pc := 91) (j := 3) dX8_stretch_91 rfl rfl ?_
  obtain ⟨h11, hr⟩ := grd_inv hr
  refine x_iald (pc := 92) (k := (Int32.toNatClampNeg v3_)) rfl h11 rfl dX8_stretch_92 ?_
  refine r_iload_n (pc := 93) (j := 1) dX8_stretch_93 rfl rfl ?_
  refine r_isub (pc := 94) dX8_stretch_94 ?_
  refine r_bipush (pc := 95) (v := (9 : Int32)) dX8_stretch_95 rfl ?_
  refine r_imul (pc := 97) dX8_stretch_97 ?_
  refine r_iload_n (pc := 98) (j := 2) dX8_stretch_98 rfl rfl ?_
  refine r_iload_n (pc := 99) (j := 1) dX8_stretch_99 rfl rfl ?_
  refine r_isub (pc := 100) dX8_stretch_100 ?_
  obtain ⟨h12, hr⟩ := grd_inv hr
  refine r_idiv (pc := 101) dX8_stretch_101 (nz_ne h12) ?_
  refine x_iast (pc := 102) (j := (Int32.toNatClampNeg v3_)) rfl h11 rfl dX8_stretch_102 fun σ13 eσ13 => ?_
  replace hr := vthen_inv hr σ13 eσ13
  have hσ13 := wtI eσ13 hw_
  refine r_iinc (pc := 103) (j := 3) (v := (v3_ + (1 : Int32))) (ls1 := [(3, .int (v3_ + (1 : Int32))), (0, .ref (ad g 73)), (1, .int u1_), (2, .int u2_)]) dX8_stretch_103 rfl rfl (nle rfl) rfl ?_
  refine r_goto (pc := 106) (tgt := 69) dX8_stretch_106 rfl ?_
  exact r_pick (ls1 := [(0, .ref (ad g 73)), (1, .int u1_), (2, .int u2_), (3, .int (v3_ + (1 : Int32)))]) [1, 2, 3, 0] rfl (ih (v3_ + (1 : Int32)) σ13 hr hσ13)

set_option maxRecDepth 20000 in
theorem sX8_stretch {g : GG} {σ : SS}  {r : Int32 × SS} (hr : fX8_stretch σ = some r)  : Ct g mX8_stretch [.ref (ad g 73)] NF σ (some (.int r.1)) NF r.2 := by
  refine Ct.of (by decide +kernel) (nle rfl) fun hw0 => ?_
  have hw := hw0 rfl
  unfold fX8_stretch at hr
  change RR g mX8_stretch (FinR g mX8_stretch (some (.int r.1)) NF r.2) zF 0 [(0, .ref (ad g 73))] [] σ
  refine r_aload_n (pc := 0) (j := 0) dX8_stretch_0 rfl rfl ?_
  obtain ⟨σ1, eσ1, hr⟩ := bnd1_inv hr
  refine kX8_puts (pc := 1) eσ1 tw_6_203 ⟨nle rfl, nle rfl⟩ (nle rfl) dX8_stretch_1 fun hσ1 => ?_
  refine r_bipush (pc := 4) (v := (9 : Int32)) dX8_stretch_4 rfl ?_
  refine r_istore_n (pc := 6) (ls1 := [(1, .int (9 : Int32)), (0, .ref (ad g 73))]) dX8_stretch_6 rfl (nle rfl) rfl ?_
  refine r_iconst (pc := 7) (v := (0 : Int32)) dX8_stretch_7 rfl ?_
  refine r_istore_n (pc := 8) (ls1 := [(2, .int (0 : Int32)), (1, .int (9 : Int32)), (0, .ref (ad g 73))]) dX8_stretch_8 rfl (nle rfl) rfl ?_
  refine r_iconst (pc := 9) (v := (0 : Int32)) dX8_stretch_9 rfl ?_
  refine r_istore_n (pc := 10) (ls1 := [(3, .int (0 : Int32)), (2, .int (0 : Int32)), (1, .int (9 : Int32)), (0, .ref (ad g 73))]) dX8_stretch_10 rfl (nle rfl) rfl ?_
  refine r_pick (ls1 := [(0, .ref (ad g 73)), (1, .int (9 : Int32)), (2, .int (0 : Int32)), (3, .int (0 : Int32))]) [3, 2, 1, 0] rfl ?_
  refine sX8_stretch_L11  hσ1  (fun v5 v6 hr => ?_) fuel (9 : Int32) (0 : Int32) (0 : Int32) hr
  refine r_iconst (pc := 67) (v := (0 : Int32)) dX8_stretch_67 rfl ?_
  refine r_istore_n (pc := 68) (ls1 := [(3, .int (0 : Int32)), (0, .ref (ad g 73)), (1, .int v5), (2, .int v6)]) dX8_stretch_68 rfl (nle rfl) rfl ?_
  refine r_pick (ls1 := [(0, .ref (ad g 73)), (1, .int v5), (2, .int v6), (3, .int (0 : Int32))]) [1, 2, 3, 0] rfl ?_
  refine sX8_stretch_L69     fuel (0 : Int32) σ1 hr hσ1

theorem kX8_stretch {g : GG} {σ : SS}  {v : Int32} {σ2 : SS} {M : MM} {F : State → Array Value → List Frame → State → Prop} {pc index : Nat} {ls : List (Nat × Value)} {rest : List Value} (hf : fX8_stretch σ = some (v, σ2))  (hl : Cond.methodLink M.1.cls index yX8_stretch ∈ lw_gt) (hR : mX8_stretch.2.2.2.2.frames + 1 ≤ M.2.2.2.2.frames ∧ 8 + (mX8_stretch.2.2.1 + 11) + mX8_stretch.2.2.2.2.locals ≤ M.2.2.2.2.locals) (hrest : (rest.map fun v => v.category).sum ≤ 8) (hd : decode M.2.1 pc = .ok (.invokevirtual index, 3)) (k : WT σ2 → RR g M F zF (pc + 3) ls (.int v :: rest) σ2) : RR g M F zF pc ls (.ref (ad g 73) :: rest) σ :=
  r_callV (z := zF) (N := mX8_stretch) (nn := 0) (o1 := some (.int v)) (sX8_stretch hf ) (rfl : shp 73 = (8, 0)) (by decide) (shp_le (rfl : shp 73 = (8, 0)) (nle rfl)) (ci := 8) rfl rfl tw_6_226 tw_1_10 hl tw_6_224 tw_6_225 ⟨by decide, by decide, rfl⟩ hR rfl hrest hd ⟨Nat.zero_le _, Nat.zero_le _⟩ rfl (fun h => k (h rfl))

theorem dX6_size_0 : decode cX6_size 0 = .ok (.aload_n 0, 1) := by decide +kernel
theorem dX6_size_1 : decode cX6_size 1 = .ok (.getfield 18, 3) := by decide +kernel
theorem dX6_size_4 : decode cX6_size 4 = .ok (.aload_n 0, 1) := by decide +kernel
theorem dX6_size_5 : decode cX6_size 5 = .ok (.getfield 22, 3) := by decide +kernel
theorem dX6_size_8 : decode cX6_size 8 = .ok (.imul, 1) := by decide +kernel
theorem dX6_size_9 : decode cX6_size 9 = .ok (.ireturn, 1) := by decide +kernel
def mX6_size : MM := (yX6_size, cX6_size, 1, Option.some Jvm.ClassFile.FieldType.int, { frames := 0, cells := 0, slots := 0, locals := 0 })
def fX6_size (σ0 : SS) (a0 : Nat) : Int32 :=
  ((gI σ0 a0 0) * (gI σ0 a0 1))

set_option maxRecDepth 20000 in
theorem sX6_size {g : GG} {σ0 : SS} {a0 : Nat} {r : Int32} (hr : fX6_size σ0 a0 = r) (hs0 : shp a0 = (6, 0)) : Ct g mX6_size [.ref (ad g a0)] NF σ0 (some (.int r)) NF σ0 := by
  refine Ct.of (by decide +kernel) (nle rfl) fun hw0 => ?_
  have hw := hw0 rfl
  unfold fX6_size at hr
  change RR g mX6_size (FinR g mX6_size (some (.int r)) NF σ0) zF 0 [(0, .ref (ad g a0))] [] σ0
  refine r_aload_n (pc := 0) (j := 0) dX6_size_0 rfl rfl ?_
  refine gf6_0 (pc := 1) tw_1_32 hs0 dX6_size_1 ?_
  refine r_aload_n (pc := 4) (j := 0) dX6_size_4 rfl rfl ?_
  refine gf6_1 (pc := 5) tw_1_37 hs0 dX6_size_5 ?_
  refine r_imul (pc := 8) dX6_size_8 ?_
  exact l_pi hr (r_iret (pc := 9) (v := ((gI σ0 a0 0) * (gI σ0 a0 1))) rfl rfl ⟨Nat.le_refl _, Nat.le_refl _⟩ dX6_size_9)

theorem kX6_size {g : GG} {σ0 : SS} {a0 : Nat} {v : Int32} {M : MM} {F : State → Array Value → List Frame → State → Prop} {pc index : Nat} {ls : List (Nat × Value)} {rest : List Value} (hf : fX6_size σ0 a0 = v) (hs0 : shp a0 = (6, 0)) (hl : Cond.methodLink M.1.cls index yX6_size ∈ lw_gt) (hR : mX6_size.2.2.2.2.frames + 1 ≤ M.2.2.2.2.frames ∧ 8 + (mX6_size.2.2.1 + 11) + mX6_size.2.2.2.2.locals ≤ M.2.2.2.2.locals) (hrest : (rest.map fun v => v.category).sum ≤ 8) (hd : decode M.2.1 pc = .ok (.invokevirtual index, 3)) (k : RR g M F zF (pc + 3) ls (.int v :: rest) σ0) : RR g M F zF pc ls (.ref (ad g a0) :: rest) σ0 :=
  r_callV (z := zF) (N := mX6_size) (nn := 0) (o1 := some (.int v)) (sX6_size hf hs0) hs0 (by decide) (shp_le hs0 (nle rfl)) (ci := 6) rfl rfl tw_3_217 tw_1_2 hl tw_3_215 tw_3_216 ⟨by decide, by decide, rfl⟩ hR rfl hrest hd ⟨Nat.zero_le _, Nat.zero_le _⟩ rfl (fun h => k)

theorem dX0_join_0 : decode cX0_join 0 = .ok (.iload_n 3, 1) := by decide +kernel
theorem dX0_join_1 : decode cX0_join 1 = .ok (.ifCond .lt 37, 3) := by decide +kernel
theorem dX0_join_4 : decode cX0_join 4 = .ok (.iload_n 3, 1) := by decide +kernel
theorem dX0_join_5 : decode cX0_join 5 = .ok (.sipush 1600, 3) := by decide +kernel
theorem dX0_join_8 : decode cX0_join 8 = .ok (.if_icmp .ge 30, 3) := by decide +kernel
theorem dX0_join_11 : decode cX0_join 11 = .ok (.iload 4, 2) := by decide +kernel
theorem dX0_join_13 : decode cX0_join 13 = .ok (.sipush 1600, 3) := by decide +kernel
theorem dX0_join_16 : decode cX0_join 16 = .ok (.if_icmp .ge 22, 3) := by decide +kernel
theorem dX0_join_19 : decode cX0_join 19 = .ok (.aload_n 0, 1) := by decide +kernel
theorem dX0_join_20 : decode cX0_join 20 = .ok (.getfield 39, 3) := by decide +kernel
theorem dX0_join_23 : decode cX0_join 23 = .ok (.iload_n 3, 1) := by decide +kernel
theorem dX0_join_24 : decode cX0_join 24 = .ok (.baload, 1) := by decide +kernel
theorem dX0_join_25 : decode cX0_join 25 = .ok (.ifCond .ne 13, 3) := by decide +kernel
theorem dX0_join_28 : decode cX0_join 28 = .ok (.aload_n 1, 1) := by decide +kernel
theorem dX0_join_29 : decode cX0_join 29 = .ok (.getfield 70, 3) := by decide +kernel
theorem dX0_join_32 : decode cX0_join 32 = .ok (.iload_n 3, 1) := by decide +kernel
theorem dX0_join_33 : decode cX0_join 33 = .ok (.iaload, 1) := by decide +kernel
theorem dX0_join_34 : decode cX0_join 34 = .ok (.iload_n 2, 1) := by decide +kernel
theorem dX0_join_35 : decode cX0_join 35 = .ok (.if_icmp .ge 6, 3) := by decide +kernel
theorem dX0_join_38 : decode cX0_join 38 = .ok (.iload 4, 2) := by decide +kernel
theorem dX0_join_40 : decode cX0_join 40 = .ok (.ireturn, 1) := by decide +kernel
theorem dX0_join_41 : decode cX0_join 41 = .ok (.aload_n 0, 1) := by decide +kernel
theorem dX0_join_42 : decode cX0_join 42 = .ok (.getfield 39, 3) := by decide +kernel
theorem dX0_join_45 : decode cX0_join 45 = .ok (.iload_n 3, 1) := by decide +kernel
theorem dX0_join_46 : decode cX0_join 46 = .ok (.iconst 1, 1) := by decide +kernel
theorem dX0_join_47 : decode cX0_join 47 = .ok (.bastore, 1) := by decide +kernel
theorem dX0_join_48 : decode cX0_join 48 = .ok (.aload_n 0, 1) := by decide +kernel
theorem dX0_join_49 : decode cX0_join 49 = .ok (.getfield 36, 3) := by decide +kernel
theorem dX0_join_52 : decode cX0_join 52 = .ok (.iload 4, 2) := by decide +kernel
theorem dX0_join_54 : decode cX0_join 54 = .ok (.iload_n 3, 1) := by decide +kernel
theorem dX0_join_55 : decode cX0_join 55 = .ok (.iastore, 1) := by decide +kernel
theorem dX0_join_56 : decode cX0_join 56 = .ok (.iload 4, 2) := by decide +kernel
theorem dX0_join_58 : decode cX0_join 58 = .ok (.iconst 1, 1) := by decide +kernel
theorem dX0_join_59 : decode cX0_join 59 = .ok (.iadd, 1) := by decide +kernel
theorem dX0_join_60 : decode cX0_join 60 = .ok (.ireturn, 1) := by decide +kernel
def mX0_join : MM := (yX0_join, cX0_join, 5, Option.some Jvm.ClassFile.FieldType.int, { frames := 0, cells := 0, slots := 0, locals := 0 })
def fX0_join (σ : SS) (a1 : Nat) (a2 : Int32) (a3 : Int32) (a4 : Int32) : Option (Int32 × SS) :=
  if a3 < 0 then (
    some (a4, σ)
    ) else (
    if (1600 : Int32) ≤ a3 then (
      some (a4, σ)
      ) else (
      if (1600 : Int32) ≤ a4 then (
        some (a4, σ)
        ) else (
        grd (inb a3 1600) <|
        if (gI σ 43 (Int32.toNatClampNeg a3)) = 0 then (
          if a2 ≤ (gI σ (a1 + 1) (Int32.toNatClampNeg a3)) then (
            vthen (sI σ 43 (Int32.toNatClampNeg a3) (Int8.toInt32 (Int32.toInt8 (1 : Int32)))) fun σ2 =>
            grd (inb a4 1600) <|
            vthen (sI σ2 42 (Int32.toNatClampNeg a4) a3) fun σ4 =>
            some ((a4 + (1 : Int32)), σ4)
            ) else (
            some (a4, σ)
            )
          ) else (
          some (a4, σ)
          )
        )
      )
    )

set_option maxRecDepth 20000 in
theorem sX0_join {g : GG} {σ : SS} {a1 : Nat} {a2 : Int32} {a3 : Int32} {a4 : Int32} {r : Int32 × SS} (hr : fX0_join σ a1 a2 a3 a4 = some r) (hs1 : shp a1 = (6, 0)) : Ct g mX0_join [.ref (ad g 33), .ref (ad g a1), .int a2, .int a3, .int a4] NF σ (some (.int r.1)) NF r.2 := by
  refine Ct.of (by decide +kernel) (nle rfl) fun hw0 => ?_
  have hw := hw0 rfl
  unfold fX0_join at hr
  change RR g mX0_join (FinR g mX0_join (some (.int r.1)) NF r.2) zF 0 [(0, .ref (ad g 33)), (1, .ref (ad g a1)), (2, .int a2), (3, .int a3), (4, .int a4)] [] σ
  refine r_iload_n (pc := 0) (j := 3) dX0_join_0 rfl rfl ?_
  refine r_if_lt (pc := 1) (tgt := 38) dX0_join_1 rfl (fun hc => ?_) (fun hc => ?_)
  · replace hr := ite_t hc hr
    refine r_iload (pc := 38) (j := 4) dX0_join_38 rfl ?_
    exact l_osi hr (r_iret (pc := 40) (v := a4) rfl rfl ⟨Nat.le_refl _, Nat.le_refl _⟩ dX0_join_40)
  replace hr := ite_f hc hr
  refine r_iload_n (pc := 4) (j := 3) dX0_join_4 rfl rfl ?_
  refine r_sipush (pc := 5) (v := (1600 : Int32)) dX0_join_5 rfl ?_
  refine r_icmp_ge (pc := 8) (tgt := 38) dX0_join_8 rfl (fun hc => ?_) (fun hc => ?_)
  · replace hr := ite_t hc hr
    refine r_iload (pc := 38) (j := 4) dX0_join_38 rfl ?_
    exact l_osi hr (r_iret (pc := 40) (v := a4) rfl rfl ⟨Nat.le_refl _, Nat.le_refl _⟩ dX0_join_40)
  replace hr := ite_f hc hr
  refine r_iload (pc := 11) (j := 4) dX0_join_11 rfl ?_
  refine r_sipush (pc := 13) (v := (1600 : Int32)) dX0_join_13 rfl ?_
  refine r_icmp_ge (pc := 16) (tgt := 38) dX0_join_16 rfl (fun hc => ?_) (fun hc => ?_)
  · replace hr := ite_t hc hr
    refine r_iload (pc := 38) (j := 4) dX0_join_38 rfl ?_
    exact l_osi hr (r_iret (pc := 40) (v := a4) rfl rfl ⟨Nat.le_refl _, Nat.le_refl _⟩ dX0_join_40)
  replace hr := ite_f hc hr
  refine r_aload_n (pc := 19) (j := 0) dX0_join_19 rfl rfl ?_
  refine gf0_10 (pc := 20) tw_1_205 hw dX0_join_20 ?_
  refine r_iload_n (pc := 23) (j := 3) dX0_join_23 rfl rfl ?_
  obtain ⟨h1, hr⟩ := grd_inv hr
  refine x_bald (pc := 24) (k := (Int32.toNatClampNeg a3)) rfl h1 rfl dX0_join_24 ?_
  refine r_if_ne (pc := 25) (tgt := 38) dX0_join_25 rfl (fun hc => ?_) (fun hc => ?_)
  · replace hr := ite_f hc hr
    refine r_iload (pc := 38) (j := 4) dX0_join_38 rfl ?_
    exact l_osi hr (r_iret (pc := 40) (v := a4) rfl rfl ⟨Nat.le_refl _, Nat.le_refl _⟩ dX0_join_40)
  replace hr := ite_t hc hr
  refine r_aload_n (pc := 28) (j := 1) dX0_join_28 rfl rfl ?_
  refine gf6_2 (pc := 29) tw_1_40 hw hs1 dX0_join_29 ?_
  refine r_iload_n (pc := 32) (j := 3) dX0_join_32 rfl rfl ?_
  refine x_iald (pc := 33) (k := (Int32.toNatClampNeg a3)) (sh6_2 hs1) h1 rfl dX0_join_33 ?_
  refine r_iload_n (pc := 34) (j := 2) dX0_join_34 rfl rfl ?_
  refine r_icmp_ge (pc := 35) (tgt := 41) dX0_join_35 rfl (fun hc => ?_) (fun hc => ?_)
  · replace hr := ite_t hc hr
    refine r_aload_n (pc := 41) (j := 0) dX0_join_41 rfl rfl ?_
    refine gf0_10 (pc := 42) tw_1_205 hw dX0_join_42 ?_
    refine r_iload_n (pc := 45) (j := 3) dX0_join_45 rfl rfl ?_
    refine r_iconst (pc := 46) (v := (1 : Int32)) dX0_join_46 rfl ?_
    refine x_bast (pc := 47) (j := (Int32.toNatClampNeg a3)) rfl h1 rfl dX0_join_47 fun σ2 eσ2 => ?_
    replace hr := vthen_inv hr σ2 eσ2
    have hσ2 := wtI eσ2 hw
    refine r_aload_n (pc := 48) (j := 0) dX0_join_48 rfl rfl ?_
    refine gf0_9 (pc := 49) tw_1_204 hσ2 dX0_join_49 ?_
    refine r_iload (pc := 52) (j := 4) dX0_join_52 rfl ?_
    refine r_iload_n (pc := 54) (j := 3) dX0_join_54 rfl rfl ?_
    obtain ⟨h3, hr⟩ := grd_inv hr
    refine x_iast (pc := 55) (j := (Int32.toNatClampNeg a4)) rfl h3 rfl dX0_join_55 fun σ4 eσ4 => ?_
    replace hr := vthen_inv hr σ4 eσ4
    have hσ4 := wtI eσ4 hσ2
    refine r_iload (pc := 56) (j := 4) dX0_join_56 rfl ?_
    refine r_iconst (pc := 58) (v := (1 : Int32)) dX0_join_58 rfl ?_
    refine r_iadd (pc := 59) dX0_join_59 ?_
    exact l_osi hr (r_iret (pc := 60) (v := (a4 + (1 : Int32))) rfl rfl ⟨Nat.le_refl _, Nat.le_refl _⟩ dX0_join_60)
  replace hr := ite_f hc hr
  refine r_iload (pc := 38) (j := 4) dX0_join_38 rfl ?_
  exact l_osi hr (r_iret (pc := 40) (v := a4) rfl rfl ⟨Nat.le_refl _, Nat.le_refl _⟩ dX0_join_40)

theorem kX0_join {g : GG} {σ : SS} {a1 : Nat} {a2 : Int32} {a3 : Int32} {a4 : Int32} {v : Int32} {σ2 : SS} {M : MM} {F : State → Array Value → List Frame → State → Prop} {pc index : Nat} {ls : List (Nat × Value)} {rest : List Value} (hf : fX0_join σ a1 a2 a3 a4 = some (v, σ2)) (hs1 : shp a1 = (6, 0)) (hl : Cond.methodLink M.1.cls index yX0_join ∈ lw_gt) (hR : mX0_join.2.2.2.2.frames + 1 ≤ M.2.2.2.2.frames ∧ 8 + (mX0_join.2.2.1 + 11) + mX0_join.2.2.2.2.locals ≤ M.2.2.2.2.locals) (hrest : (rest.map fun v => v.category).sum ≤ 8) (hd : decode M.2.1 pc = .ok (.invokevirtual index, 3)) (k : WT σ2 → RR g M F zF (pc + 3) ls (.int v :: rest) σ2) : RR g M F zF pc ls (.int a4 :: .int a3 :: .int a2 :: .ref (ad g a1) :: .ref (ad g 33) :: rest) σ :=
  r_callV (z := zF) (N := mX0_join) (nn := 4) (o1 := some (.int v)) (sX0_join hf hs1) (rfl : shp 33 = (0, 0)) (by decide) (shp_le (rfl : shp 33 = (0, 0)) (nle rfl)) (ci := 0) rfl rfl tw_3_225 tw_1_6 hl tw_3_224 tp_20 ⟨by decide, by decide, rfl⟩ hR rfl hrest hd ⟨Nat.zero_le _, Nat.zero_le _⟩ rfl (fun h => k (h rfl))

theorem dX0_gather_0 : decode cX0_gather 0 = .ok (.aload_n 1, 1) := by decide +kernel
theorem dX0_gather_1 : decode cX0_gather 1 = .ok (.getfield 63, 3) := by decide +kernel
theorem dX0_gather_4 : decode cX0_gather 4 = .ok (.istore 4, 2) := by decide +kernel
theorem dX0_gather_6 : decode cX0_gather 6 = .ok (.aload_n 1, 1) := by decide +kernel
theorem dX0_gather_7 : decode cX0_gather 7 = .ok (.invokevirtual 53, 3) := by decide +kernel
theorem dX0_gather_10 : decode cX0_gather 10 = .ok (.istore 5, 2) := by decide +kernel
theorem dX0_gather_12 : decode cX0_gather 12 = .ok (.aload_n 0, 1) := by decide +kernel
theorem dX0_gather_13 : decode cX0_gather 13 = .ok (.aload_n 1, 1) := by decide +kernel
theorem dX0_gather_14 : decode cX0_gather 14 = .ok (.iload_n 2, 1) := by decide +kernel
theorem dX0_gather_15 : decode cX0_gather 15 = .ok (.iload_n 3, 1) := by decide +kernel
theorem dX0_gather_16 : decode cX0_gather 16 = .ok (.iconst 0, 1) := by decide +kernel
theorem dX0_gather_17 : decode cX0_gather 17 = .ok (.invokevirtual 73, 3) := by decide +kernel
theorem dX0_gather_20 : decode cX0_gather 20 = .ok (.istore 6, 2) := by decide +kernel
theorem dX0_gather_22 : decode cX0_gather 22 = .ok (.iconst 0, 1) := by decide +kernel
theorem dX0_gather_23 : decode cX0_gather 23 = .ok (.istore 7, 2) := by decide +kernel
theorem dX0_gather_25 : decode cX0_gather 25 = .ok (.iload 7, 2) := by decide +kernel
theorem dX0_gather_27 : decode cX0_gather 27 = .ok (.iload 6, 2) := by decide +kernel
theorem dX0_gather_29 : decode cX0_gather 29 = .ok (.if_icmp .ge 131, 3) := by decide +kernel
theorem dX0_gather_32 : decode cX0_gather 32 = .ok (.iload 7, 2) := by decide +kernel
theorem dX0_gather_34 : decode cX0_gather 34 = .ok (.sipush 1600, 3) := by decide +kernel
theorem dX0_gather_37 : decode cX0_gather 37 = .ok (.if_icmp .ge 123, 3) := by decide +kernel
theorem dX0_gather_40 : decode cX0_gather 40 = .ok (.aload_n 0, 1) := by decide +kernel
theorem dX0_gather_41 : decode cX0_gather 41 = .ok (.getfield 36, 3) := by decide +kernel
theorem dX0_gather_44 : decode cX0_gather 44 = .ok (.iload 7, 2) := by decide +kernel
theorem dX0_gather_46 : decode cX0_gather 46 = .ok (.iaload, 1) := by decide +kernel
theorem dX0_gather_47 : decode cX0_gather 47 = .ok (.istore 8, 2) := by decide +kernel
theorem dX0_gather_49 : decode cX0_gather 49 = .ok (.iload 4, 2) := by decide +kernel
theorem dX0_gather_51 : decode cX0_gather 51 = .ok (.ifCond .le 11, 3) := by decide +kernel
theorem dX0_gather_54 : decode cX0_gather 54 = .ok (.iload 8, 2) := by decide +kernel
theorem dX0_gather_56 : decode cX0_gather 56 = .ok (.iload 4, 2) := by decide +kernel
theorem dX0_gather_58 : decode cX0_gather 58 = .ok (.irem, 1) := by decide +kernel
theorem dX0_gather_59 : decode cX0_gather 59 = .ok (.goto 4, 3) := by decide +kernel
theorem dX0_gather_62 : decode cX0_gather 62 = .ok (.iconst 0, 1) := by decide +kernel
theorem dX0_gather_63 : decode cX0_gather 63 = .ok (.istore 9, 2) := by decide +kernel
theorem dX0_gather_65 : decode cX0_gather 65 = .ok (.iload 9, 2) := by decide +kernel
theorem dX0_gather_67 : decode cX0_gather 67 = .ok (.ifCond .le 17, 3) := by decide +kernel
theorem dX0_gather_70 : decode cX0_gather 70 = .ok (.aload_n 0, 1) := by decide +kernel
theorem dX0_gather_71 : decode cX0_gather 71 = .ok (.aload_n 1, 1) := by decide +kernel
theorem dX0_gather_72 : decode cX0_gather 72 = .ok (.iload_n 2, 1) := by decide +kernel
theorem dX0_gather_73 : decode cX0_gather 73 = .ok (.iload 8, 2) := by decide +kernel
theorem dX0_gather_75 : decode cX0_gather 75 = .ok (.iconst 1, 1) := by decide +kernel
theorem dX0_gather_76 : decode cX0_gather 76 = .ok (.isub, 1) := by decide +kernel
theorem dX0_gather_77 : decode cX0_gather 77 = .ok (.iload 6, 2) := by decide +kernel
theorem dX0_gather_79 : decode cX0_gather 79 = .ok (.invokevirtual 73, 3) := by decide +kernel
theorem dX0_gather_82 : decode cX0_gather 82 = .ok (.istore 6, 2) := by decide +kernel
theorem dX0_gather_84 : decode cX0_gather 84 = .ok (.iload 9, 2) := by decide +kernel
theorem dX0_gather_86 : decode cX0_gather 86 = .ok (.iload 4, 2) := by decide +kernel
theorem dX0_gather_88 : decode cX0_gather 88 = .ok (.iconst 1, 1) := by decide +kernel
theorem dX0_gather_89 : decode cX0_gather 89 = .ok (.isub, 1) := by decide +kernel
theorem dX0_gather_90 : decode cX0_gather 90 = .ok (.if_icmp .ge 17, 3) := by decide +kernel
theorem dX0_gather_93 : decode cX0_gather 93 = .ok (.aload_n 0, 1) := by decide +kernel
theorem dX0_gather_94 : decode cX0_gather 94 = .ok (.aload_n 1, 1) := by decide +kernel
theorem dX0_gather_95 : decode cX0_gather 95 = .ok (.iload_n 2, 1) := by decide +kernel
theorem dX0_gather_96 : decode cX0_gather 96 = .ok (.iload 8, 2) := by decide +kernel
theorem dX0_gather_98 : decode cX0_gather 98 = .ok (.iconst 1, 1) := by decide +kernel
theorem dX0_gather_99 : decode cX0_gather 99 = .ok (.iadd, 1) := by decide +kernel
theorem dX0_gather_100 : decode cX0_gather 100 = .ok (.iload 6, 2) := by decide +kernel
theorem dX0_gather_102 : decode cX0_gather 102 = .ok (.invokevirtual 73, 3) := by decide +kernel
theorem dX0_gather_105 : decode cX0_gather 105 = .ok (.istore 6, 2) := by decide +kernel
theorem dX0_gather_107 : decode cX0_gather 107 = .ok (.iload 8, 2) := by decide +kernel
theorem dX0_gather_109 : decode cX0_gather 109 = .ok (.iload 4, 2) := by decide +kernel
theorem dX0_gather_111 : decode cX0_gather 111 = .ok (.if_icmp .lt 18, 3) := by decide +kernel
theorem dX0_gather_114 : decode cX0_gather 114 = .ok (.aload_n 0, 1) := by decide +kernel
theorem dX0_gather_115 : decode cX0_gather 115 = .ok (.aload_n 1, 1) := by decide +kernel
theorem dX0_gather_116 : decode cX0_gather 116 = .ok (.iload_n 2, 1) := by decide +kernel
theorem dX0_gather_117 : decode cX0_gather 117 = .ok (.iload 8, 2) := by decide +kernel
theorem dX0_gather_119 : decode cX0_gather 119 = .ok (.iload 4, 2) := by decide +kernel
theorem dX0_gather_121 : decode cX0_gather 121 = .ok (.isub, 1) := by decide +kernel
theorem dX0_gather_122 : decode cX0_gather 122 = .ok (.iload 6, 2) := by decide +kernel
theorem dX0_gather_124 : decode cX0_gather 124 = .ok (.invokevirtual 73, 3) := by decide +kernel
theorem dX0_gather_127 : decode cX0_gather 127 = .ok (.istore 6, 2) := by decide +kernel
theorem dX0_gather_129 : decode cX0_gather 129 = .ok (.iload 8, 2) := by decide +kernel
theorem dX0_gather_131 : decode cX0_gather 131 = .ok (.iload 5, 2) := by decide +kernel
theorem dX0_gather_133 : decode cX0_gather 133 = .ok (.iload 4, 2) := by decide +kernel
theorem dX0_gather_135 : decode cX0_gather 135 = .ok (.isub, 1) := by decide +kernel
theorem dX0_gather_136 : decode cX0_gather 136 = .ok (.if_icmp .ge 18, 3) := by decide +kernel
theorem dX0_gather_139 : decode cX0_gather 139 = .ok (.aload_n 0, 1) := by decide +kernel
theorem dX0_gather_140 : decode cX0_gather 140 = .ok (.aload_n 1, 1) := by decide +kernel
theorem dX0_gather_141 : decode cX0_gather 141 = .ok (.iload_n 2, 1) := by decide +kernel
theorem dX0_gather_142 : decode cX0_gather 142 = .ok (.iload 8, 2) := by decide +kernel
theorem dX0_gather_144 : decode cX0_gather 144 = .ok (.iload 4, 2) := by decide +kernel
theorem dX0_gather_146 : decode cX0_gather 146 = .ok (.iadd, 1) := by decide +kernel
theorem dX0_gather_147 : decode cX0_gather 147 = .ok (.iload 6, 2) := by decide +kernel
theorem dX0_gather_149 : decode cX0_gather 149 = .ok (.invokevirtual 73, 3) := by decide +kernel
theorem dX0_gather_152 : decode cX0_gather 152 = .ok (.istore 6, 2) := by decide +kernel
theorem dX0_gather_154 : decode cX0_gather 154 = .ok (.iinc 7 1, 3) := by decide +kernel
theorem dX0_gather_157 : decode cX0_gather 157 = .ok (.goto (-132), 3) := by decide +kernel
theorem dX0_gather_160 : decode cX0_gather 160 = .ok (.iload 6, 2) := by decide +kernel
theorem dX0_gather_162 : decode cX0_gather 162 = .ok (.ireturn, 1) := by decide +kernel
def mX0_gather : MM := (yX0_gather, cX0_gather, 10, Option.some Jvm.ClassFile.FieldType.int, { frames := 1, cells := 0, slots := 0, locals := 24 })
def X0_gather_L25 (o1_ : Nat) (u2_ : Int32) (u4_ : Int32) (u5_ : Int32)  : Nat → Int32 → Int32 → SS → Option (Int32 × SS) :=
  lp (fun _ _ _ => none) fun rec v6_ v7_ σ_ =>
    if v6_ ≤ v7_ then (
      some (v6_, σ_)
      ) else (
      if (1600 : Int32) ≤ v7_ then (
        some (v6_, σ_)
        ) else (
        grd (inb v7_ 1600) <|
        vthen (gI σ_ 42 (Int32.toNatClampNeg v7_)) fun v8 =>
        vthen (fun (s9 : Int32) =>
          vthen (fun (v10 : Int32) (σ11 : SS) =>
            vthen (fun (v12 : Int32) (σ13 : SS) =>
              vthen (fun (v14 : Int32) (σ15 : SS) =>
                if (u5_ - u4_) ≤ v8 then (
                  rec v14 (v7_ + (1 : Int32)) σ15
                  ) else (
                  bnd (fX0_join σ15 o1_ u2_ (v8 + u4_) v14) fun v16 σ19 =>
                  rec v16 (v7_ + (1 : Int32)) σ19
                  )
                ) fun j129 =>
              if v8 < u4_ then (
                j129 v12 σ13
                ) else (
                bnd (fX0_join σ13 o1_ u2_ (v8 - u4_) v12) fun v20 σ23 =>
                j129 v20 σ23
                )
              ) fun j107 =>
            if (u4_ - (1 : Int32)) ≤ s9 then (
              j107 v10 σ11
              ) else (
              bnd (fX0_join σ11 o1_ u2_ (v8 + (1 : Int32)) v10) fun v24 σ27 =>
              j107 v24 σ27
              )
            ) fun j84 =>
          if s9 ≤ 0 then (
            j84 v6_ σ_
            ) else (
            bnd (fX0_join σ_ o1_ u2_ (v8 - (1 : Int32)) v6_) fun v28 σ31 =>
            j84 v28 σ31
            )
          ) fun j63 =>
        if u4_ ≤ 0 then (
          j63 (0 : Int32)
          ) else (
          grd (nz u4_) <|
          j63 (irm v8 u4_)
          )
        )
      )

def fX0_gather (σ : SS) (a1 : Nat) (a2 : Int32) (a3 : Int32) : Option (Int32 × SS) :=
  vthen (gI σ a1 0) fun v1 =>
  vthen (fX6_size σ a1) fun v2 =>
  bnd (fX0_join σ a1 a2 a3 (0 : Int32)) fun v3 σ6 =>
  X0_gather_L25 a1 a2 v1 v2
  fuel v3 (0 : Int32) σ6

set_option maxRecDepth 20000 in
theorem sX0_gather_L25 {g : GG} {r : Int32 × SS} {o1_ : Nat} {u2_ : Int32} {u4_ : Int32} {u5_ : Int32}  (hs1_ : shp o1_ = (6, 0))
    (n : Nat) : ∀ (v6_ : Int32) (v7_ : Int32) (σ_ : SS), X0_gather_L25 o1_ u2_ u4_ u5_ n v6_ v7_ σ_ = some r → WT σ_ → RR g mX0_gather (FinR g mX0_gather (some (.int r.1)) NF r.2) zF 25 [(0, .ref (ad g 33)), (1, .ref (ad g o1_)), (2, .int u2_), (4, .int u4_), (5, .int u5_), (6, .int v6_), (7, .int v7_)] [] σ_ := by
  unfold X0_gather_L25
  refine lp_ind (P := fun (rec : Int32 → Int32 → SS → Option (Int32 × SS)) => ∀ (v6_ : Int32) (v7_ : Int32) (σ_ : SS), rec v6_ v7_ σ_ = some r → WT σ_ → RR g mX0_gather (FinR g mX0_gather (some (.int r.1)) NF r.2) zF 25 [(0, .ref (ad g 33)), (1, .ref (ad g o1_)), (2, .int u2_), (4, .int u4_), (5, .int u5_), (6, .int v6_), (7, .int v7_)] [] σ_) ?_ ?_ n
  · intro v6_ v7_ σ_ hr; cases hr
  intro rec ih v6_ v7_ σ_ hr hw_
  refine r_iload (pc := 25) (j := 6) dX0_gather_25 rfl ?_
  refine r_iload (pc := 27) (j := 5) dX0_gather_27 rfl ?_
  refine r_icmp_ge (pc := 29) (tgt := 160) dX0_gather_29 rfl (fun hc => ?_) (fun hc => ?_)
  · replace hr := ite_t hc hr
    refine r_iload (pc := 160) (j := 5) dX0_gather_160 rfl ?_
    exact l_osi hr (r_iret (pc := 162) (v := v6_) rfl rfl ⟨Nat.le_refl _, Nat.le_refl _⟩ dX0_gather_162)
  replace hr := ite_f hc hr
  refine r_iload (pc := 32) (j := 6) dX0_gather_32 rfl ?_
  refine r_sipush (pc := 34) (v := (1600 : Int32)) dX0_gather_34 rfl ?_
  refine r_icmp_ge (pc := 37) (tgt := 160) dX0_gather_37 rfl (fun hc => ?_) (fun hc => ?_)
  · replace hr := ite_t hc hr
    refine r_iload (pc := 160) (j := 5) dX0_gather_160 rfl ?_
    exact l_osi hr (r_iret (pc := 162) (v := v6_) rfl rfl ⟨Nat.le_refl _, Nat.le_refl _⟩ dX0_gather_162)
  replace hr := ite_f hc hr
  refine r_aload_n (pc := 40) (j := 0) dX0_gather_40 rfl rfl ?_
  refine gf0_9 (pc := 41) tw_1_204 hw_ dX0_gather_41 ?_
  refine r_iload (pc := 44) (j := 6) dX0_gather_44 rfl ?_
  obtain ⟨h7, hr⟩ := grd_inv hr
  refine x_iald (pc := 46) (k := (Int32.toNatClampNeg v7_)) rfl h7 rfl dX0_gather_46 ?_
  refine r_topi fun v8 ev8 => ?_
  replace hr := vthen_inv hr v8 ev8
  refine r_istore (pc := 47) (ls1 := [(8, .int v8), (0, .ref (ad g 33)), (1, .ref (ad g o1_)), (2, .int u2_), (4, .int u4_), (5, .int u5_), (6, .int v6_), (7, .int v7_)]) dX0_gather_47 (nle rfl) rfl ?_
  refine r_iload (pc := 49) (j := 4) dX0_gather_49 rfl ?_
  obtain ⟨j63, ej63, hr⟩ := vth_ex hr
  have hj63 : ∀ (s9 : Int32), j63 s9 = some r → RR g mX0_gather (FinR g mX0_gather (some (.int r.1)) NF r.2) zF 63 [(0, .ref (ad g 33)), (1, .ref (ad g o1_)), (2, .int u2_), (4, .int u4_), (5, .int u5_), (6, .int v6_), (7, .int v7_), (8, .int v8)] [.int s9] σ_ := by
    intro s9 hr
    replace hr := (congrFun ej63 s9).symm.trans hr
    refine r_istore (pc := 63) (ls1 := [(9, .int s9), (0, .ref (ad g 33)), (1, .ref (ad g o1_)), (2, .int u2_), (4, .int u4_), (5, .int u5_), (6, .int v6_), (7, .int v7_), (8, .int v8)]) dX0_gather_63 (nle rfl) rfl ?_
    refine r_iload (pc := 65) (j := 0) dX0_gather_65 rfl ?_
    obtain ⟨j84, ej84, hr⟩ := vth_ex hr
    have hj84 : ∀ (v10 : Int32) (σ11 : SS), j84 v10 σ11 = some r → WT σ11 → RR g mX0_gather (FinR g mX0_gather (some (.int r.1)) NF r.2) zF 84 [(0, .ref (ad g 33)), (1, .ref (ad g o1_)), (2, .int u2_), (4, .int u4_), (5, .int u5_), (6, .int v10), (7, .int v7_), (8, .int v8), (9, .int s9)] [] σ11 := by
      intro v10 σ11 hr hσ11
      replace hr := (congrFun (congrFun ej84 v10) σ11).symm.trans hr
      refine r_iload (pc := 84) (j := 8) dX0_gather_84 rfl ?_
      refine r_iload (pc := 86) (j := 3) dX0_gather_86 rfl ?_
      refine r_iconst (pc := 88) (v := (1 : Int32)) dX0_gather_88 rfl ?_
      refine r_isub (pc := 89) dX0_gather_89 ?_
      obtain ⟨j107, ej107, hr⟩ := vth_ex hr
      have hj107 : ∀ (v12 : Int32) (σ13 : SS), j107 v12 σ13 = some r → WT σ13 → RR g mX0_gather (FinR g mX0_gather (some (.int r.1)) NF r.2) zF 107 [(0, .ref (ad g 33)), (1, .ref (ad g o1_)), (2, .int u2_), (4, .int u4_), (5, .int u5_), (6, .int v12), (7, .int v7_), (8, .int v8)] [] σ13 := by
        intro v12 σ13 hr hσ13
        replace hr := (congrFun (congrFun ej107 v12) σ13).symm.trans hr
        refine r_iload (pc := 107) (j := 7) dX0_gather_107 rfl ?_
        refine r_iload (pc := 109) (j := 3) dX0_gather_109 rfl ?_
        obtain ⟨j129, ej129, hr⟩ := vth_ex hr
        have hj129 : ∀ (v14 : Int32) (σ15 : SS), j129 v14 σ15 = some r → WT σ15 → RR g mX0_gather (FinR g mX0_gather (some (.int r.1)) NF r.2) zF 129 [(0, .ref (ad g 33)), (1, .ref (ad g o1_)), (2, .int u2_), (4, .int u4_), (5, .int u5_), (6, .int v14), (7, .int v7_), (8, .int v8)] [] σ15 := by
          intro v14 σ15 hr hσ15
          replace hr := (congrFun (congrFun ej129 v14) σ15).symm.trans hr
          refine r_iload (pc := 129) (j := 7) dX0_gather_129 rfl ?_
          refine r_iload (pc := 131) (j := 4) dX0_gather_131 rfl ?_
          refine r_iload (pc := 133) (j := 3) dX0_gather_133 rfl ?_
          refine r_isub (pc := 135) dX0_gather_135 ?_
          refine r_icmp_ge (pc := 136) (tgt := 154) dX0_gather_136 rfl (fun hc => ?_) (fun hc => ?_)
          · replace hr := ite_t hc hr
            refine r_iinc (pc := 154) (j := 6) (v := (v7_ + (1 : Int32))) (ls1 := [(7, .int (v7_ + (1 : Int32))), (0, .ref (ad g 33)), (1, .ref (ad g o1_)), (2, .int u2_), (4, .int u4_), (5, .int u5_), (6, .int v14), (8, .int v8)]) dX0_gather_154 rfl rfl (nle rfl) rfl ?_
            refine r_goto (pc := 157) (tgt := 25) dX0_gather_157 rfl ?_
            exact r_pick (ls1 := [(0, .ref (ad g 33)), (1, .ref (ad g o1_)), (2, .int u2_), (4, .int u4_), (5, .int u5_), (6, .int v14), (7, .int (v7_ + (1 : Int32)))]) [1, 2, 3, 4, 5, 6, 0] rfl (ih v14 (v7_ + (1 : Int32)) σ15 hr hσ15)
          replace hr := ite_f hc hr
          refine r_aload_n (pc := 139) (j := 0) dX0_gather_139 rfl rfl ?_
          refine r_aload_n (pc := 140) (j := 1) dX0_gather_140 rfl rfl ?_
          refine r_iload_n (pc := 141) (j := 2) dX0_gather_141 rfl rfl ?_
          refine r_iload (pc := 142) (j := 7) dX0_gather_142 rfl ?_
          refine r_iload (pc := 144) (j := 3) dX0_gather_144 rfl ?_
          refine r_iadd (pc := 146) dX0_gather_146 ?_
          refine r_iload (pc := 147) (j := 5) dX0_gather_147 rfl ?_
          obtain ⟨v16, σ19, eσ19, hr⟩ := bnd_inv hr
          refine kX0_join (pc := 149) eσ19 hs1_ tw_3_222 ⟨nle rfl, nle rfl⟩ (nle rfl) dX0_gather_149 fun hσ19 => ?_
          refine r_istore (pc := 152) (ls1 := [(6, .int v16), (0, .ref (ad g 33)), (1, .ref (ad g o1_)), (2, .int u2_), (4, .int u4_), (5, .int u5_), (7, .int v7_), (8, .int v8)]) dX0_gather_152 (nle rfl) rfl ?_
          refine r_iinc (pc := 154) (j := 6) (v := (v7_ + (1 : Int32))) (ls1 := [(7, .int (v7_ + (1 : Int32))), (6, .int v16), (0, .ref (ad g 33)), (1, .ref (ad g o1_)), (2, .int u2_), (4, .int u4_), (5, .int u5_), (8, .int v8)]) dX0_gather_154 rfl rfl (nle rfl) rfl ?_
          refine r_goto (pc := 157) (tgt := 25) dX0_gather_157 rfl ?_
          exact r_pick (ls1 := [(0, .ref (ad g 33)), (1, .ref (ad g o1_)), (2, .int u2_), (4, .int u4_), (5, .int u5_), (6, .int v16), (7, .int (v7_ + (1 : Int32)))]) [2, 3, 4, 5, 6, 1, 0] rfl (ih v16 (v7_ + (1 : Int32)) σ19 hr hσ19)
        refine r_icmp_lt (pc := 111) (tgt := 129) dX0_gather_111 rfl (fun hc => ?_) (fun hc => ?_)
        · replace hr := ite_t hc hr
          exact r_pick (ls1 := [(0, .ref (ad g 33)), (1, .ref (ad g o1_)), (2, .int u2_), (4, .int u4_), (5, .int u5_), (6, .int v12), (7, .int v7_), (8, .int v8)]) [0, 1, 2, 3, 4, 5, 6, 7] rfl (hj129 v12 σ13 hr hσ13)
        replace hr := ite_f hc hr
        refine r_aload_n (pc := 114) (j := 0) dX0_gather_114 rfl rfl ?_
        refine r_aload_n (pc := 115) (j := 1) dX0_gather_115 rfl rfl ?_
        refine r_iload_n (pc := 116) (j := 2) dX0_gather_116 rfl rfl ?_
        refine r_iload (pc := 117) (j := 7) dX0_gather_117 rfl ?_
        refine r_iload (pc := 119) (j := 3) dX0_gather_119 rfl ?_
        refine r_isub (pc := 121) dX0_gather_121 ?_
        refine r_iload (pc := 122) (j := 5) dX0_gather_122 rfl ?_
        obtain ⟨v20, σ23, eσ23, hr⟩ := bnd_inv hr
        refine kX0_join (pc := 124) eσ23 hs1_ tw_3_222 ⟨nle rfl, nle rfl⟩ (nle rfl) dX0_gather_124 fun hσ23 => ?_
        refine r_istore (pc := 127) (ls1 := [(6, .int v20), (0, .ref (ad g 33)), (1, .ref (ad g o1_)), (2, .int u2_), (4, .int u4_), (5, .int u5_), (7, .int v7_), (8, .int v8)]) dX0_gather_127 (nle rfl) rfl ?_
        exact r_pick (ls1 := [(0, .ref (ad g 33)), (1, .ref (ad g o1_)), (2, .int u2_), (4, .int u4_), (5, .int u5_), (6, .int v20), (7, .int v7_), (8, .int v8)]) [1, 2, 3, 4, 5, 0, 6, 7] rfl (hj129 v20 σ23 hr hσ23)
      refine r_icmp_ge (pc := 90) (tgt := 107) dX0_gather_90 rfl (fun hc => ?_) (fun hc => ?_)
      · replace hr := ite_t hc hr
        exact r_pick (ls1 := [(0, .ref (ad g 33)), (1, .ref (ad g o1_)), (2, .int u2_), (4, .int u4_), (5, .int u5_), (6, .int v10), (7, .int v7_), (8, .int v8)]) [0, 1, 2, 3, 4, 5, 6, 7] rfl (hj107 v10 σ11 hr hσ11)
      replace hr := ite_f hc hr
      refine r_aload_n (pc := 93) (j := 0) dX0_gather_93 rfl rfl ?_
      refine r_aload_n (pc := 94) (j := 1) dX0_gather_94 rfl rfl ?_
      refine r_iload_n (pc := 95) (j := 2) dX0_gather_95 rfl rfl ?_
      refine r_iload (pc := 96) (j := 7) dX0_gather_96 rfl ?_
      refine r_iconst (pc := 98) (v := (1 : Int32)) dX0_gather_98 rfl ?_
      refine r_iadd (pc := 99) dX0_gather_99 ?_
      refine r_iload (pc := 100) (j := 5) dX0_gather_100 rfl ?_
      obtain ⟨v24, σ27, eσ27, hr⟩ := bnd_inv hr
      refine kX0_join (pc := 102) eσ27 hs1_ tw_3_222 ⟨nle rfl, nle rfl⟩ (nle rfl) dX0_gather_102 fun hσ27 => ?_
      refine r_istore (pc := 105) (ls1 := [(6, .int v24), (0, .ref (ad g 33)), (1, .ref (ad g o1_)), (2, .int u2_), (4, .int u4_), (5, .int u5_), (7, .int v7_), (8, .int v8), (9, .int s9)]) dX0_gather_105 (nle rfl) rfl ?_
      exact r_pick (ls1 := [(0, .ref (ad g 33)), (1, .ref (ad g o1_)), (2, .int u2_), (4, .int u4_), (5, .int u5_), (6, .int v24), (7, .int v7_), (8, .int v8)]) [1, 2, 3, 4, 5, 0, 6, 7] rfl (hj107 v24 σ27 hr hσ27)
    refine r_if_le (pc := 67) (tgt := 84) dX0_gather_67 rfl (fun hc => ?_) (fun hc => ?_)
    · replace hr := ite_t hc hr
      exact r_pick (ls1 := [(0, .ref (ad g 33)), (1, .ref (ad g o1_)), (2, .int u2_), (4, .int u4_), (5, .int u5_), (6, .int v6_), (7, .int v7_), (8, .int v8), (9, .int s9)]) [1, 2, 3, 4, 5, 6, 7, 8, 0] rfl (hj84 v6_ σ_ hr hw_)
    replace hr := ite_f hc hr
    refine r_aload_n (pc := 70) (j := 1) dX0_gather_70 rfl rfl ?_
    refine r_aload_n (pc := 71) (j := 2) dX0_gather_71 rfl rfl ?_
    refine r_iload_n (pc := 72) (j := 3) dX0_gather_72 rfl rfl ?_
    refine r_iload (pc := 73) (j := 8) dX0_gather_73 rfl ?_
    refine r_iconst (pc := 75) (v := (1 : Int32)) dX0_gather_75 rfl ?_
    refine r_isub (pc := 76) dX0_gather_76 ?_
    refine r_iload (pc := 77) (j := 6) dX0_gather_77 rfl ?_
    obtain ⟨v28, σ31, eσ31, hr⟩ := bnd_inv hr
    refine kX0_join (pc := 79) eσ31 hs1_ tw_3_222 ⟨nle rfl, nle rfl⟩ (nle rfl) dX0_gather_79 fun hσ31 => ?_
    refine r_istore (pc := 82) (ls1 := [(6, .int v28), (9, .int s9), (0, .ref (ad g 33)), (1, .ref (ad g o1_)), (2, .int u2_), (4, .int u4_), (5, .int u5_), (7, .int v7_), (8, .int v8)]) dX0_gather_82 (nle rfl) rfl ?_
    exact r_pick (ls1 := [(0, .ref (ad g 33)), (1, .ref (ad g o1_)), (2, .int u2_), (4, .int u4_), (5, .int u5_), (6, .int v28), (7, .int v7_), (8, .int v8), (9, .int s9)]) [2, 3, 4, 5, 6, 0, 7, 8, 1] rfl (hj84 v28 σ31 hr hσ31)
  refine r_if_le (pc := 51) (tgt := 62) dX0_gather_51 rfl (fun hc => ?_) (fun hc => ?_)
  · replace hr := ite_t hc hr
    refine r_iconst (pc := 62) (v := (0 : Int32)) dX0_gather_62 rfl ?_
    exact r_pick (ls1 := [(0, .ref (ad g 33)), (1, .ref (ad g o1_)), (2, .int u2_), (4, .int u4_), (5, .int u5_), (6, .int v6_), (7, .int v7_), (8, .int v8)]) [1, 2, 3, 4, 5, 6, 7, 0] rfl (hj63 (0 : Int32) hr)
  replace hr := ite_f hc hr
  refine r_iload (pc := 54) (j := 0) dX0_gather_54 rfl ?_
  refine r_iload (pc := 56) (j := 4) dX0_gather_56 rfl ?_
  obtain ⟨h32, hr⟩ := grd_inv hr
  refine r_irem (pc := 58) dX0_gather_58 (nz_ne h32) ?_
  refine r_goto (pc := 59) (tgt := 63) dX0_gather_59 rfl ?_
  exact r_pick (ls1 := [(0, .ref (ad g 33)), (1, .ref (ad g o1_)), (2, .int u2_), (4, .int u4_), (5, .int u5_), (6, .int v6_), (7, .int v7_), (8, .int v8)]) [1, 2, 3, 4, 5, 6, 7, 0] rfl (hj63 (irm v8 u4_) hr)

set_option maxRecDepth 20000 in
theorem sX0_gather {g : GG} {σ : SS} {a1 : Nat} {a2 : Int32} {a3 : Int32} {r : Int32 × SS} (hr : fX0_gather σ a1 a2 a3 = some r) (hs1 : shp a1 = (6, 0)) : Ct g mX0_gather [.ref (ad g 33), .ref (ad g a1), .int a2, .int a3] NF σ (some (.int r.1)) NF r.2 := by
  refine Ct.of (by decide +kernel) (nle rfl) fun hw0 => ?_
  have hw := hw0 rfl
  unfold fX0_gather at hr
  change RR g mX0_gather (FinR g mX0_gather (some (.int r.1)) NF r.2) zF 0 [(0, .ref (ad g 33)), (1, .ref (ad g a1)), (2, .int a2), (3, .int a3)] [] σ
  refine r_aload_n (pc := 0) (j := 1) dX0_gather_0 rfl rfl ?_
  refine gf6_0 (pc := 1) tw_1_34 hs1 dX0_gather_1 ?_
  refine r_topi fun v1 ev1 => ?_
  replace hr := vthen_inv hr v1 ev1
  refine r_istore (pc := 4) (ls1 := [(4, .int v1), (0, .ref (ad g 33)), (1, .ref (ad g a1)), (2, .int a2), (3, .int a3)]) dX0_gather_4 (nle rfl) rfl ?_
  refine r_aload_n (pc := 6) (j := 2) dX0_gather_6 rfl rfl ?_
  refine kX6_size (pc := 7) (hf := rfl) hs1 tw_3_214 ⟨nle rfl, nle rfl⟩ (nle rfl) dX0_gather_7 ?_
  refine r_topi fun v2 ev2 => ?_
  replace hr := vthen_inv hr v2 ev2
  refine r_istore (pc := 10) (ls1 := [(5, .int v2), (4, .int v1), (0, .ref (ad g 33)), (1, .ref (ad g a1)), (2, .int a2), (3, .int a3)]) dX0_gather_10 (nle rfl) rfl ?_
  refine r_aload_n (pc := 12) (j := 2) dX0_gather_12 rfl rfl ?_
  refine r_aload_n (pc := 13) (j := 3) dX0_gather_13 rfl rfl ?_
  refine r_iload_n (pc := 14) (j := 4) dX0_gather_14 rfl rfl ?_
  refine r_iload_n (pc := 15) (j := 5) dX0_gather_15 rfl rfl ?_
  refine r_iconst (pc := 16) (v := (0 : Int32)) dX0_gather_16 rfl ?_
  obtain ⟨v3, σ6, eσ6, hr⟩ := bnd_inv hr
  refine kX0_join (pc := 17) eσ6 hs1 tw_3_222 ⟨nle rfl, nle rfl⟩ (nle rfl) dX0_gather_17 fun hσ6 => ?_
  refine r_istore (pc := 20) (ls1 := [(6, .int v3), (5, .int v2), (4, .int v1), (0, .ref (ad g 33)), (1, .ref (ad g a1)), (2, .int a2), (3, .int a3)]) dX0_gather_20 (nle rfl) rfl ?_
  refine r_iconst (pc := 22) (v := (0 : Int32)) dX0_gather_22 rfl ?_
  refine r_istore (pc := 23) (ls1 := [(7, .int (0 : Int32)), (6, .int v3), (5, .int v2), (4, .int v1), (0, .ref (ad g 33)), (1, .ref (ad g a1)), (2, .int a2), (3, .int a3)]) dX0_gather_23 (nle rfl) rfl ?_
  refine r_pick (ls1 := [(0, .ref (ad g 33)), (1, .ref (ad g a1)), (2, .int a2), (4, .int v1), (5, .int v2), (6, .int v3), (7, .int (0 : Int32))]) [4, 5, 6, 3, 2, 1, 0] rfl ?_
  refine sX0_gather_L25 hs1    fuel v3 (0 : Int32) σ6 hr hσ6

theorem kX0_gather {g : GG} {σ : SS} {a1 : Nat} {a2 : Int32} {a3 : Int32} {v : Int32} {σ2 : SS} {M : MM} {F : State → Array Value → List Frame → State → Prop} {pc index : Nat} {ls : List (Nat × Value)} {rest : List Value} (hf : fX0_gather σ a1 a2 a3 = some (v, σ2)) (hs1 : shp a1 = (6, 0)) (hl : Cond.methodLink M.1.cls index yX0_gather ∈ lw_gt) (hR : mX0_gather.2.2.2.2.frames + 1 ≤ M.2.2.2.2.frames ∧ 8 + (mX0_gather.2.2.1 + 11) + mX0_gather.2.2.2.2.locals ≤ M.2.2.2.2.locals) (hrest : (rest.map fun v => v.category).sum ≤ 8) (hd : decode M.2.1 pc = .ok (.invokevirtual index, 3)) (k : WT σ2 → RR g M F zF (pc + 3) ls (.int v :: rest) σ2) : RR g M F zF pc ls (.int a3 :: .int a2 :: .ref (ad g a1) :: .ref (ad g 33) :: rest) σ :=
  r_callV (z := zF) (N := mX0_gather) (nn := 3) (o1 := some (.int v)) (sX0_gather hf hs1) (rfl : shp 33 = (0, 0)) (by decide) (shp_le (rfl : shp 33 = (0, 0)) (nle rfl)) (ci := 0) rfl rfl tw_3_221 tw_1_6 hl tw_3_220 tp_19 ⟨by decide, by decide, rfl⟩ hR rfl hrest hd ⟨Nat.zero_le _, Nat.zero_le _⟩ rfl (fun h => k (h rfl))

