theorem dX6_empty_0 : decode cX6_empty 0 = .ok (.aload_n 0, 1) := by decide +kernel
theorem dX6_empty_1 : decode cX6_empty 1 = .ok (.iload_n 1, 1) := by decide +kernel
theorem dX6_empty_2 : decode cX6_empty 2 = .ok (.putfield 18, 3) := by decide +kernel
theorem dX6_empty_5 : decode cX6_empty 5 = .ok (.aload_n 0, 1) := by decide +kernel
theorem dX6_empty_6 : decode cX6_empty 6 = .ok (.iload_n 2, 1) := by decide +kernel
theorem dX6_empty_7 : decode cX6_empty 7 = .ok (.putfield 22, 3) := by decide +kernel
theorem dX6_empty_10 : decode cX6_empty 10 = .ok (.aload_n 0, 1) := by decide +kernel
theorem dX6_empty_11 : decode cX6_empty 11 = .ok (.getfield 9, 3) := by decide +kernel
theorem dX6_empty_14 : decode cX6_empty 14 = .ok (.iconst 0, 1) := by decide +kernel
theorem dX6_empty_15 : decode cX6_empty 15 = .ok (.invokestatic 25, 3) := by decide +kernel
theorem dX6_empty_18 : decode cX6_empty 18 = .ok (.return_, 1) := by decide +kernel
def mX6_empty : MM := (yX6_empty, cX6_empty, 3, none, { frames := 1, cells := 0, slots := 0, locals := 23 })
def fX6_empty (σ : SS) (a0 : Nat) (a1 : Int32) (a2 : Int32) : Option SS :=
  vthen (sI σ a0 0 a1) fun σ1 =>
  vthen (sI σ1 a0 1 a2) fun σ2 =>
  vthen (flI σ2 (a0 + 1) 1600 (0 : Int32)) fun σ3 =>
  some σ3

set_option maxRecDepth 20000 in
theorem sX6_empty {g : GG} {σ : SS} {a0 : Nat} {a1 : Int32} {a2 : Int32} {r : SS} (hr : fX6_empty σ a0 a1 a2 = some r) (hs0 : shp a0 = (6, 0)) : Ct g mX6_empty [.ref (ad g a0), .int a1, .int a2] NF σ none NF r := by
  refine Ct.of (by decide +kernel) (nle rfl) fun hw0 => ?_
  have hw := hw0 rfl
  unfold fX6_empty at hr
  change RR g mX6_empty (FinR g mX6_empty none NF r) zF 0 [(0, .ref (ad g a0)), (1, .int a1), (2, .int a2)] [] σ
  refine r_aload_n (pc := 0) (j := 0) dX6_empty_0 rfl rfl ?_
  refine r_iload_n (pc := 1) (j := 1) dX6_empty_1 rfl rfl ?_
  refine pf6_0 (pc := 2) tw_1_31 hs0 dX6_empty_2 fun σ1 eσ1 => ?_
  replace hr := vthen_inv hr σ1 eσ1
  have hσ1 := wtI eσ1 hw
  refine r_aload_n (pc := 5) (j := 0) dX6_empty_5 rfl rfl ?_
  refine r_iload_n (pc := 6) (j := 2) dX6_empty_6 rfl rfl ?_
  refine pf6_1 (pc := 7) tw_1_36 hs0 dX6_empty_7 fun σ2 eσ2 => ?_
  replace hr := vthen_inv hr σ2 eσ2
  have hσ2 := wtI eσ2 hσ1
  refine r_aload_n (pc := 10) (j := 0) dX6_empty_10 rfl rfl ?_
  refine gf6_2 (pc := 11) tw_1_38 hσ2 hs0 dX6_empty_11 ?_
  refine r_iconst (pc := 14) (v := (0 : Int32)) dX6_empty_14 rfl ?_
  refine x_flI (pc := 15) (σ := σ2) (c0 := (a0 + 1)) (n := 1600) (v := (0 : Int32)) (sh6_2 hs0) tw_2_100 ⟨nle rfl, nle rfl⟩ (nle rfl) dX6_empty_15 fun σ3 eσ3 => ?_
  replace hr := vthen_inv hr σ3 eσ3
  have hσ3 := wtFI eσ3 hσ2
  exact l_ov hr (r_vret (pc := 18) rfl rfl ⟨Nat.le_refl _, Nat.le_refl _⟩ dX6_empty_18)

theorem kX6_empty {g : GG} {σ : SS} {a0 : Nat} {a1 : Int32} {a2 : Int32} {σ2 : SS} {M : MM} {F : State → Array Value → List Frame → State → Prop} {pc index : Nat} {ls : List (Nat × Value)} {rest : List Value} (hf : fX6_empty σ a0 a1 a2 = some σ2) (hs0 : shp a0 = (6, 0)) (hl : Cond.methodLink M.1.cls index yX6_empty ∈ lw_gt) (hR : mX6_empty.2.2.2.2.frames + 1 ≤ M.2.2.2.2.frames ∧ 8 + (mX6_empty.2.2.1 + 11) + mX6_empty.2.2.2.2.locals ≤ M.2.2.2.2.locals) (hrest : (rest.map fun v => v.category).sum ≤ 8) (hd : decode M.2.1 pc = .ok (.invokevirtual index, 3)) (k : WT σ2 → RR g M F zF (pc + 3) ls rest σ2) : RR g M F zF pc ls (.int a2 :: .int a1 :: .ref (ad g a0) :: rest) σ :=
  r_callV (z := zF) (N := mX6_empty) (nn := 2) (o1 := none) (sX6_empty hf hs0) hs0 (by decide) (shp_le hs0 (nle rfl)) (ci := 6) rfl rfl tw_2_99 tw_1_2 hl tw_2_97 tw_2_98 ⟨by decide, by decide, rfl⟩ hR rfl hrest hd ⟨Nat.zero_le _, Nat.zero_le _⟩ rfl (fun h => k (h rfl))

